set_option maxHeartbeats 4000000 in
set_option maxRecDepth 100000 in
theorem cX10_dawns_1 (l : Launch) (D : va_G) (cA : Nat → ClassId) (q0 q1 q2 q3 q4 q5 q6 q7 q8 q9 q10 q11 q12 q13 q14 q15 q16 q17 q18 q19 q20 q21 q22 q23 q24 q25 q26 q27 q28 : Nat) (a0 : Int32) (g0 : a0.toInt ≤ -2) : ms_Mi l yX10_dawns wsX10_dawns ({ frames := 2, cells := 0, slots := 0, locals := 85 } : Room) D cA [.ref q0, .int a0] [(q0, .inr (10, [.ref q7, .ref q6, .ref q1, .ref q8, .ref q9, .int 0, .ref q2, .ref q10, .ref q11, .ref q3, .ref q12, .ref q13])), (q1, .inr (8, [.ref q4, .int 0, .int 0, .int 0, .int (-1), .int (-1)])), (q2, .inr (5, [.ref q14, .ref q15, .ref q16, .ref q17, .int 0, .ref q18, .ref q19, .int 0])), (q3, .inr (4, [.ref q20, .int 0, .ref q5, .int 0])), (q4, .inl (cA 0, 9, .inl ms_z)), (q5, .inl (cA 0, 9, .inl ms_z)), (q6, .inr (2, [.int 0, .int 0, .int 0, .int 0, .int 0, .ref q21, .ref q22, .ref q23, .ref q24, .ref q25, .ref q26, .ref q27, .ref q28]))] (fun (r : Int32) (_ : Unit) => r = (-1)) (fun (_ : Unit) => [(q0, .inr (10, [.ref q7, .ref q6, .ref q1, .ref q8, .ref q9, .int 0, .ref q2, .ref q10, .ref q11, .ref q3, .ref q12, .ref q13])), (q1, .inr (8, [.ref q4, .int 0, .int 0, .int 0, .int (-1), .int (-1)])), (q2, .inr (5, [.ref q14, .ref q15, .ref q16, .ref q17, .int 0, .ref q18, .ref q19, .int 0])), (q3, .inr (4, [.ref q20, .int 0, .ref q5, .int 0])), (q4, .inl (cA 0, 9, .inl ms_z)), (q5, .inl (cA 0, 9, .inl ms_z)), (q6, .inr (2, [.int 0, .int 0, .int 0, .int 0, .int 0, .ref q21, .ref q22, .ref q23, .ref q24, .ref q25, .ref q26, .ref q27, .ref q28]))]) := by
  refine ms_Mi_of (cc := cX10_dawns) (maxL := 2) (ret := (some .int)) (by decide) rfl (Nat.le_of_ble_eq_true rfl) ?_
  intro p e s m args below meth c A ls hB hE hA hP hD hS hl
  obtain ⟨hx, hb, hr, hml, hown, hts, hlk, hnm⟩ := hB
  have hown : s.vm.findClass RX10 = some m.cls := hown
  have hnX5 : ∀ w ∈ u_ws RX5 TX5 8, w ∈ wsX10_dawns := fun _ h => List.mem_cons_of_mem _ (List.mem_append_left _ (List.mem_append_left _ (List.mem_append_right _ (h))))
  have hnX8 : ∀ w ∈ u_ws RX8 TX8 6, w ∈ wsX10_dawns := fun _ h => List.mem_cons_of_mem _ (List.mem_append_left _ (List.mem_append_left _ (List.mem_append_left _ (List.mem_append_right _ (h)))))
  have hnX10 : ∀ w ∈ u_ws RX10 TX10 12, w ∈ wsX10_dawns := fun _ h => List.mem_cons_of_mem _ (List.mem_append_left _ (List.mem_append_left _ (List.mem_append_left _ (List.mem_append_left _ (List.mem_append_right _ (h))))))
  have hl : lv_has ls 2 [(0, .ref q0), (1, .int a0)] := hl
  refine lv_aload_n hx hb dX10_dawns_0 rfl (lv_at hl 0 rfl) ?_
  refine va_get (D := D) (ci := 10) (v := .ref q3) (C := RX10) (T := TX10) (N := 12) hx hb hts hnX10 hown hE.1 hP 0 rfl rfl 9 (by decide) (hts (.fieldLink RX10 68 "MovedStones" "nights" "LMovedStones$Nights;") (List.mem_cons_of_mem _ (List.mem_append_left _ (List.mem_append_left _ (List.mem_append_left _ (List.mem_append_left _ (List.mem_append_left _ (List.mem_append_left _ (List.mem_of_getElem? (i := 0) rfl))))))))) (fun _ h9 => h9) rfl dX10_dawns_1 ?_
  refine lv_aload_n hx hb dX10_dawns_4 rfl (lv_at hl 0 rfl) ?_
  refine va_get (D := D) (ci := 10) (v := .ref q6) (C := RX10) (T := TX10) (N := 12) hx hb hts hnX10 hown hE.1 hP 0 rfl rfl 1 (by decide) (hts (.fieldLink RX10 19 "MovedStones" "land" "LMovedStones$Land;") (List.mem_cons_of_mem _ (List.mem_append_left _ (List.mem_append_left _ (List.mem_append_left _ (List.mem_append_left _ (List.mem_append_left _ (List.mem_append_left _ (List.mem_of_getElem? (i := 1) rfl))))))))) (fun _ h9 => h9) rfl dX10_dawns_5 ?_
  refine lv_aload_n hx hb dX10_dawns_8 rfl (lv_at hl 0 rfl) ?_
  refine va_get (D := D) (ci := 10) (v := .ref q1) (C := RX10) (T := TX10) (N := 12) hx hb hts hnX10 hown hE.1 hP 0 rfl rfl 2 (by decide) (hts (.fieldLink RX10 26 "MovedStones" "now" "LMovedStones$State;") (List.mem_cons_of_mem _ (List.mem_append_left _ (List.mem_append_left _ (List.mem_append_left _ (List.mem_append_left _ (List.mem_append_left _ (List.mem_append_left _ (List.mem_of_getElem? (i := 2) rfl))))))))) (fun _ h9 => h9) rfl dX10_dawns_9 ?_
  refine va_get (D := D) (ci := 8) (v := .ref q4) (C := RX8) (T := TX8) (N := 6) hx hb hts hnX8 hown hE.1 hP 1 rfl rfl 0 (by decide) (hts (.fieldLink RX10 140 "MovedStones$State" "miles" "[I") (List.mem_cons_of_mem _ (List.mem_append_left _ (List.mem_append_left _ (List.mem_append_left _ (List.mem_append_left _ (List.mem_append_left _ (List.mem_append_left _ (List.mem_of_getElem? (i := 3) rfl))))))))) (fun _ h9 => h9) rfl dX10_dawns_12 ?_
  refine lv_aload_n hx hb dX10_dawns_15 rfl (lv_at hl 0 rfl) ?_
  refine va_get (D := D) (ci := 10) (v := .ref q2) (C := RX10) (T := TX10) (N := 12) hx hb hts hnX10 hown hE.1 hP 0 rfl rfl 6 (by decide) (hts (.fieldLink RX10 47 "MovedStones" "papers" "LMovedStones$Papers;") (List.mem_cons_of_mem _ (List.mem_append_left _ (List.mem_append_left _ (List.mem_append_left _ (List.mem_append_left _ (List.mem_append_left _ (List.mem_append_left _ (List.mem_of_getElem? (i := 4) rfl))))))))) (fun _ h9 => h9) rfl dX10_dawns_16 ?_
  refine va_get (D := D) (ci := 5) (v := .ref q14) (C := RX5) (T := TX5) (N := 8) hx hb hts hnX5 hown hE.1 hP 2 rfl rfl 0 (by decide) (hts (.fieldLink RX10 192 "MovedStones$Papers" "wanted" "[I") (List.mem_cons_of_mem _ (List.mem_append_left _ (List.mem_append_left _ (List.mem_append_left _ (List.mem_append_left _ (List.mem_append_left _ (List.mem_append_left _ (List.mem_of_getElem? (i := 5) rfl))))))))) (fun _ h9 => h9) rfl dX10_dawns_19 ?_
  refine ms_cVi (qc := (RX4, TX4, 4)) (wc := [(q3, .inr (4, [.ref q20, .int 0, .ref q5, .int 0])), (q4, .inl (cA 0, 9, .inl ms_z)), (q5, .inl (cA 0, 9, .inl ms_z)), (q6, .inr (2, [.int 0, .int 0, .int 0, .int 0, .int 0, .ref q21, .ref q22, .ref q23, .ref q24, .ref q25, .ref q26, .ref q27, .ref q28]))]) (wr := [(q0, .inr (10, [.ref q7, .ref q6, .ref q1, .ref q8, .ref q9, .int 0, .ref q2, .ref q10, .ref q11, .ref q3, .ref q12, .ref q13])), (q1, .inr (8, [.ref q4, .int 0, .int 0, .int 0, .int (-1), .int (-1)])), (q2, .inr (5, [.ref q14, .ref q15, .ref q16, .ref q17, .int 0, .ref q18, .ref q19, .int 0]))]) ⟨hx, hb, hml, hown, hts⟩ hE (cX4_plan_1 l D cA q3 q4 q5 q6 q14 q20 q21 q22 q23 q24 q25 q26 q27 q28) (cwV 3 hts gX10_dawns_X4_plan rfl rfl rfl (by decide +kernel) ⟨Nat.le_of_ble_eq_true rfl, Nat.le_of_ble_eq_true rfl⟩) hP hD hS hA [3, 4, 5, 6] [0, 1, 2] rfl rfl rfl rfl (by decide) 0 4 rfl rfl rfl hl.1 rfl (Nat.le_of_ble_eq_true rfl) dX10_dawns_22 ⟨Nat.le_of_ble_eq_true rfl, Nat.le_of_ble_eq_true rfl⟩ (fun r2 u1 H locs hp hP hD hS => ?_)
  subst hp
  have hP : va_P D vwCl [(q0, .inr (10, [.ref q7, .ref q6, .ref q1, .ref q8, .ref q9, .int 0, .ref q2, .ref q10, .ref q11, .ref q3, .ref q12, .ref q13])), (q1, .inr (8, [.ref q4, .int 0, .int 0, .int 0, .int (-1), .int (-1)])), (q2, .inr (5, [.ref q14, .ref q15, .ref q16, .ref q17, .int 0, .ref q18, .ref q19, .int 0])), (q3, .inr (4, [.ref q20, .int 0, .ref q5, .int 0])), (q4, .inl (cA 0, 9, .inl ms_z)), (q5, .inl (cA 0, 9, .inl ms_z)), (q6, .inr (2, [.int 0, .int 0, .int 0, .int 0, .int 0, .ref q21, .ref q22, .ref q23, .ref q24, .ref q25, .ref q26, .ref q27, .ref q28]))] H := hP
  have hD : va_D A [(q0, .inr (10, [.ref q7, .ref q6, .ref q1, .ref q8, .ref q9, .int 0, .ref q2, .ref q10, .ref q11, .ref q3, .ref q12, .ref q13])), (q1, .inr (8, [.ref q4, .int 0, .int 0, .int 0, .int (-1), .int (-1)])), (q2, .inr (5, [.ref q14, .ref q15, .ref q16, .ref q17, .int 0, .ref q18, .ref q19, .int 0])), (q3, .inr (4, [.ref q20, .int 0, .ref q5, .int 0])), (q4, .inl (cA 0, 9, .inl ms_z)), (q5, .inl (cA 0, 9, .inl ms_z)), (q6, .inr (2, [.int 0, .int 0, .int 0, .int 0, .int 0, .ref q21, .ref q22, .ref q23, .ref q24, .ref q25, .ref q26, .ref q27, .ref q28]))] := hD
  refine lv_if_ne (tgt := 30) hx hb dX10_dawns_25 (by decide) (fun _ => ?_) (fun c => absurd c (by decide))
  refine lv_iload_n hx hb dX10_dawns_30 rfl (lv_at hl 1 rfl) ?_
  refine lv_iconst (v := (-1)) hx hb dX10_dawns_31 (by decide) ?_
  refine lv_icmp_ne (tgt := 43) hx hb dX10_dawns_32 (by decide) (fun _ => ?_) (fun c => by exfalso; have hc3 := congrArg Int32.toInt c; have z4 : ((-1) : Int32).toInt = -1 := (by decide); omega)
  refine lv_iload_n hx hb dX10_dawns_43 rfl (lv_at hl 1 rfl) ?_
  refine lv_if_lt (tgt := 70) hx hb dX10_dawns_44 (by decide) (fun _ => ?_) (fun c => by exfalso; have hc5 := mt Int32.lt_iff_toInt_lt.mpr c; have z6 : (0 : Int32).toInt = 0 := (by decide); omega)
  refine lv_iconst (v := (-1)) hx hb dX10_dawns_70 (by decide) ?_
  exact ms_iret hx hb hr hlk () rfl hP hD hS (Nat.le_of_ble_eq_true rfl) (Nat.le_of_ble_eq_true rfl) dX10_dawns_71
set_option maxHeartbeats 4000000 in
set_option maxRecDepth 100000 in
theorem cX11_dawnsWell_1 (l : Launch) (D : va_G) (cA : Nat → ClassId) (q0 q1 q2 q3 q4 q5 q6 q7 q8 q9 q10 q11 q12 q13 q14 q15 q16 q17 q18 : Nat) : ms_Mi l yX11_dawnsWell wsX11_dawnsWell ({ frames := 1, cells := 0, slots := 0, locals := 23 } : Room) D cA [.ref q0, .int 0] [(q0, .inr (11, [.ref q1, .ref q4, .ref q2, .ref q5, .int 0, .ref q6, .ref q7, .long 0, .ref q8, .int 0, .int (-1), .ref q9, .ref q10, .int 0, .ref q11, .int 0, .int 0, .int 0, .int 0, .int 0, .int 0, .int 0, .ref q12, .ref q13, .ref q14, .int 0, .ref q3, .ref q15, .ref q16, .ref q17, .int 0, .ref q18])), (q1, .inl (cA 0, 68, .inl ms_z)), (q2, .inl (cA 0, 14, .inl ms_n)), (q3, .inl (cA 0, 9, .inl ms_z))] (fun (r : Int32) (_ : Unit) => r = 1) (fun (_ : Unit) => [(q0, .inr (11, [.ref q1, .ref q4, .ref q2, .ref q5, .int 0, .ref q6, .ref q7, .long 0, .ref q8, .int 0, .int (-1), .ref q9, .ref q10, .int 0, .ref q11, .int 0, .int 0, .int 0, .int 0, .int 0, .int 0, .int 0, .ref q12, .ref q13, .ref q14, .int 0, .ref q3, .ref q15, .ref q16, .ref q17, .int 0, .ref q18])), (q1, .inl (cA 0, 68, .inl ms_z)), (q2, .inl (cA 0, 14, .inl ms_n)), (q3, .inl (cA 0, 9, .inl ms_z))]) := by
  refine ms_Mi_of (cc := cX11_dawnsWell) (maxL := 8) (ret := (some .boolean)) (by decide) rfl (Nat.le_of_ble_eq_true rfl) ?_
  intro p e s m args below meth c A ls hB hE hA hP hD hS hl
  obtain ⟨hx, hb, hr, hml, hown, hts, hlk, hnm⟩ := hB
  have hown : s.vm.findClass RX11 = some m.cls := hown
  have hnX11 : ∀ w ∈ u_ws RX11 TX11 32, w ∈ wsX11_dawnsWell := fun _ h => List.mem_cons_of_mem _ (List.mem_append_right _ (h))
  have hl : lv_has ls 8 [(0, .ref q0), (1, .int 0)] := hl
  refine lv_iload_n hx hb dX11_dawnsWell_0 rfl (lv_at hl 1 rfl) ?_
  refine lv_istore_n (lv' := [(2, .int 0), (0, .ref q0), (1, .int 0)]) hx hb dX11_dawnsWell_1 rfl hl (by decide) rfl (fun ls hl => ?_)
  refine lv_iconst (v := 0) hx hb dX11_dawnsWell_2 (by decide) ?_
  refine lv_istore_n (lv' := [(3, .int 0), (2, .int 0), (0, .ref q0), (1, .int 0)]) hx hb dX11_dawnsWell_3 rfl hl (by decide) rfl (fun ls hl => ?_)
  refine lv_aload_n hx hb dX11_dawnsWell_4 rfl (lv_at hl 2 rfl) ?_
  refine va_get (D := D) (ci := 11) (v := .int 0) (C := RX11) (T := TX11) (N := 32) hx hb hts hnX11 hown hE.1 hP 0 rfl rfl 30 (by decide) (hts (.fieldLink RX11 258 "MovedStonesModel" "movedMany" "I") (List.mem_cons_of_mem _ (List.mem_append_left _ (List.mem_of_getElem? (i := 0) rfl)))) (fun _ h9 => h9) rfl dX11_dawnsWell_5 ?_
  refine lv_iconst (v := 1) hx hb dX11_dawnsWell_8 (by decide) ?_
  refine lv_isub hx hb dX11_dawnsWell_9 ?_
  refine ms_eqi (y := (-1)) (by decide) ?_
  refine lv_istore (lv' := [(4, .int (-1)), (3, .int 0), (2, .int 0), (0, .ref q0), (1, .int 0)]) hx hb dX11_dawnsWell_10 hl (by decide) rfl (fun ls hl => ?_)
  refine lv_iload hx hb dX11_dawnsWell_12 (lv_at hl 0 rfl) ?_
  refine lv_if_lt (tgt := 49) hx hb dX11_dawnsWell_14 (by decide) (fun _ => ?_) (fun c => absurd (by decide) c)
  refine lv_iload_n hx hb dX11_dawnsWell_49 rfl (lv_at hl 1 rfl) ?_
  refine lv_iconst (v := 1) hx hb dX11_dawnsWell_50 (by decide) ?_
  refine lv_aload_n hx hb dX11_dawnsWell_51 rfl (lv_at hl 3 rfl) ?_
  refine va_get (D := D) (ci := 11) (v := .int 0) (C := RX11) (T := TX11) (N := 32) hx hb hts hnX11 hown hE.1 hP 0 rfl rfl 30 (by decide) (hts (.fieldLink RX11 258 "MovedStonesModel" "movedMany" "I") (List.mem_cons_of_mem _ (List.mem_append_left _ (List.mem_of_getElem? (i := 0) rfl)))) (fun _ h9 => h9) rfl dX11_dawnsWell_52 ?_
  refine lv_ishl hx hb dX11_dawnsWell_55 ?_
  refine ms_eqi (y := 1) (by decide) ?_
  refine lv_iconst (v := 1) hx hb dX11_dawnsWell_56 (by decide) ?_
  refine lv_isub hx hb dX11_dawnsWell_57 ?_
  refine ms_eqi (y := 0) (by decide) ?_
  refine lv_icmp_eq (tgt := 63) hx hb dX11_dawnsWell_58 (by decide) (fun _ => ?_) (fun c => absurd (by decide) c)
  refine lv_aload_n hx hb dX11_dawnsWell_63 rfl (lv_at hl 3 rfl) ?_
  refine lv_aload_n hx hb dX11_dawnsWell_64 rfl (lv_at hl 3 rfl) ?_
  refine va_get (D := D) (ci := 11) (v := .ref q2) (C := RX11) (T := TX11) (N := 32) hx hb hts hnX11 hown hE.1 hP 0 rfl rfl 2 (by decide) (hts (.fieldLink RX11 16 "MovedStonesModel" "now" "[I") (List.mem_cons_of_mem _ (List.mem_append_left _ (List.mem_of_getElem? (i := 2) rfl)))) (fun _ h9 => h9) rfl dX11_dawnsWell_65 ?_
  refine ms_cVi (qc := (RX11, TX11, 32)) (wc := [(q0, .inr (11, [.ref q1, .ref q4, .ref q2, .ref q5, .int 0, .ref q6, .ref q7, .long 0, .ref q8, .int 0, .int (-1), .ref q9, .ref q10, .int 0, .ref q11, .int 0, .int 0, .int 0, .int 0, .int 0, .int 0, .int 0, .ref q12, .ref q13, .ref q14, .int 0, .ref q3, .ref q15, .ref q16, .ref q17, .int 0, .ref q18])), (q1, .inl (cA 0, 68, .inl ms_z))]) (wr := [(q2, .inl (cA 0, 14, .inl ms_n)), (q3, .inl (cA 0, 9, .inl ms_z))]) ⟨hx, hb, hml, hown, hts⟩ hE (cX11_holding_1 l D cA q0 q1 q2 q4 q5 q6 q7 q8 q9 q10 q11 q12 q13 q14 q3 q15 q16 q17 q18) (cwV 1 hts gX11_dawnsWell_X11_holding rfl rfl rfl (by decide +kernel) ⟨Nat.le_of_ble_eq_true rfl, Nat.le_of_ble_eq_true rfl⟩) hP hD hS hA [0, 1] [2, 3] rfl rfl rfl rfl (by decide) 0 11 rfl rfl rfl hl.1 rfl (Nat.le_of_ble_eq_true rfl) dX11_dawnsWell_68 ⟨Nat.le_of_ble_eq_true rfl, Nat.le_of_ble_eq_true rfl⟩ (fun r2 u1 H locs hp hP hD hS => ?_)
  subst hp
  have hP : va_P D vwCl [(q2, .inl (cA 0, 14, .inl ms_n)), (q3, .inl (cA 0, 9, .inl ms_z)), (q0, .inr (11, [.ref q1, .ref q4, .ref q2, .ref q5, .int 0, .ref q6, .ref q7, .long 0, .ref q8, .int 0, .int (-1), .ref q9, .ref q10, .int 0, .ref q11, .int 0, .int 0, .int 0, .int 0, .int 0, .int 0, .int 0, .ref q12, .ref q13, .ref q14, .int 0, .ref q3, .ref q15, .ref q16, .ref q17, .int 0, .ref q18])), (q1, .inl (cA 0, 68, .inl ms_z))] H := hP
  have hD : va_D A [(q2, .inl (cA 0, 14, .inl ms_n)), (q3, .inl (cA 0, 9, .inl ms_z)), (q0, .inr (11, [.ref q1, .ref q4, .ref q2, .ref q5, .int 0, .ref q6, .ref q7, .long 0, .ref q8, .int 0, .int (-1), .ref q9, .ref q10, .int 0, .ref q11, .int 0, .int 0, .int 0, .int 0, .int 0, .int 0, .int 0, .ref q12, .ref q13, .ref q14, .int 0, .ref q3, .ref q15, .ref q16, .ref q17, .int 0, .ref q18])), (q1, .inl (cA 0, 68, .inl ms_z))] := hD
  refine lv_istore (lv' := [(4, .int 0), (3, .int 0), (2, .int 0), (0, .ref q0), (1, .int 0)]) hx hb dX11_dawnsWell_71 hl (by decide) rfl (fun ls hl => ?_)
  refine lv_iconst (v := 1) hx hb dX11_dawnsWell_73 (by decide) ?_
  refine lv_istore (lv' := [(5, .int 1), (4, .int 0), (3, .int 0), (2, .int 0), (0, .ref q0), (1, .int 0)]) hx hb dX11_dawnsWell_74 hl (by decide) rfl (fun ls hl => ?_)
  refine lv_iconst (v := 0) hx hb dX11_dawnsWell_76 (by decide) ?_
  refine lv_istore (lv' := [(6, .int 0), (5, .int 1), (4, .int 0), (3, .int 0), (2, .int 0), (0, .ref q0), (1, .int 0)]) hx hb dX11_dawnsWell_77 hl (by decide) rfl (fun ls hl => ?_)
  have lp5 : ∀ (n4 i3 : Nat) (H : Heap) (locs : List Loc) (ls : Array Slot), 0 ≤ i3 → i3 ≤ 9 → 10 ≤ i3 + n4 → va_P D vwCl [(q2, .inl (cA 0, 14, .inl ms_n)), (q3, .inl (cA 0, 9, .inl ms_z)), (q0, .inr (11, [.ref q1, .ref q4, .ref q2, .ref q5, .int 0, .ref q6, .ref q7, .long 0, .ref q8, .int 0, .int (-1), .ref q9, .ref q10, .int 0, .ref q11, .int 0, .int 0, .int 0, .int 0, .int 0, .int 0, .int 0, .ref q12, .ref q13, .ref q14, .int 0, .ref q3, .ref q15, .ref q16, .ref q17, .int 0, .ref q18])), (q1, .inl (cA 0, 68, .inl ms_z))] H → va_D A [(q2, .inl (cA 0, 14, .inl ms_n)), (q3, .inl (cA 0, 9, .inl ms_z)), (q0, .inr (11, [.ref q1, .ref q4, .ref q2, .ref q5, .int 0, .ref q6, .ref q7, .long 0, .ref q8, .int 0, .int (-1), .ref q9, .ref q10, .int 0, .ref q11, .int 0, .int 0, .int 0, .int 0, .int 0, .int 0, .int 0, .ref q12, .ref q13, .ref q14, .int 0, .ref q3, .ref q15, .ref q16, .ref q17, .int 0, .ref q18])), (q1, .inl (cA 0, 68, .inl ms_z))] → va_S A s.heap H locs → lv_has ls 8 [(6, .int (nI i3)), (5, .int 1), (4, .int 0), (3, .int 0), (2, .int 0), (0, .ref q0), (1, .int 0)] → W p l e ({ frames := 1, cells := 0, slots := 0, locals := 23 } : Room) s m args below meth c H locs 0 0 (MQ below (ms_Qi D A (fun (r : Int32) (_ : Unit) => r = 1) (fun (_ : Unit) => [(q0, .inr (11, [.ref q1, .ref q4, .ref q2, .ref q5, .int 0, .ref q6, .ref q7, .long 0, .ref q8, .int 0, .int (-1), .ref q9, .ref q10, .int 0, .ref q11, .int 0, .int 0, .int 0, .int 0, .int 0, .int 0, .int 0, .ref q12, .ref q13, .ref q14, .int 0, .ref q3, .ref q15, .ref q16, .ref q17, .int 0, .ref q18])), (q1, .inl (cA 0, 68, .inl ms_z)), (q2, .inl (cA 0, 14, .inl ms_n)), (q3, .inl (cA 0, 9, .inl ms_z))])) args s 0 0 A) (F0 m 79 ls []) := by
    intro n4
    induction n4 with
    | zero => intro i3  H locs ls h1 h2 h3; exact absurd h3 (by omega)
    | succ n4 ih6 =>
      intro i3  H locs ls h1 h2 h3 hP hD hS hl
      refine lv_iload hx hb dX11_dawnsWell_79 (lv_at hl 0 rfl) ?_
      refine lv_bipush (v := 9) hx hb dX11_dawnsWell_81 (by decide) ?_
      refine lv_icmp_ge (tgt := 106) hx hb dX11_dawnsWell_83 (by decide) (fun c7 => ?_) (fun c7 => ?_)
      · have hc8 := Int32.le_iff_toInt_le.mp c7
        have z9 : (nI i3).toInt = ((i3 : Nat) : Int) := nI_toInt (by omega)
        have z10 : (9 : Int32).toInt = 9 := (by decide)
        refine lv_iconst (v := 0) hx hb dX11_dawnsWell_106 (by decide) ?_
        refine lv_istore (lv' := [(6, .int 0), (5, .int 1), (4, .int 0), (3, .int 0), (2, .int 0), (0, .ref q0), (1, .int 0)]) hx hb dX11_dawnsWell_107 hl (by decide) rfl (fun ls hl => ?_)
        refine lv_iload hx hb dX11_dawnsWell_109 (lv_at hl 0 rfl) ?_
        refine lv_aload_n hx hb dX11_dawnsWell_111 rfl (lv_at hl 5 rfl) ?_
        refine va_get (D := D) (ci := 11) (v := .int 0) (C := RX11) (T := TX11) (N := 32) hx hb hts hnX11 hown hE.1 hP 2 rfl rfl 30 (by decide) (hts (.fieldLink RX11 258 "MovedStonesModel" "movedMany" "I") (List.mem_cons_of_mem _ (List.mem_append_left _ (List.mem_of_getElem? (i := 0) rfl)))) (fun _ h9 => h9) rfl dX11_dawnsWell_112 ?_
        refine lv_icmp_ge (tgt := 180) hx hb dX11_dawnsWell_115 (by decide) (fun _ => ?_) (fun c => absurd (by decide) c)
        refine lv_iload hx hb dX11_dawnsWell_180 (lv_at hl 1 rfl) ?_
        exact ms_zret hx hb hr rfl hlk () rfl (hP.sub [2, 3, 0, 1] rfl) (hD.sub [2, 3, 0, 1] (by decide) rfl) hS (Nat.le_of_ble_eq_true rfl) (Nat.le_of_ble_eq_true rfl) dX11_dawnsWell_182
      · have hc11 := mt Int32.le_iff_toInt_le.mpr c7
        have z12 : (nI i3).toInt = ((i3 : Nat) : Int) := nI_toInt (by omega)
        have z13 : (9 : Int32).toInt = 9 := (by decide)
        refine lv_aload_n hx hb dX11_dawnsWell_86 rfl (lv_at hl 5 rfl) ?_
        refine va_get (D := D) (ci := 11) (v := .ref q3) (C := RX11) (T := TX11) (N := 32) hx hb hts hnX11 hown hE.1 hP 2 rfl rfl 26 (by decide) (hts (.fieldLink RX11 54 "MovedStonesModel" "tried" "[I") (List.mem_cons_of_mem _ (List.mem_append_left _ (List.mem_of_getElem? (i := 3) rfl)))) (fun _ h9 => h9) rfl dX11_dawnsWell_87 ?_
        refine lv_iload hx hb dX11_dawnsWell_90 (lv_at hl 0 rfl) ?_
        refine lv_aload_n hx hb dX11_dawnsWell_92 rfl (lv_at hl 5 rfl) ?_
        refine va_get (D := D) (ci := 11) (v := .ref q2) (C := RX11) (T := TX11) (N := 32) hx hb hts hnX11 hown hE.1 hP 2 rfl rfl 2 (by decide) (hts (.fieldLink RX11 16 "MovedStonesModel" "now" "[I") (List.mem_cons_of_mem _ (List.mem_append_left _ (List.mem_of_getElem? (i := 2) rfl)))) (fun _ h9 => h9) rfl dX11_dawnsWell_93 ?_
        refine lv_iload hx hb dX11_dawnsWell_96 (lv_at hl 0 rfl) ?_
        refine ms_iald (x := 0) hx hb hE hP 0 rfl i3 rfl (by omega) (by decide) (ms_n_lo (by omega)) dX11_dawnsWell_98 ?_
        refine ms_iast (g := ms_z) hx hb hE hP hD hS 1 rfl i3 rfl (by omega) (by decide) (ms_same (rfl)) dX11_dawnsWell_99 (fun H locs hP hD hS => ?_)
        have hP : va_P D vwCl [(q2, .inl (cA 0, 14, .inl ms_n)), (q3, .inl (cA 0, 9, .inl ms_z)), (q0, .inr (11, [.ref q1, .ref q4, .ref q2, .ref q5, .int 0, .ref q6, .ref q7, .long 0, .ref q8, .int 0, .int (-1), .ref q9, .ref q10, .int 0, .ref q11, .int 0, .int 0, .int 0, .int 0, .int 0, .int 0, .int 0, .ref q12, .ref q13, .ref q14, .int 0, .ref q3, .ref q15, .ref q16, .ref q17, .int 0, .ref q18])), (q1, .inl (cA 0, 68, .inl ms_z))] H := hP
        have hD : va_D A [(q2, .inl (cA 0, 14, .inl ms_n)), (q3, .inl (cA 0, 9, .inl ms_z)), (q0, .inr (11, [.ref q1, .ref q4, .ref q2, .ref q5, .int 0, .ref q6, .ref q7, .long 0, .ref q8, .int 0, .int (-1), .ref q9, .ref q10, .int 0, .ref q11, .int 0, .int 0, .int 0, .int 0, .int 0, .int 0, .int 0, .ref q12, .ref q13, .ref q14, .int 0, .ref q3, .ref q15, .ref q16, .ref q17, .int 0, .ref q18])), (q1, .inl (cA 0, 68, .inl ms_z))] := hD
        refine lv_iinc (v := nI (i3 + 1)) (lv' := [(6, .int (nI (i3 + 1))), (5, .int 1), (4, .int 0), (3, .int 0), (2, .int 0), (0, .ref q0), (1, .int 0)]) hx hb dX11_dawnsWell_100 hl (k := 0) rfl ((nI_succ i3).symm) (by decide) rfl (fun ls hl => ?_)
        refine lv_goto (tgt := 79) hx hb dX11_dawnsWell_103 (by decide) ?_
        exact ih6 (i3 + 1)  _ _ _ (by omega) (by omega) (by omega) hP hD hS (lv_sub hl [0, 1, 2, 3, 4, 5, 6] rfl)
  exact lp5 10 0  _ _ _ (by omega) (by omega) (by omega) hP hD hS (lv_sub hl [0, 1, 2, 3, 4, 5, 6] rfl)
set_option maxHeartbeats 4000000 in
set_option maxRecDepth 100000 in
theorem cX11_dawns_1 (l : Launch) (D : va_G) (cA : Nat → ClassId) (q0 q1 q2 q3 q4 q5 q6 q7 q8 q9 q10 q11 q12 q13 q14 q15 q16 q17 q18 : Nat) (a0 : Int32) (g0 : a0.toInt ≤ -2) : ms_Mi l yX11_dawns wsX11_dawns ({ frames := 2, cells := 0, slots := 0, locals := 50 } : Room) D cA [.ref q0, .int a0] [(q0, .inr (11, [.ref q1, .ref q4, .ref q2, .ref q5, .int 0, .ref q6, .ref q7, .long 0, .ref q8, .int 0, .int (-1), .ref q9, .ref q10, .int 0, .ref q11, .int 0, .int 0, .int 0, .int 0, .int 0, .int 0, .int 0, .ref q12, .ref q13, .ref q14, .int 0, .ref q3, .ref q15, .ref q16, .ref q17, .int 0, .ref q18])), (q1, .inl (cA 0, 68, .inl ms_z)), (q2, .inl (cA 0, 14, .inl ms_n)), (q3, .inl (cA 0, 9, .inl ms_z))] (fun (r : Int32) (_ : Unit) => r = (-1)) (fun (_ : Unit) => [(q0, .inr (11, [.ref q1, .ref q4, .ref q2, .ref q5, .int 0, .ref q6, .ref q7, .long 0, .ref q8, .int 0, .int (-1), .ref q9, .ref q10, .int 0, .ref q11, .int 0, .int 0, .int 0, .int 0, .int 0, .int 0, .int 0, .ref q12, .ref q13, .ref q14, .int 0, .ref q3, .ref q15, .ref q16, .ref q17, .int 0, .ref q18])), (q1, .inl (cA 0, 68, .inl ms_z)), (q2, .inl (cA 0, 14, .inl ms_n)), (q3, .inl (cA 0, 9, .inl ms_z))]) := by
  refine ms_Mi_of (cc := cX11_dawns) (maxL := 4) (ret := (some .int)) (by decide) rfl (Nat.le_of_ble_eq_true rfl) ?_
  intro p e s m args below meth c A ls hB hE hA hP hD hS hl
  obtain ⟨hx, hb, hr, hml, hown, hts, hlk, hnm⟩ := hB
  have hown : s.vm.findClass RX11 = some m.cls := hown
  have hnX11 : ∀ w ∈ u_ws RX11 TX11 32, w ∈ wsX11_dawns := fun _ h => List.mem_cons_of_mem _ (List.mem_append_right _ (h))
  have hl : lv_has ls 4 [(0, .ref q0), (1, .int a0)] := hl
  refine lv_aload_n hx hb dX11_dawns_0 rfl (lv_at hl 0 rfl) ?_
  refine lv_iconst (v := 0) hx hb dX11_dawns_1 (by decide) ?_
  refine va_put (D := D) (ci := 11) (v := .int 0) (ty := tyX11 30) (C := RX11) (T := TX11) (N := 32) hx hb hts hnX11 tyX11 tyX11_ok nmX11 hown hE.1 hP hD hS 0 rfl rfl 30 (by decide) (hts (.fieldLink RX11 258 "MovedStonesModel" "movedMany" "I") (List.mem_cons_of_mem _ (List.mem_append_left _ (List.mem_append_left _ (List.mem_of_getElem? (i := 0) rfl))))) (fun _ h9 => h9) rfl (tyX11_ok 30 (by decide)) rfl rfl (Nat.le_of_ble_eq_true rfl) dX11_dawns_2 (fun H locs hP hD hS => ?_)
  have hP : va_P D vwCl [(q0, .inr (11, [.ref q1, .ref q4, .ref q2, .ref q5, .int 0, .ref q6, .ref q7, .long 0, .ref q8, .int 0, .int (-1), .ref q9, .ref q10, .int 0, .ref q11, .int 0, .int 0, .int 0, .int 0, .int 0, .int 0, .int 0, .ref q12, .ref q13, .ref q14, .int 0, .ref q3, .ref q15, .ref q16, .ref q17, .int 0, .ref q18])), (q1, .inl (cA 0, 68, .inl ms_z)), (q2, .inl (cA 0, 14, .inl ms_n)), (q3, .inl (cA 0, 9, .inl ms_z))] H := hP
  have hD : va_D A [(q0, .inr (11, [.ref q1, .ref q4, .ref q2, .ref q5, .int 0, .ref q6, .ref q7, .long 0, .ref q8, .int 0, .int (-1), .ref q9, .ref q10, .int 0, .ref q11, .int 0, .int 0, .int 0, .int 0, .int 0, .int 0, .int 0, .ref q12, .ref q13, .ref q14, .int 0, .ref q3, .ref q15, .ref q16, .ref q17, .int 0, .ref q18])), (q1, .inl (cA 0, 68, .inl ms_z)), (q2, .inl (cA 0, 14, .inl ms_n)), (q3, .inl (cA 0, 9, .inl ms_z))] := hD
  refine lv_iconst (v := 1) hx hb dX11_dawns_5 (by decide) ?_
  refine lv_istore_n (lv' := [(2, .int 1), (0, .ref q0), (1, .int a0)]) hx hb dX11_dawns_6 rfl hl (by decide) rfl (fun ls hl => ?_)
  refine lv_iconst (v := 0) hx hb dX11_dawns_7 (by decide) ?_
  refine lv_istore_n (lv' := [(3, .int 0), (2, .int 1), (0, .ref q0), (1, .int a0)]) hx hb dX11_dawns_8 rfl hl (by decide) rfl (fun ls hl => ?_)
  refine lv_iload_n hx hb dX11_dawns_9 rfl (lv_at hl 0 rfl) ?_
  refine lv_aload_n hx hb dX11_dawns_10 rfl (lv_at hl 2 rfl) ?_
  refine va_get (D := D) (ci := 11) (v := .ref q1) (C := RX11) (T := TX11) (N := 32) hx hb hts hnX11 hown hE.1 hP 0 rfl rfl 0 (by decide) (hts (.fieldLink RX11 7 "MovedStonesModel" "march" "[I") (List.mem_cons_of_mem _ (List.mem_append_left _ (List.mem_append_left _ (List.mem_of_getElem? (i := 1) rfl))))) (fun _ h9 => h9) rfl dX11_dawns_11 ?_
  refine lv_iconst (v := 3) hx hb dX11_dawns_14 (by decide) ?_
  refine ms_iald (x := 0) hx hb hE hP 1 rfl 3 rfl (by omega) (by decide) (rfl) dX11_dawns_15 ?_
  refine lv_icmp_ge (tgt := 73) hx hb dX11_dawns_16 (by decide) (fun _ => ?_) (fun c => absurd (by decide) c)
  refine lv_iconst (v := 0) hx hb dX11_dawns_73 (by decide) ?_
  refine lv_istore_n (lv' := [(3, .int 0), (2, .int 1), (0, .ref q0), (1, .int a0)]) hx hb dX11_dawns_74 rfl hl (by decide) rfl (fun ls hl => ?_)
  refine lv_iload_n hx hb dX11_dawns_75 rfl (lv_at hl 0 rfl) ?_
  refine lv_iload_n hx hb dX11_dawns_76 rfl (lv_at hl 1 rfl) ?_
  refine lv_icmp_ge (tgt := 138) hx hb dX11_dawns_77 (by decide) (fun c => absurd c (by decide)) (fun _ => ?_)
  refine lv_aload_n hx hb dX11_dawns_80 rfl (lv_at hl 2 rfl) ?_
  refine lv_iload_n hx hb dX11_dawns_81 rfl (lv_at hl 0 rfl) ?_
  refine ms_cVi (qc := (RX11, TX11, 32)) (wc := [(q0, .inr (11, [.ref q1, .ref q4, .ref q2, .ref q5, .int 0, .ref q6, .ref q7, .long 0, .ref q8, .int 0, .int (-1), .ref q9, .ref q10, .int 0, .ref q11, .int 0, .int 0, .int 0, .int 0, .int 0, .int 0, .int 0, .ref q12, .ref q13, .ref q14, .int 0, .ref q3, .ref q15, .ref q16, .ref q17, .int 0, .ref q18])), (q1, .inl (cA 0, 68, .inl ms_z)), (q2, .inl (cA 0, 14, .inl ms_n)), (q3, .inl (cA 0, 9, .inl ms_z))]) (wr := []) ⟨hx, hb, hml, hown, hts⟩ hE (cX11_dawnsWell_1 l D cA q0 q1 q2 q3 q4 q5 q6 q7 q8 q9 q10 q11 q12 q13 q14 q15 q16 q17 q18) (cwV 1 hts gX11_dawns_X11_dawnsWell rfl rfl rfl (by decide +kernel) ⟨Nat.le_of_ble_eq_true rfl, Nat.le_of_ble_eq_true rfl⟩) hP hD hS hA [0, 1, 2, 3] [] rfl rfl rfl rfl (by decide) 0 11 rfl rfl rfl hl.1 rfl (Nat.le_of_ble_eq_true rfl) dX11_dawns_82 ⟨Nat.le_of_ble_eq_true rfl, Nat.le_of_ble_eq_true rfl⟩ (fun r2 u1 H locs hp hP hD hS => ?_)
  subst hp
  have hP : va_P D vwCl [(q0, .inr (11, [.ref q1, .ref q4, .ref q2, .ref q5, .int 0, .ref q6, .ref q7, .long 0, .ref q8, .int 0, .int (-1), .ref q9, .ref q10, .int 0, .ref q11, .int 0, .int 0, .int 0, .int 0, .int 0, .int 0, .int 0, .ref q12, .ref q13, .ref q14, .int 0, .ref q3, .ref q15, .ref q16, .ref q17, .int 0, .ref q18])), (q1, .inl (cA 0, 68, .inl ms_z)), (q2, .inl (cA 0, 14, .inl ms_n)), (q3, .inl (cA 0, 9, .inl ms_z))] H := hP
  have hD : va_D A [(q0, .inr (11, [.ref q1, .ref q4, .ref q2, .ref q5, .int 0, .ref q6, .ref q7, .long 0, .ref q8, .int 0, .int (-1), .ref q9, .ref q10, .int 0, .ref q11, .int 0, .int 0, .int 0, .int 0, .int 0, .int 0, .int 0, .ref q12, .ref q13, .ref q14, .int 0, .ref q3, .ref q15, .ref q16, .ref q17, .int 0, .ref q18])), (q1, .inl (cA 0, 68, .inl ms_z)), (q2, .inl (cA 0, 14, .inl ms_n)), (q3, .inl (cA 0, 9, .inl ms_z))] := hD
  refine lv_if_eq (tgt := 132) hx hb dX11_dawns_85 (by decide) (fun c => absurd c (by decide)) (fun _ => ?_)
  refine lv_iload_n hx hb dX11_dawns_88 rfl (lv_at hl 3 rfl) ?_
  refine lv_iconst (v := (-1)) hx hb dX11_dawns_89 (by decide) ?_
  refine lv_icmp_ne (tgt := 100) hx hb dX11_dawns_90 (by decide) (fun _ => ?_) (fun c => by exfalso; have hc3 := congrArg Int32.toInt c; have z4 : ((-1) : Int32).toInt = -1 := (by decide); omega)
  refine lv_iload_n hx hb dX11_dawns_100 rfl (lv_at hl 3 rfl) ?_
  refine lv_i2l (v := a0.toInt64) hx hb dX11_dawns_101 rfl ?_
  refine lv_lconst (v := 0) hx hb dX11_dawns_102 (by decide) ?_
  refine lv_aload_n hx hb dX11_dawns_103 rfl (lv_at hl 2 rfl) ?_
  refine va_get (D := D) (ci := 11) (v := .int 0) (C := RX11) (T := TX11) (N := 32) hx hb hts hnX11 hown hE.1 hP 0 rfl rfl 30 (by decide) (hts (.fieldLink RX11 258 "MovedStonesModel" "movedMany" "I") (List.mem_cons_of_mem _ (List.mem_append_left _ (List.mem_append_left _ (List.mem_of_getElem? (i := 0) rfl))))) (fun _ h9 => h9) rfl dX11_dawns_104 ?_
  refine lv_iconst (v := 1) hx hb dX11_dawns_107 (by decide) ?_
  refine lv_isub hx hb dX11_dawns_108 ?_
  refine ms_eqi (y := (-1)) (by decide) ?_
  refine lv_i2l (v := (-1)) hx hb dX11_dawns_109 (by decide) ?_
  refine ms_cSi (wc := []) (wr := [(q0, .inr (11, [.ref q1, .ref q4, .ref q2, .ref q5, .int 0, .ref q6, .ref q7, .long 0, .ref q8, .int 0, .int (-1), .ref q9, .ref q10, .int 0, .ref q11, .int 0, .int 0, .int 0, .int 0, .int 0, .int 0, .int 0, .ref q12, .ref q13, .ref q14, .int 0, .ref q3, .ref q15, .ref q16, .ref q17, .int 0, .ref q18])), (q1, .inl (cA 0, 68, .inl ms_z)), (q2, .inl (cA 0, 14, .inl ms_n)), (q3, .inl (cA 0, 9, .inl ms_z))]) ⟨hx, hb, hml, hown, hts⟩ hE (c_in l D cA a0.toInt64 0 (-1)) (va_cwS 3 hts gX11_dawns_X11_in rfl rfl rfl (by decide +kernel) ⟨Nat.le_of_ble_eq_true rfl, Nat.le_of_ble_eq_true rfl⟩) hP hD hS hA [] [0, 1, 2, 3] rfl rfl rfl rfl (by decide) rfl hl.1 rfl (Nat.le_of_ble_eq_true rfl) dX11_dawns_110 ⟨Nat.le_of_ble_eq_true rfl, Nat.le_of_ble_eq_true rfl⟩ (fun r5 u6 H locs hp hP hD hS => ?_)
  have hp : r5 = 0 := by rw [hp]; have z7 : (0 : Int64).toInt = 0 := (by decide); have z8 : ((-1) : Int64).toInt = -1 := (by decide); have z9 : (a0.toInt64).toInt = a0.toInt := Int32.toInt_toInt64 _; exact if_neg (by omega)
  subst hp
  have hP : va_P D vwCl [(q0, .inr (11, [.ref q1, .ref q4, .ref q2, .ref q5, .int 0, .ref q6, .ref q7, .long 0, .ref q8, .int 0, .int (-1), .ref q9, .ref q10, .int 0, .ref q11, .int 0, .int 0, .int 0, .int 0, .int 0, .int 0, .int 0, .ref q12, .ref q13, .ref q14, .int 0, .ref q3, .ref q15, .ref q16, .ref q17, .int 0, .ref q18])), (q1, .inl (cA 0, 68, .inl ms_z)), (q2, .inl (cA 0, 14, .inl ms_n)), (q3, .inl (cA 0, 9, .inl ms_z))] H := hP
  have hD : va_D A [(q0, .inr (11, [.ref q1, .ref q4, .ref q2, .ref q5, .int 0, .ref q6, .ref q7, .long 0, .ref q8, .int 0, .int (-1), .ref q9, .ref q10, .int 0, .ref q11, .int 0, .int 0, .int 0, .int 0, .int 0, .int 0, .int 0, .ref q12, .ref q13, .ref q14, .int 0, .ref q3, .ref q15, .ref q16, .ref q17, .int 0, .ref q18])), (q1, .inl (cA 0, 68, .inl ms_z)), (q2, .inl (cA 0, 14, .inl ms_n)), (q3, .inl (cA 0, 9, .inl ms_z))] := hD
  refine lv_if_eq (tgt := 130) hx hb dX11_dawns_113 (by decide) (fun _ => ?_) (fun c => absurd (by decide) c)
  refine lv_iconst (v := (-1)) hx hb dX11_dawns_130 (by decide) ?_
  exact ms_iret hx hb hr hlk () rfl hP hD hS (Nat.le_of_ble_eq_true rfl) (Nat.le_of_ble_eq_true rfl) dX11_dawns_131
set_option maxHeartbeats 4000000 in
set_option maxRecDepth 100000 in
theorem cX10_dawns_2 (l : Launch) (D : va_G) (cA : Nat → ClassId) (q0 q1 q2 q3 q4 q5 q6 q7 q8 q9 q10 q11 q12 q13 q14 q15 q16 q17 q18 q19 q20 q21 q22 q23 q24 q25 q26 q27 q28 : Nat) : ms_Mi l yX10_dawns wsX10_dawns ({ frames := 2, cells := 0, slots := 0, locals := 85 } : Room) D cA [.ref q0, .int (-1)] [(q0, .inr (10, [.ref q7, .ref q6, .ref q1, .ref q8, .ref q9, .int 0, .ref q2, .ref q10, .ref q11, .ref q3, .ref q12, .ref q13])), (q1, .inr (8, [.ref q4, .int 0, .int 0, .int 0, .int (-1), .int (-1)])), (q2, .inr (5, [.ref q14, .ref q15, .ref q16, .ref q17, .int 0, .ref q18, .ref q19, .int 0])), (q3, .inr (4, [.ref q20, .int 0, .ref q5, .int 0])), (q4, .inl (cA 0, 9, .inl ms_z)), (q5, .inl (cA 0, 9, .inl ms_z)), (q6, .inr (2, [.int 0, .int 0, .int 0, .int 0, .int 0, .ref q21, .ref q22, .ref q23, .ref q24, .ref q25, .ref q26, .ref q27, .ref q28]))] (fun (r : Int32) (_ : Unit) => r = 0) (fun (_ : Unit) => [(q0, .inr (10, [.ref q7, .ref q6, .ref q1, .ref q8, .ref q9, .int 0, .ref q2, .ref q10, .ref q11, .ref q3, .ref q12, .ref q13])), (q1, .inr (8, [.ref q4, .int 0, .int 0, .int 0, .int (-1), .int (-1)])), (q2, .inr (5, [.ref q14, .ref q15, .ref q16, .ref q17, .int 0, .ref q18, .ref q19, .int 0])), (q3, .inr (4, [.ref q20, .int 0, .ref q5, .int 0])), (q4, .inl (cA 0, 9, .inl ms_z)), (q5, .inl (cA 0, 9, .inl ms_z)), (q6, .inr (2, [.int 0, .int 0, .int 0, .int 0, .int 0, .ref q21, .ref q22, .ref q23, .ref q24, .ref q25, .ref q26, .ref q27, .ref q28]))]) := by
  refine ms_Mi_of (cc := cX10_dawns) (maxL := 2) (ret := (some .int)) (by decide) rfl (Nat.le_of_ble_eq_true rfl) ?_
  intro p e s m args below meth c A ls hB hE hA hP hD hS hl
  obtain ⟨hx, hb, hr, hml, hown, hts, hlk, hnm⟩ := hB
  have hown : s.vm.findClass RX10 = some m.cls := hown
  have hnX4 : ∀ w ∈ u_ws RX4 TX4 4, w ∈ wsX10_dawns := fun _ h => List.mem_cons_of_mem _ (List.mem_append_left _ (List.mem_append_right _ (h)))
  have hnX5 : ∀ w ∈ u_ws RX5 TX5 8, w ∈ wsX10_dawns := fun _ h => List.mem_cons_of_mem _ (List.mem_append_left _ (List.mem_append_left _ (List.mem_append_right _ (h))))
  have hnX8 : ∀ w ∈ u_ws RX8 TX8 6, w ∈ wsX10_dawns := fun _ h => List.mem_cons_of_mem _ (List.mem_append_left _ (List.mem_append_left _ (List.mem_append_left _ (List.mem_append_right _ (h)))))
  have hnX10 : ∀ w ∈ u_ws RX10 TX10 12, w ∈ wsX10_dawns := fun _ h => List.mem_cons_of_mem _ (List.mem_append_left _ (List.mem_append_left _ (List.mem_append_left _ (List.mem_append_left _ (List.mem_append_right _ (h))))))
  have hl : lv_has ls 2 [(0, .ref q0), (1, .int (-1))] := hl
  refine lv_aload_n hx hb dX10_dawns_0 rfl (lv_at hl 0 rfl) ?_
  refine va_get (D := D) (ci := 10) (v := .ref q3) (C := RX10) (T := TX10) (N := 12) hx hb hts hnX10 hown hE.1 hP 0 rfl rfl 9 (by decide) (hts (.fieldLink RX10 68 "MovedStones" "nights" "LMovedStones$Nights;") (List.mem_cons_of_mem _ (List.mem_append_left _ (List.mem_append_left _ (List.mem_append_left _ (List.mem_append_left _ (List.mem_append_left _ (List.mem_append_left _ (List.mem_of_getElem? (i := 0) rfl))))))))) (fun _ h9 => h9) rfl dX10_dawns_1 ?_
  refine lv_aload_n hx hb dX10_dawns_4 rfl (lv_at hl 0 rfl) ?_
  refine va_get (D := D) (ci := 10) (v := .ref q6) (C := RX10) (T := TX10) (N := 12) hx hb hts hnX10 hown hE.1 hP 0 rfl rfl 1 (by decide) (hts (.fieldLink RX10 19 "MovedStones" "land" "LMovedStones$Land;") (List.mem_cons_of_mem _ (List.mem_append_left _ (List.mem_append_left _ (List.mem_append_left _ (List.mem_append_left _ (List.mem_append_left _ (List.mem_append_left _ (List.mem_of_getElem? (i := 1) rfl))))))))) (fun _ h9 => h9) rfl dX10_dawns_5 ?_
  refine lv_aload_n hx hb dX10_dawns_8 rfl (lv_at hl 0 rfl) ?_
  refine va_get (D := D) (ci := 10) (v := .ref q1) (C := RX10) (T := TX10) (N := 12) hx hb hts hnX10 hown hE.1 hP 0 rfl rfl 2 (by decide) (hts (.fieldLink RX10 26 "MovedStones" "now" "LMovedStones$State;") (List.mem_cons_of_mem _ (List.mem_append_left _ (List.mem_append_left _ (List.mem_append_left _ (List.mem_append_left _ (List.mem_append_left _ (List.mem_append_left _ (List.mem_of_getElem? (i := 2) rfl))))))))) (fun _ h9 => h9) rfl dX10_dawns_9 ?_
  refine va_get (D := D) (ci := 8) (v := .ref q4) (C := RX8) (T := TX8) (N := 6) hx hb hts hnX8 hown hE.1 hP 1 rfl rfl 0 (by decide) (hts (.fieldLink RX10 140 "MovedStones$State" "miles" "[I") (List.mem_cons_of_mem _ (List.mem_append_left _ (List.mem_append_left _ (List.mem_append_left _ (List.mem_append_left _ (List.mem_append_left _ (List.mem_append_left _ (List.mem_of_getElem? (i := 3) rfl))))))))) (fun _ h9 => h9) rfl dX10_dawns_12 ?_
  refine lv_aload_n hx hb dX10_dawns_15 rfl (lv_at hl 0 rfl) ?_
  refine va_get (D := D) (ci := 10) (v := .ref q2) (C := RX10) (T := TX10) (N := 12) hx hb hts hnX10 hown hE.1 hP 0 rfl rfl 6 (by decide) (hts (.fieldLink RX10 47 "MovedStones" "papers" "LMovedStones$Papers;") (List.mem_cons_of_mem _ (List.mem_append_left _ (List.mem_append_left _ (List.mem_append_left _ (List.mem_append_left _ (List.mem_append_left _ (List.mem_append_left _ (List.mem_of_getElem? (i := 4) rfl))))))))) (fun _ h9 => h9) rfl dX10_dawns_16 ?_
  refine va_get (D := D) (ci := 5) (v := .ref q14) (C := RX5) (T := TX5) (N := 8) hx hb hts hnX5 hown hE.1 hP 2 rfl rfl 0 (by decide) (hts (.fieldLink RX10 192 "MovedStones$Papers" "wanted" "[I") (List.mem_cons_of_mem _ (List.mem_append_left _ (List.mem_append_left _ (List.mem_append_left _ (List.mem_append_left _ (List.mem_append_left _ (List.mem_append_left _ (List.mem_of_getElem? (i := 5) rfl))))))))) (fun _ h9 => h9) rfl dX10_dawns_19 ?_
  refine ms_cVi (qc := (RX4, TX4, 4)) (wc := [(q3, .inr (4, [.ref q20, .int 0, .ref q5, .int 0])), (q4, .inl (cA 0, 9, .inl ms_z)), (q5, .inl (cA 0, 9, .inl ms_z)), (q6, .inr (2, [.int 0, .int 0, .int 0, .int 0, .int 0, .ref q21, .ref q22, .ref q23, .ref q24, .ref q25, .ref q26, .ref q27, .ref q28]))]) (wr := [(q0, .inr (10, [.ref q7, .ref q6, .ref q1, .ref q8, .ref q9, .int 0, .ref q2, .ref q10, .ref q11, .ref q3, .ref q12, .ref q13])), (q1, .inr (8, [.ref q4, .int 0, .int 0, .int 0, .int (-1), .int (-1)])), (q2, .inr (5, [.ref q14, .ref q15, .ref q16, .ref q17, .int 0, .ref q18, .ref q19, .int 0]))]) ⟨hx, hb, hml, hown, hts⟩ hE (cX4_plan_1 l D cA q3 q4 q5 q6 q14 q20 q21 q22 q23 q24 q25 q26 q27 q28) (cwV 3 hts gX10_dawns_X4_plan rfl rfl rfl (by decide +kernel) ⟨Nat.le_of_ble_eq_true rfl, Nat.le_of_ble_eq_true rfl⟩) hP hD hS hA [3, 4, 5, 6] [0, 1, 2] rfl rfl rfl rfl (by decide) 0 4 rfl rfl rfl hl.1 rfl (Nat.le_of_ble_eq_true rfl) dX10_dawns_22 ⟨Nat.le_of_ble_eq_true rfl, Nat.le_of_ble_eq_true rfl⟩ (fun r2 u1 H locs hp hP hD hS => ?_)
  subst hp
  have hP : va_P D vwCl [(q0, .inr (10, [.ref q7, .ref q6, .ref q1, .ref q8, .ref q9, .int 0, .ref q2, .ref q10, .ref q11, .ref q3, .ref q12, .ref q13])), (q1, .inr (8, [.ref q4, .int 0, .int 0, .int 0, .int (-1), .int (-1)])), (q2, .inr (5, [.ref q14, .ref q15, .ref q16, .ref q17, .int 0, .ref q18, .ref q19, .int 0])), (q3, .inr (4, [.ref q20, .int 0, .ref q5, .int 0])), (q4, .inl (cA 0, 9, .inl ms_z)), (q5, .inl (cA 0, 9, .inl ms_z)), (q6, .inr (2, [.int 0, .int 0, .int 0, .int 0, .int 0, .ref q21, .ref q22, .ref q23, .ref q24, .ref q25, .ref q26, .ref q27, .ref q28]))] H := hP
  have hD : va_D A [(q0, .inr (10, [.ref q7, .ref q6, .ref q1, .ref q8, .ref q9, .int 0, .ref q2, .ref q10, .ref q11, .ref q3, .ref q12, .ref q13])), (q1, .inr (8, [.ref q4, .int 0, .int 0, .int 0, .int (-1), .int (-1)])), (q2, .inr (5, [.ref q14, .ref q15, .ref q16, .ref q17, .int 0, .ref q18, .ref q19, .int 0])), (q3, .inr (4, [.ref q20, .int 0, .ref q5, .int 0])), (q4, .inl (cA 0, 9, .inl ms_z)), (q5, .inl (cA 0, 9, .inl ms_z)), (q6, .inr (2, [.int 0, .int 0, .int 0, .int 0, .int 0, .ref q21, .ref q22, .ref q23, .ref q24, .ref q25, .ref q26, .ref q27, .ref q28]))] := hD
  refine lv_if_ne (tgt := 30) hx hb dX10_dawns_25 (by decide) (fun _ => ?_) (fun c => absurd c (by decide))
  refine lv_iload_n hx hb dX10_dawns_30 rfl (lv_at hl 1 rfl) ?_
  refine lv_iconst (v := (-1)) hx hb dX10_dawns_31 (by decide) ?_
  refine lv_icmp_ne (tgt := 43) hx hb dX10_dawns_32 (by decide) (fun c => absurd (by decide) c) (fun _ => ?_)
  refine lv_aload_n hx hb dX10_dawns_35 rfl (lv_at hl 0 rfl) ?_
  refine va_get (D := D) (ci := 10) (v := .ref q3) (C := RX10) (T := TX10) (N := 12) hx hb hts hnX10 hown hE.1 hP 0 rfl rfl 9 (by decide) (hts (.fieldLink RX10 68 "MovedStones" "nights" "LMovedStones$Nights;") (List.mem_cons_of_mem _ (List.mem_append_left _ (List.mem_append_left _ (List.mem_append_left _ (List.mem_append_left _ (List.mem_append_left _ (List.mem_append_left _ (List.mem_of_getElem? (i := 0) rfl))))))))) (fun _ h9 => h9) rfl dX10_dawns_36 ?_
  refine va_get (D := D) (ci := 4) (v := .int 0) (C := RX4) (T := TX4) (N := 4) hx hb hts hnX4 hown hE.1 hP 3 rfl rfl 1 (by decide) (hts (.fieldLink RX10 282 "MovedStones$Nights" "count" "I") (List.mem_cons_of_mem _ (List.mem_append_left _ (List.mem_append_left _ (List.mem_append_left _ (List.mem_append_left _ (List.mem_append_left _ (List.mem_append_left _ (List.mem_of_getElem? (i := 6) rfl))))))))) (fun _ h9 => h9) rfl dX10_dawns_39 ?_
  exact ms_iret hx hb hr hlk () rfl hP hD hS (Nat.le_of_ble_eq_true rfl) (Nat.le_of_ble_eq_true rfl) dX10_dawns_42
set_option maxHeartbeats 4000000 in
set_option maxRecDepth 100000 in
theorem cX11_dawns_2 (l : Launch) (D : va_G) (cA : Nat → ClassId) (q0 q1 q2 q3 q4 q5 q6 q7 q8 q9 q10 q11 q12 q13 q14 q15 q16 q17 q18 : Nat) : ms_Mi l yX11_dawns wsX11_dawns ({ frames := 2, cells := 0, slots := 0, locals := 50 } : Room) D cA [.ref q0, .int (-1)] [(q0, .inr (11, [.ref q1, .ref q4, .ref q2, .ref q5, .int 0, .ref q6, .ref q7, .long 0, .ref q8, .int 0, .int (-1), .ref q9, .ref q10, .int 0, .ref q11, .int 0, .int 0, .int 0, .int 0, .int 0, .int 0, .int 0, .ref q12, .ref q13, .ref q14, .int 0, .ref q3, .ref q15, .ref q16, .ref q17, .int 0, .ref q18])), (q1, .inl (cA 0, 68, .inl ms_z)), (q2, .inl (cA 0, 14, .inl ms_n)), (q3, .inl (cA 0, 9, .inl ms_z))] (fun (r : Int32) (_ : Unit) => r = 0) (fun (_ : Unit) => [(q0, .inr (11, [.ref q1, .ref q4, .ref q2, .ref q5, .int 0, .ref q6, .ref q7, .long 0, .ref q8, .int 0, .int (-1), .ref q9, .ref q10, .int 0, .ref q11, .int 0, .int 0, .int 0, .int 0, .int 0, .int 0, .int 0, .ref q12, .ref q13, .ref q14, .int 0, .ref q3, .ref q15, .ref q16, .ref q17, .int 0, .ref q18])), (q1, .inl (cA 0, 68, .inl ms_z)), (q2, .inl (cA 0, 14, .inl ms_n)), (q3, .inl (cA 0, 9, .inl ms_z))]) := by
  refine ms_Mi_of (cc := cX11_dawns) (maxL := 4) (ret := (some .int)) (by decide) rfl (Nat.le_of_ble_eq_true rfl) ?_
  intro p e s m args below meth c A ls hB hE hA hP hD hS hl
  obtain ⟨hx, hb, hr, hml, hown, hts, hlk, hnm⟩ := hB
  have hown : s.vm.findClass RX11 = some m.cls := hown
  have hnX11 : ∀ w ∈ u_ws RX11 TX11 32, w ∈ wsX11_dawns := fun _ h => List.mem_cons_of_mem _ (List.mem_append_right _ (h))
  have hl : lv_has ls 4 [(0, .ref q0), (1, .int (-1))] := hl
  refine lv_aload_n hx hb dX11_dawns_0 rfl (lv_at hl 0 rfl) ?_
  refine lv_iconst (v := 0) hx hb dX11_dawns_1 (by decide) ?_
  refine va_put (D := D) (ci := 11) (v := .int 0) (ty := tyX11 30) (C := RX11) (T := TX11) (N := 32) hx hb hts hnX11 tyX11 tyX11_ok nmX11 hown hE.1 hP hD hS 0 rfl rfl 30 (by decide) (hts (.fieldLink RX11 258 "MovedStonesModel" "movedMany" "I") (List.mem_cons_of_mem _ (List.mem_append_left _ (List.mem_append_left _ (List.mem_of_getElem? (i := 0) rfl))))) (fun _ h9 => h9) rfl (tyX11_ok 30 (by decide)) rfl rfl (Nat.le_of_ble_eq_true rfl) dX11_dawns_2 (fun H locs hP hD hS => ?_)
  have hP : va_P D vwCl [(q0, .inr (11, [.ref q1, .ref q4, .ref q2, .ref q5, .int 0, .ref q6, .ref q7, .long 0, .ref q8, .int 0, .int (-1), .ref q9, .ref q10, .int 0, .ref q11, .int 0, .int 0, .int 0, .int 0, .int 0, .int 0, .int 0, .ref q12, .ref q13, .ref q14, .int 0, .ref q3, .ref q15, .ref q16, .ref q17, .int 0, .ref q18])), (q1, .inl (cA 0, 68, .inl ms_z)), (q2, .inl (cA 0, 14, .inl ms_n)), (q3, .inl (cA 0, 9, .inl ms_z))] H := hP
  have hD : va_D A [(q0, .inr (11, [.ref q1, .ref q4, .ref q2, .ref q5, .int 0, .ref q6, .ref q7, .long 0, .ref q8, .int 0, .int (-1), .ref q9, .ref q10, .int 0, .ref q11, .int 0, .int 0, .int 0, .int 0, .int 0, .int 0, .int 0, .ref q12, .ref q13, .ref q14, .int 0, .ref q3, .ref q15, .ref q16, .ref q17, .int 0, .ref q18])), (q1, .inl (cA 0, 68, .inl ms_z)), (q2, .inl (cA 0, 14, .inl ms_n)), (q3, .inl (cA 0, 9, .inl ms_z))] := hD
  refine lv_iconst (v := 1) hx hb dX11_dawns_5 (by decide) ?_
  refine lv_istore_n (lv' := [(2, .int 1), (0, .ref q0), (1, .int (-1))]) hx hb dX11_dawns_6 rfl hl (by decide) rfl (fun ls hl => ?_)
  refine lv_iconst (v := 0) hx hb dX11_dawns_7 (by decide) ?_
  refine lv_istore_n (lv' := [(3, .int 0), (2, .int 1), (0, .ref q0), (1, .int (-1))]) hx hb dX11_dawns_8 rfl hl (by decide) rfl (fun ls hl => ?_)
  refine lv_iload_n hx hb dX11_dawns_9 rfl (lv_at hl 0 rfl) ?_
  refine lv_aload_n hx hb dX11_dawns_10 rfl (lv_at hl 2 rfl) ?_
  refine va_get (D := D) (ci := 11) (v := .ref q1) (C := RX11) (T := TX11) (N := 32) hx hb hts hnX11 hown hE.1 hP 0 rfl rfl 0 (by decide) (hts (.fieldLink RX11 7 "MovedStonesModel" "march" "[I") (List.mem_cons_of_mem _ (List.mem_append_left _ (List.mem_append_left _ (List.mem_of_getElem? (i := 1) rfl))))) (fun _ h9 => h9) rfl dX11_dawns_11 ?_
  refine lv_iconst (v := 3) hx hb dX11_dawns_14 (by decide) ?_
  refine ms_iald (x := 0) hx hb hE hP 1 rfl 3 rfl (by omega) (by decide) (rfl) dX11_dawns_15 ?_
  refine lv_icmp_ge (tgt := 73) hx hb dX11_dawns_16 (by decide) (fun _ => ?_) (fun c => absurd (by decide) c)
  refine lv_iconst (v := 0) hx hb dX11_dawns_73 (by decide) ?_
  refine lv_istore_n (lv' := [(3, .int 0), (2, .int 1), (0, .ref q0), (1, .int (-1))]) hx hb dX11_dawns_74 rfl hl (by decide) rfl (fun ls hl => ?_)
  refine lv_iload_n hx hb dX11_dawns_75 rfl (lv_at hl 0 rfl) ?_
  refine lv_iload_n hx hb dX11_dawns_76 rfl (lv_at hl 1 rfl) ?_
  refine lv_icmp_ge (tgt := 138) hx hb dX11_dawns_77 (by decide) (fun c => absurd c (by decide)) (fun _ => ?_)
  refine lv_aload_n hx hb dX11_dawns_80 rfl (lv_at hl 2 rfl) ?_
  refine lv_iload_n hx hb dX11_dawns_81 rfl (lv_at hl 0 rfl) ?_
  refine ms_cVi (qc := (RX11, TX11, 32)) (wc := [(q0, .inr (11, [.ref q1, .ref q4, .ref q2, .ref q5, .int 0, .ref q6, .ref q7, .long 0, .ref q8, .int 0, .int (-1), .ref q9, .ref q10, .int 0, .ref q11, .int 0, .int 0, .int 0, .int 0, .int 0, .int 0, .int 0, .ref q12, .ref q13, .ref q14, .int 0, .ref q3, .ref q15, .ref q16, .ref q17, .int 0, .ref q18])), (q1, .inl (cA 0, 68, .inl ms_z)), (q2, .inl (cA 0, 14, .inl ms_n)), (q3, .inl (cA 0, 9, .inl ms_z))]) (wr := []) ⟨hx, hb, hml, hown, hts⟩ hE (cX11_dawnsWell_1 l D cA q0 q1 q2 q3 q4 q5 q6 q7 q8 q9 q10 q11 q12 q13 q14 q15 q16 q17 q18) (cwV 1 hts gX11_dawns_X11_dawnsWell rfl rfl rfl (by decide +kernel) ⟨Nat.le_of_ble_eq_true rfl, Nat.le_of_ble_eq_true rfl⟩) hP hD hS hA [0, 1, 2, 3] [] rfl rfl rfl rfl (by decide) 0 11 rfl rfl rfl hl.1 rfl (Nat.le_of_ble_eq_true rfl) dX11_dawns_82 ⟨Nat.le_of_ble_eq_true rfl, Nat.le_of_ble_eq_true rfl⟩ (fun r2 u1 H locs hp hP hD hS => ?_)
  subst hp
  have hP : va_P D vwCl [(q0, .inr (11, [.ref q1, .ref q4, .ref q2, .ref q5, .int 0, .ref q6, .ref q7, .long 0, .ref q8, .int 0, .int (-1), .ref q9, .ref q10, .int 0, .ref q11, .int 0, .int 0, .int 0, .int 0, .int 0, .int 0, .int 0, .ref q12, .ref q13, .ref q14, .int 0, .ref q3, .ref q15, .ref q16, .ref q17, .int 0, .ref q18])), (q1, .inl (cA 0, 68, .inl ms_z)), (q2, .inl (cA 0, 14, .inl ms_n)), (q3, .inl (cA 0, 9, .inl ms_z))] H := hP
  have hD : va_D A [(q0, .inr (11, [.ref q1, .ref q4, .ref q2, .ref q5, .int 0, .ref q6, .ref q7, .long 0, .ref q8, .int 0, .int (-1), .ref q9, .ref q10, .int 0, .ref q11, .int 0, .int 0, .int 0, .int 0, .int 0, .int 0, .int 0, .ref q12, .ref q13, .ref q14, .int 0, .ref q3, .ref q15, .ref q16, .ref q17, .int 0, .ref q18])), (q1, .inl (cA 0, 68, .inl ms_z)), (q2, .inl (cA 0, 14, .inl ms_n)), (q3, .inl (cA 0, 9, .inl ms_z))] := hD
  refine lv_if_eq (tgt := 132) hx hb dX11_dawns_85 (by decide) (fun c => absurd c (by decide)) (fun _ => ?_)
  refine lv_iload_n hx hb dX11_dawns_88 rfl (lv_at hl 3 rfl) ?_
  refine lv_iconst (v := (-1)) hx hb dX11_dawns_89 (by decide) ?_
  refine lv_icmp_ne (tgt := 100) hx hb dX11_dawns_90 (by decide) (fun c => absurd (by decide) c) (fun _ => ?_)
  refine lv_aload_n hx hb dX11_dawns_93 rfl (lv_at hl 2 rfl) ?_
  refine va_get (D := D) (ci := 11) (v := .int 0) (C := RX11) (T := TX11) (N := 32) hx hb hts hnX11 hown hE.1 hP 0 rfl rfl 30 (by decide) (hts (.fieldLink RX11 258 "MovedStonesModel" "movedMany" "I") (List.mem_cons_of_mem _ (List.mem_append_left _ (List.mem_append_left _ (List.mem_of_getElem? (i := 0) rfl))))) (fun _ h9 => h9) rfl dX11_dawns_94 ?_
  refine lv_goto (tgt := 131) hx hb dX11_dawns_97 (by decide) ?_
  exact ms_iret hx hb hr hlk () rfl hP hD hS (Nat.le_of_ble_eq_true rfl) (Nat.le_of_ble_eq_true rfl) dX11_dawns_131
set_option maxHeartbeats 4000000 in
set_option maxRecDepth 100000 in
theorem cX10_dawns_3 (l : Launch) (D : va_G) (cA : Nat → ClassId) (q0 q1 q2 q3 q4 q5 q6 q7 q8 q9 q10 q11 q12 q13 q14 q15 q16 q17 q18 q19 q20 q21 q22 q23 q24 q25 q26 q27 q28 : Nat) (a0 : Int32) (g0 : 0 ≤ a0.toInt) : ms_Mi l yX10_dawns wsX10_dawns ({ frames := 2, cells := 0, slots := 0, locals := 85 } : Room) D cA [.ref q0, .int a0] [(q0, .inr (10, [.ref q7, .ref q6, .ref q1, .ref q8, .ref q9, .int 0, .ref q2, .ref q10, .ref q11, .ref q3, .ref q12, .ref q13])), (q1, .inr (8, [.ref q4, .int 0, .int 0, .int 0, .int (-1), .int (-1)])), (q2, .inr (5, [.ref q14, .ref q15, .ref q16, .ref q17, .int 0, .ref q18, .ref q19, .int 0])), (q3, .inr (4, [.ref q20, .int 0, .ref q5, .int 0])), (q4, .inl (cA 0, 9, .inl ms_z)), (q5, .inl (cA 0, 9, .inl ms_z)), (q6, .inr (2, [.int 0, .int 0, .int 0, .int 0, .int 0, .ref q21, .ref q22, .ref q23, .ref q24, .ref q25, .ref q26, .ref q27, .ref q28]))] (fun (r : Int32) (_ : Unit) => r = (-1)) (fun (_ : Unit) => [(q0, .inr (10, [.ref q7, .ref q6, .ref q1, .ref q8, .ref q9, .int 0, .ref q2, .ref q10, .ref q11, .ref q3, .ref q12, .ref q13])), (q1, .inr (8, [.ref q4, .int 0, .int 0, .int 0, .int (-1), .int (-1)])), (q2, .inr (5, [.ref q14, .ref q15, .ref q16, .ref q17, .int 0, .ref q18, .ref q19, .int 0])), (q3, .inr (4, [.ref q20, .int 0, .ref q5, .int 0])), (q4, .inl (cA 0, 9, .inl ms_z)), (q5, .inl (cA 0, 9, .inl ms_z)), (q6, .inr (2, [.int 0, .int 0, .int 0, .int 0, .int 0, .ref q21, .ref q22, .ref q23, .ref q24, .ref q25, .ref q26, .ref q27, .ref q28]))]) := by
  refine ms_Mi_of (cc := cX10_dawns) (maxL := 2) (ret := (some .int)) (by decide) rfl (Nat.le_of_ble_eq_true rfl) ?_
  intro p e s m args below meth c A ls hB hE hA hP hD hS hl
  obtain ⟨hx, hb, hr, hml, hown, hts, hlk, hnm⟩ := hB
  have hown : s.vm.findClass RX10 = some m.cls := hown
  have hnX4 : ∀ w ∈ u_ws RX4 TX4 4, w ∈ wsX10_dawns := fun _ h => List.mem_cons_of_mem _ (List.mem_append_left _ (List.mem_append_right _ (h)))
  have hnX5 : ∀ w ∈ u_ws RX5 TX5 8, w ∈ wsX10_dawns := fun _ h => List.mem_cons_of_mem _ (List.mem_append_left _ (List.mem_append_left _ (List.mem_append_right _ (h))))
  have hnX8 : ∀ w ∈ u_ws RX8 TX8 6, w ∈ wsX10_dawns := fun _ h => List.mem_cons_of_mem _ (List.mem_append_left _ (List.mem_append_left _ (List.mem_append_left _ (List.mem_append_right _ (h)))))
  have hnX10 : ∀ w ∈ u_ws RX10 TX10 12, w ∈ wsX10_dawns := fun _ h => List.mem_cons_of_mem _ (List.mem_append_left _ (List.mem_append_left _ (List.mem_append_left _ (List.mem_append_left _ (List.mem_append_right _ (h))))))
  have hl : lv_has ls 2 [(0, .ref q0), (1, .int a0)] := hl
  refine lv_aload_n hx hb dX10_dawns_0 rfl (lv_at hl 0 rfl) ?_
  refine va_get (D := D) (ci := 10) (v := .ref q3) (C := RX10) (T := TX10) (N := 12) hx hb hts hnX10 hown hE.1 hP 0 rfl rfl 9 (by decide) (hts (.fieldLink RX10 68 "MovedStones" "nights" "LMovedStones$Nights;") (List.mem_cons_of_mem _ (List.mem_append_left _ (List.mem_append_left _ (List.mem_append_left _ (List.mem_append_left _ (List.mem_append_left _ (List.mem_append_left _ (List.mem_of_getElem? (i := 0) rfl))))))))) (fun _ h9 => h9) rfl dX10_dawns_1 ?_
  refine lv_aload_n hx hb dX10_dawns_4 rfl (lv_at hl 0 rfl) ?_
  refine va_get (D := D) (ci := 10) (v := .ref q6) (C := RX10) (T := TX10) (N := 12) hx hb hts hnX10 hown hE.1 hP 0 rfl rfl 1 (by decide) (hts (.fieldLink RX10 19 "MovedStones" "land" "LMovedStones$Land;") (List.mem_cons_of_mem _ (List.mem_append_left _ (List.mem_append_left _ (List.mem_append_left _ (List.mem_append_left _ (List.mem_append_left _ (List.mem_append_left _ (List.mem_of_getElem? (i := 1) rfl))))))))) (fun _ h9 => h9) rfl dX10_dawns_5 ?_
  refine lv_aload_n hx hb dX10_dawns_8 rfl (lv_at hl 0 rfl) ?_
  refine va_get (D := D) (ci := 10) (v := .ref q1) (C := RX10) (T := TX10) (N := 12) hx hb hts hnX10 hown hE.1 hP 0 rfl rfl 2 (by decide) (hts (.fieldLink RX10 26 "MovedStones" "now" "LMovedStones$State;") (List.mem_cons_of_mem _ (List.mem_append_left _ (List.mem_append_left _ (List.mem_append_left _ (List.mem_append_left _ (List.mem_append_left _ (List.mem_append_left _ (List.mem_of_getElem? (i := 2) rfl))))))))) (fun _ h9 => h9) rfl dX10_dawns_9 ?_
  refine va_get (D := D) (ci := 8) (v := .ref q4) (C := RX8) (T := TX8) (N := 6) hx hb hts hnX8 hown hE.1 hP 1 rfl rfl 0 (by decide) (hts (.fieldLink RX10 140 "MovedStones$State" "miles" "[I") (List.mem_cons_of_mem _ (List.mem_append_left _ (List.mem_append_left _ (List.mem_append_left _ (List.mem_append_left _ (List.mem_append_left _ (List.mem_append_left _ (List.mem_of_getElem? (i := 3) rfl))))))))) (fun _ h9 => h9) rfl dX10_dawns_12 ?_
  refine lv_aload_n hx hb dX10_dawns_15 rfl (lv_at hl 0 rfl) ?_
  refine va_get (D := D) (ci := 10) (v := .ref q2) (C := RX10) (T := TX10) (N := 12) hx hb hts hnX10 hown hE.1 hP 0 rfl rfl 6 (by decide) (hts (.fieldLink RX10 47 "MovedStones" "papers" "LMovedStones$Papers;") (List.mem_cons_of_mem _ (List.mem_append_left _ (List.mem_append_left _ (List.mem_append_left _ (List.mem_append_left _ (List.mem_append_left _ (List.mem_append_left _ (List.mem_of_getElem? (i := 4) rfl))))))))) (fun _ h9 => h9) rfl dX10_dawns_16 ?_
  refine va_get (D := D) (ci := 5) (v := .ref q14) (C := RX5) (T := TX5) (N := 8) hx hb hts hnX5 hown hE.1 hP 2 rfl rfl 0 (by decide) (hts (.fieldLink RX10 192 "MovedStones$Papers" "wanted" "[I") (List.mem_cons_of_mem _ (List.mem_append_left _ (List.mem_append_left _ (List.mem_append_left _ (List.mem_append_left _ (List.mem_append_left _ (List.mem_append_left _ (List.mem_of_getElem? (i := 5) rfl))))))))) (fun _ h9 => h9) rfl dX10_dawns_19 ?_
  refine ms_cVi (qc := (RX4, TX4, 4)) (wc := [(q3, .inr (4, [.ref q20, .int 0, .ref q5, .int 0])), (q4, .inl (cA 0, 9, .inl ms_z)), (q5, .inl (cA 0, 9, .inl ms_z)), (q6, .inr (2, [.int 0, .int 0, .int 0, .int 0, .int 0, .ref q21, .ref q22, .ref q23, .ref q24, .ref q25, .ref q26, .ref q27, .ref q28]))]) (wr := [(q0, .inr (10, [.ref q7, .ref q6, .ref q1, .ref q8, .ref q9, .int 0, .ref q2, .ref q10, .ref q11, .ref q3, .ref q12, .ref q13])), (q1, .inr (8, [.ref q4, .int 0, .int 0, .int 0, .int (-1), .int (-1)])), (q2, .inr (5, [.ref q14, .ref q15, .ref q16, .ref q17, .int 0, .ref q18, .ref q19, .int 0]))]) ⟨hx, hb, hml, hown, hts⟩ hE (cX4_plan_1 l D cA q3 q4 q5 q6 q14 q20 q21 q22 q23 q24 q25 q26 q27 q28) (cwV 3 hts gX10_dawns_X4_plan rfl rfl rfl (by decide +kernel) ⟨Nat.le_of_ble_eq_true rfl, Nat.le_of_ble_eq_true rfl⟩) hP hD hS hA [3, 4, 5, 6] [0, 1, 2] rfl rfl rfl rfl (by decide) 0 4 rfl rfl rfl hl.1 rfl (Nat.le_of_ble_eq_true rfl) dX10_dawns_22 ⟨Nat.le_of_ble_eq_true rfl, Nat.le_of_ble_eq_true rfl⟩ (fun r2 u1 H locs hp hP hD hS => ?_)
  subst hp
  have hP : va_P D vwCl [(q0, .inr (10, [.ref q7, .ref q6, .ref q1, .ref q8, .ref q9, .int 0, .ref q2, .ref q10, .ref q11, .ref q3, .ref q12, .ref q13])), (q1, .inr (8, [.ref q4, .int 0, .int 0, .int 0, .int (-1), .int (-1)])), (q2, .inr (5, [.ref q14, .ref q15, .ref q16, .ref q17, .int 0, .ref q18, .ref q19, .int 0])), (q3, .inr (4, [.ref q20, .int 0, .ref q5, .int 0])), (q4, .inl (cA 0, 9, .inl ms_z)), (q5, .inl (cA 0, 9, .inl ms_z)), (q6, .inr (2, [.int 0, .int 0, .int 0, .int 0, .int 0, .ref q21, .ref q22, .ref q23, .ref q24, .ref q25, .ref q26, .ref q27, .ref q28]))] H := hP
  have hD : va_D A [(q0, .inr (10, [.ref q7, .ref q6, .ref q1, .ref q8, .ref q9, .int 0, .ref q2, .ref q10, .ref q11, .ref q3, .ref q12, .ref q13])), (q1, .inr (8, [.ref q4, .int 0, .int 0, .int 0, .int (-1), .int (-1)])), (q2, .inr (5, [.ref q14, .ref q15, .ref q16, .ref q17, .int 0, .ref q18, .ref q19, .int 0])), (q3, .inr (4, [.ref q20, .int 0, .ref q5, .int 0])), (q4, .inl (cA 0, 9, .inl ms_z)), (q5, .inl (cA 0, 9, .inl ms_z)), (q6, .inr (2, [.int 0, .int 0, .int 0, .int 0, .int 0, .ref q21, .ref q22, .ref q23, .ref q24, .ref q25, .ref q26, .ref q27, .ref q28]))] := hD
  refine lv_if_ne (tgt := 30) hx hb dX10_dawns_25 (by decide) (fun _ => ?_) (fun c => absurd c (by decide))
  refine lv_iload_n hx hb dX10_dawns_30 rfl (lv_at hl 1 rfl) ?_
  refine lv_iconst (v := (-1)) hx hb dX10_dawns_31 (by decide) ?_
  refine lv_icmp_ne (tgt := 43) hx hb dX10_dawns_32 (by decide) (fun _ => ?_) (fun c => by exfalso; have hc3 := congrArg Int32.toInt c; have z4 : ((-1) : Int32).toInt = -1 := (by decide); omega)
  refine lv_iload_n hx hb dX10_dawns_43 rfl (lv_at hl 1 rfl) ?_
  refine lv_if_lt (tgt := 70) hx hb dX10_dawns_44 (by decide) (fun c => by exfalso; have hc5 := Int32.lt_iff_toInt_lt.mp c; have z6 : (0 : Int32).toInt = 0 := (by decide); omega) (fun _ => ?_)
  refine lv_iload_n hx hb dX10_dawns_47 rfl (lv_at hl 1 rfl) ?_
  refine lv_aload_n hx hb dX10_dawns_48 rfl (lv_at hl 0 rfl) ?_
  refine va_get (D := D) (ci := 10) (v := .ref q3) (C := RX10) (T := TX10) (N := 12) hx hb hts hnX10 hown hE.1 hP 0 rfl rfl 9 (by decide) (hts (.fieldLink RX10 68 "MovedStones" "nights" "LMovedStones$Nights;") (List.mem_cons_of_mem _ (List.mem_append_left _ (List.mem_append_left _ (List.mem_append_left _ (List.mem_append_left _ (List.mem_append_left _ (List.mem_append_left _ (List.mem_of_getElem? (i := 0) rfl))))))))) (fun _ h9 => h9) rfl dX10_dawns_49 ?_
  refine va_get (D := D) (ci := 4) (v := .int 0) (C := RX4) (T := TX4) (N := 4) hx hb hts hnX4 hown hE.1 hP 3 rfl rfl 1 (by decide) (hts (.fieldLink RX10 282 "MovedStones$Nights" "count" "I") (List.mem_cons_of_mem _ (List.mem_append_left _ (List.mem_append_left _ (List.mem_append_left _ (List.mem_append_left _ (List.mem_append_left _ (List.mem_append_left _ (List.mem_of_getElem? (i := 6) rfl))))))))) (fun _ h9 => h9) rfl dX10_dawns_52 ?_
  refine lv_icmp_ge (tgt := 70) hx hb dX10_dawns_55 (by decide) (fun _ => ?_) (fun c => by exfalso; have hc7 := mt Int32.le_iff_toInt_le.mpr c; have z8 : (0 : Int32).toInt = 0 := (by decide); omega)
  refine lv_iconst (v := (-1)) hx hb dX10_dawns_70 (by decide) ?_
  exact ms_iret hx hb hr hlk () rfl hP hD hS (Nat.le_of_ble_eq_true rfl) (Nat.le_of_ble_eq_true rfl) dX10_dawns_71
set_option maxHeartbeats 4000000 in
set_option maxRecDepth 100000 in
theorem cX11_dawns_3 (l : Launch) (D : va_G) (cA : Nat → ClassId) (q0 q1 q2 q3 q4 q5 q6 q7 q8 q9 q10 q11 q12 q13 q14 q15 q16 q17 q18 : Nat) (a0 : Int32) (g0 : 0 ≤ a0.toInt) : ms_Mi l yX11_dawns wsX11_dawns ({ frames := 2, cells := 0, slots := 0, locals := 50 } : Room) D cA [.ref q0, .int a0] [(q0, .inr (11, [.ref q1, .ref q4, .ref q2, .ref q5, .int 0, .ref q6, .ref q7, .long 0, .ref q8, .int 0, .int (-1), .ref q9, .ref q10, .int 0, .ref q11, .int 0, .int 0, .int 0, .int 0, .int 0, .int 0, .int 0, .ref q12, .ref q13, .ref q14, .int 0, .ref q3, .ref q15, .ref q16, .ref q17, .int 0, .ref q18])), (q1, .inl (cA 0, 68, .inl ms_z)), (q2, .inl (cA 0, 14, .inl ms_n)), (q3, .inl (cA 0, 9, .inl ms_z))] (fun (r : Int32) (_ : Unit) => r = (-1)) (fun (_ : Unit) => [(q0, .inr (11, [.ref q1, .ref q4, .ref q2, .ref q5, .int 0, .ref q6, .ref q7, .long 0, .ref q8, .int 0, .int (-1), .ref q9, .ref q10, .int 0, .ref q11, .int 0, .int 0, .int 0, .int 0, .int 0, .int 0, .int 0, .ref q12, .ref q13, .ref q14, .int 0, .ref q3, .ref q15, .ref q16, .ref q17, .int 0, .ref q18])), (q1, .inl (cA 0, 68, .inl ms_z)), (q2, .inl (cA 0, 14, .inl ms_n)), (q3, .inl (cA 0, 9, .inl ms_z))]) := by
  refine ms_Mi_of (cc := cX11_dawns) (maxL := 4) (ret := (some .int)) (by decide) rfl (Nat.le_of_ble_eq_true rfl) ?_
  intro p e s m args below meth c A ls hB hE hA hP hD hS hl
  obtain ⟨hx, hb, hr, hml, hown, hts, hlk, hnm⟩ := hB
  have hown : s.vm.findClass RX11 = some m.cls := hown
  have hnX11 : ∀ w ∈ u_ws RX11 TX11 32, w ∈ wsX11_dawns := fun _ h => List.mem_cons_of_mem _ (List.mem_append_right _ (h))
  have hl : lv_has ls 4 [(0, .ref q0), (1, .int a0)] := hl
  refine lv_aload_n hx hb dX11_dawns_0 rfl (lv_at hl 0 rfl) ?_
  refine lv_iconst (v := 0) hx hb dX11_dawns_1 (by decide) ?_
  refine va_put (D := D) (ci := 11) (v := .int 0) (ty := tyX11 30) (C := RX11) (T := TX11) (N := 32) hx hb hts hnX11 tyX11 tyX11_ok nmX11 hown hE.1 hP hD hS 0 rfl rfl 30 (by decide) (hts (.fieldLink RX11 258 "MovedStonesModel" "movedMany" "I") (List.mem_cons_of_mem _ (List.mem_append_left _ (List.mem_append_left _ (List.mem_of_getElem? (i := 0) rfl))))) (fun _ h9 => h9) rfl (tyX11_ok 30 (by decide)) rfl rfl (Nat.le_of_ble_eq_true rfl) dX11_dawns_2 (fun H locs hP hD hS => ?_)
  have hP : va_P D vwCl [(q0, .inr (11, [.ref q1, .ref q4, .ref q2, .ref q5, .int 0, .ref q6, .ref q7, .long 0, .ref q8, .int 0, .int (-1), .ref q9, .ref q10, .int 0, .ref q11, .int 0, .int 0, .int 0, .int 0, .int 0, .int 0, .int 0, .ref q12, .ref q13, .ref q14, .int 0, .ref q3, .ref q15, .ref q16, .ref q17, .int 0, .ref q18])), (q1, .inl (cA 0, 68, .inl ms_z)), (q2, .inl (cA 0, 14, .inl ms_n)), (q3, .inl (cA 0, 9, .inl ms_z))] H := hP
  have hD : va_D A [(q0, .inr (11, [.ref q1, .ref q4, .ref q2, .ref q5, .int 0, .ref q6, .ref q7, .long 0, .ref q8, .int 0, .int (-1), .ref q9, .ref q10, .int 0, .ref q11, .int 0, .int 0, .int 0, .int 0, .int 0, .int 0, .int 0, .ref q12, .ref q13, .ref q14, .int 0, .ref q3, .ref q15, .ref q16, .ref q17, .int 0, .ref q18])), (q1, .inl (cA 0, 68, .inl ms_z)), (q2, .inl (cA 0, 14, .inl ms_n)), (q3, .inl (cA 0, 9, .inl ms_z))] := hD
  refine lv_iconst (v := 1) hx hb dX11_dawns_5 (by decide) ?_
  refine lv_istore_n (lv' := [(2, .int 1), (0, .ref q0), (1, .int a0)]) hx hb dX11_dawns_6 rfl hl (by decide) rfl (fun ls hl => ?_)
  refine lv_iconst (v := 0) hx hb dX11_dawns_7 (by decide) ?_
  refine lv_istore_n (lv' := [(3, .int 0), (2, .int 1), (0, .ref q0), (1, .int a0)]) hx hb dX11_dawns_8 rfl hl (by decide) rfl (fun ls hl => ?_)
  refine lv_iload_n hx hb dX11_dawns_9 rfl (lv_at hl 0 rfl) ?_
  refine lv_aload_n hx hb dX11_dawns_10 rfl (lv_at hl 2 rfl) ?_
  refine va_get (D := D) (ci := 11) (v := .ref q1) (C := RX11) (T := TX11) (N := 32) hx hb hts hnX11 hown hE.1 hP 0 rfl rfl 0 (by decide) (hts (.fieldLink RX11 7 "MovedStonesModel" "march" "[I") (List.mem_cons_of_mem _ (List.mem_append_left _ (List.mem_append_left _ (List.mem_of_getElem? (i := 1) rfl))))) (fun _ h9 => h9) rfl dX11_dawns_11 ?_
  refine lv_iconst (v := 3) hx hb dX11_dawns_14 (by decide) ?_
  refine ms_iald (x := 0) hx hb hE hP 1 rfl 3 rfl (by omega) (by decide) (rfl) dX11_dawns_15 ?_
  refine lv_icmp_ge (tgt := 73) hx hb dX11_dawns_16 (by decide) (fun _ => ?_) (fun c => absurd (by decide) c)
  refine lv_iconst (v := 0) hx hb dX11_dawns_73 (by decide) ?_
  refine lv_istore_n (lv' := [(3, .int 0), (2, .int 1), (0, .ref q0), (1, .int a0)]) hx hb dX11_dawns_74 rfl hl (by decide) rfl (fun ls hl => ?_)
  refine lv_iload_n hx hb dX11_dawns_75 rfl (lv_at hl 0 rfl) ?_
  refine lv_iload_n hx hb dX11_dawns_76 rfl (lv_at hl 1 rfl) ?_
  refine lv_icmp_ge (tgt := 138) hx hb dX11_dawns_77 (by decide) (fun c => absurd c (by decide)) (fun _ => ?_)
  refine lv_aload_n hx hb dX11_dawns_80 rfl (lv_at hl 2 rfl) ?_
  refine lv_iload_n hx hb dX11_dawns_81 rfl (lv_at hl 0 rfl) ?_
  refine ms_cVi (qc := (RX11, TX11, 32)) (wc := [(q0, .inr (11, [.ref q1, .ref q4, .ref q2, .ref q5, .int 0, .ref q6, .ref q7, .long 0, .ref q8, .int 0, .int (-1), .ref q9, .ref q10, .int 0, .ref q11, .int 0, .int 0, .int 0, .int 0, .int 0, .int 0, .int 0, .ref q12, .ref q13, .ref q14, .int 0, .ref q3, .ref q15, .ref q16, .ref q17, .int 0, .ref q18])), (q1, .inl (cA 0, 68, .inl ms_z)), (q2, .inl (cA 0, 14, .inl ms_n)), (q3, .inl (cA 0, 9, .inl ms_z))]) (wr := []) ⟨hx, hb, hml, hown, hts⟩ hE (cX11_dawnsWell_1 l D cA q0 q1 q2 q3 q4 q5 q6 q7 q8 q9 q10 q11 q12 q13 q14 q15 q16 q17 q18) (cwV 1 hts gX11_dawns_X11_dawnsWell rfl rfl rfl (by decide +kernel) ⟨Nat.le_of_ble_eq_true rfl, Nat.le_of_ble_eq_true rfl⟩) hP hD hS hA [0, 1, 2, 3] [] rfl rfl rfl rfl (by decide) 0 11 rfl rfl rfl hl.1 rfl (Nat.le_of_ble_eq_true rfl) dX11_dawns_82 ⟨Nat.le_of_ble_eq_true rfl, Nat.le_of_ble_eq_true rfl⟩ (fun r2 u1 H locs hp hP hD hS => ?_)
  subst hp
  have hP : va_P D vwCl [(q0, .inr (11, [.ref q1, .ref q4, .ref q2, .ref q5, .int 0, .ref q6, .ref q7, .long 0, .ref q8, .int 0, .int (-1), .ref q9, .ref q10, .int 0, .ref q11, .int 0, .int 0, .int 0, .int 0, .int 0, .int 0, .int 0, .ref q12, .ref q13, .ref q14, .int 0, .ref q3, .ref q15, .ref q16, .ref q17, .int 0, .ref q18])), (q1, .inl (cA 0, 68, .inl ms_z)), (q2, .inl (cA 0, 14, .inl ms_n)), (q3, .inl (cA 0, 9, .inl ms_z))] H := hP
  have hD : va_D A [(q0, .inr (11, [.ref q1, .ref q4, .ref q2, .ref q5, .int 0, .ref q6, .ref q7, .long 0, .ref q8, .int 0, .int (-1), .ref q9, .ref q10, .int 0, .ref q11, .int 0, .int 0, .int 0, .int 0, .int 0, .int 0, .int 0, .ref q12, .ref q13, .ref q14, .int 0, .ref q3, .ref q15, .ref q16, .ref q17, .int 0, .ref q18])), (q1, .inl (cA 0, 68, .inl ms_z)), (q2, .inl (cA 0, 14, .inl ms_n)), (q3, .inl (cA 0, 9, .inl ms_z))] := hD
  refine lv_if_eq (tgt := 132) hx hb dX11_dawns_85 (by decide) (fun c => absurd c (by decide)) (fun _ => ?_)
  refine lv_iload_n hx hb dX11_dawns_88 rfl (lv_at hl 3 rfl) ?_
  refine lv_iconst (v := (-1)) hx hb dX11_dawns_89 (by decide) ?_
  refine lv_icmp_ne (tgt := 100) hx hb dX11_dawns_90 (by decide) (fun _ => ?_) (fun c => by exfalso; have hc3 := congrArg Int32.toInt c; have z4 : ((-1) : Int32).toInt = -1 := (by decide); omega)
  refine lv_iload_n hx hb dX11_dawns_100 rfl (lv_at hl 3 rfl) ?_
  refine lv_i2l (v := a0.toInt64) hx hb dX11_dawns_101 rfl ?_
  refine lv_lconst (v := 0) hx hb dX11_dawns_102 (by decide) ?_
  refine lv_aload_n hx hb dX11_dawns_103 rfl (lv_at hl 2 rfl) ?_
  refine va_get (D := D) (ci := 11) (v := .int 0) (C := RX11) (T := TX11) (N := 32) hx hb hts hnX11 hown hE.1 hP 0 rfl rfl 30 (by decide) (hts (.fieldLink RX11 258 "MovedStonesModel" "movedMany" "I") (List.mem_cons_of_mem _ (List.mem_append_left _ (List.mem_append_left _ (List.mem_of_getElem? (i := 0) rfl))))) (fun _ h9 => h9) rfl dX11_dawns_104 ?_
  refine lv_iconst (v := 1) hx hb dX11_dawns_107 (by decide) ?_
  refine lv_isub hx hb dX11_dawns_108 ?_
  refine ms_eqi (y := (-1)) (by decide) ?_
  refine lv_i2l (v := (-1)) hx hb dX11_dawns_109 (by decide) ?_
  refine ms_cSi (wc := []) (wr := [(q0, .inr (11, [.ref q1, .ref q4, .ref q2, .ref q5, .int 0, .ref q6, .ref q7, .long 0, .ref q8, .int 0, .int (-1), .ref q9, .ref q10, .int 0, .ref q11, .int 0, .int 0, .int 0, .int 0, .int 0, .int 0, .int 0, .ref q12, .ref q13, .ref q14, .int 0, .ref q3, .ref q15, .ref q16, .ref q17, .int 0, .ref q18])), (q1, .inl (cA 0, 68, .inl ms_z)), (q2, .inl (cA 0, 14, .inl ms_n)), (q3, .inl (cA 0, 9, .inl ms_z))]) ⟨hx, hb, hml, hown, hts⟩ hE (c_in l D cA a0.toInt64 0 (-1)) (va_cwS 3 hts gX11_dawns_X11_in rfl rfl rfl (by decide +kernel) ⟨Nat.le_of_ble_eq_true rfl, Nat.le_of_ble_eq_true rfl⟩) hP hD hS hA [] [0, 1, 2, 3] rfl rfl rfl rfl (by decide) rfl hl.1 rfl (Nat.le_of_ble_eq_true rfl) dX11_dawns_110 ⟨Nat.le_of_ble_eq_true rfl, Nat.le_of_ble_eq_true rfl⟩ (fun r5 u6 H locs hp hP hD hS => ?_)
  have hp : r5 = 0 := by rw [hp]; have z7 : (0 : Int64).toInt = 0 := (by decide); have z8 : ((-1) : Int64).toInt = -1 := (by decide); have z9 : (a0.toInt64).toInt = a0.toInt := Int32.toInt_toInt64 _; exact if_neg (by omega)
  subst hp
  have hP : va_P D vwCl [(q0, .inr (11, [.ref q1, .ref q4, .ref q2, .ref q5, .int 0, .ref q6, .ref q7, .long 0, .ref q8, .int 0, .int (-1), .ref q9, .ref q10, .int 0, .ref q11, .int 0, .int 0, .int 0, .int 0, .int 0, .int 0, .int 0, .ref q12, .ref q13, .ref q14, .int 0, .ref q3, .ref q15, .ref q16, .ref q17, .int 0, .ref q18])), (q1, .inl (cA 0, 68, .inl ms_z)), (q2, .inl (cA 0, 14, .inl ms_n)), (q3, .inl (cA 0, 9, .inl ms_z))] H := hP
  have hD : va_D A [(q0, .inr (11, [.ref q1, .ref q4, .ref q2, .ref q5, .int 0, .ref q6, .ref q7, .long 0, .ref q8, .int 0, .int (-1), .ref q9, .ref q10, .int 0, .ref q11, .int 0, .int 0, .int 0, .int 0, .int 0, .int 0, .int 0, .ref q12, .ref q13, .ref q14, .int 0, .ref q3, .ref q15, .ref q16, .ref q17, .int 0, .ref q18])), (q1, .inl (cA 0, 68, .inl ms_z)), (q2, .inl (cA 0, 14, .inl ms_n)), (q3, .inl (cA 0, 9, .inl ms_z))] := hD
  refine lv_if_eq (tgt := 130) hx hb dX11_dawns_113 (by decide) (fun _ => ?_) (fun c => absurd (by decide) c)
  refine lv_iconst (v := (-1)) hx hb dX11_dawns_130 (by decide) ?_
  exact ms_iret hx hb hr hlk () rfl hP hD hS (Nat.le_of_ble_eq_true rfl) (Nat.le_of_ble_eq_true rfl) dX11_dawns_131
set_option maxHeartbeats 4000000 in
set_option maxRecDepth 100000 in
theorem cX10_round_1 (l : Launch) (D : va_G) (cA : Nat → ClassId) (q0 q1 q2 q3 q4 q5 q6 q7 q8 q9 q10 q11 : Nat) (a0 : Int32) (g0 : a0.toInt ≤ -1) : ms_Mi l yX10_round wsX10_round ({ frames := 0, cells := 0, slots := 0, locals := 0 } : Room) D cA [.ref q0, .int a0] [(q0, .inr (10, [.ref q1, .ref q2, .ref q3, .ref q4, .ref q5, .int 0, .ref q6, .ref q7, .ref q8, .ref q9, .ref q10, .ref q11]))] (fun (r : Int32) (_ : Unit) => r = (-1000000002)) (fun (_ : Unit) => [(q0, .inr (10, [.ref q1, .ref q2, .ref q3, .ref q4, .ref q5, .int 0, .ref q6, .ref q7, .ref q8, .ref q9, .ref q10, .ref q11]))]) := by
  refine ms_Mi_of (cc := cX10_round) (maxL := 2) (ret := (some .int)) (by decide) rfl (Nat.le_of_ble_eq_true rfl) ?_
  intro p e s m args below meth c A ls hB hE hA hP hD hS hl
  obtain ⟨hx, hb, hr, hml, hown, hts, hlk, hnm⟩ := hB
  have hown : s.vm.findClass RX10 = some m.cls := hown
  have hl : lv_has ls 2 [(0, .ref q0), (1, .int a0)] := hl
  refine lv_iload_n hx hb dX10_round_0 rfl (lv_at hl 1 rfl) ?_
  refine lv_if_lt (tgt := 9) hx hb dX10_round_1 (by decide) (fun _ => ?_) (fun c => by exfalso; have hc1 := mt Int32.lt_iff_toInt_lt.mpr c; have z2 : (0 : Int32).toInt = 0 := (by decide); omega)
  refine lv_ldc (v := (-1000000002)) hx hb hown (hts (.constant RX10 83 (-1000000002)) (List.mem_cons_of_mem _ (List.mem_append_left _ (List.mem_append_left _ (List.mem_append_left _ (List.mem_append_left _ (List.mem_append_left _ (List.mem_of_getElem? (i := 0) rfl)))))))) dX10_round_9 ?_
  exact ms_iret hx hb hr hlk () rfl hP hD hS (Nat.le_of_ble_eq_true rfl) (Nat.le_of_ble_eq_true rfl) dX10_round_11
