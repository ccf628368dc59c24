set_option maxHeartbeats 4000000 in
set_option maxRecDepth 100000 in
theorem cX10_rate_1 (l : Launch) (D : va_G) (cA : Nat → ClassId) (q0 q1 q2 q3 q4 q5 q6 q7 q8 q9 q10 q11 q12 q13 q14 q15 q16 q17 q18 q19 : Nat) (a0 : Int32) (a1 : Int32) : ms_Mi l yX10_rate wsX10_rate ({ frames := 2, cells := 0, slots := 0, locals := 43 } : Room) D cA [.ref q0, .int a0, .int a1] [(q0, .inr (10, [.ref q2, .ref q1, .ref q3, .ref q4, .ref q5, .int 0, .ref q6, .ref q7, .ref q8, .ref q9, .ref q10, .ref q11])), (q1, .inr (2, [.int 0, .int 0, .int 0, .int 0, .int 0, .ref q12, .ref q13, .ref q14, .ref q15, .ref q16, .ref q17, .ref q18, .ref q19]))] (fun (r : Int32) (_ : Unit) => r = (-1000000001)) (fun (_ : Unit) => [(q0, .inr (10, [.ref q2, .ref q1, .ref q3, .ref q4, .ref q5, .int 0, .ref q6, .ref q7, .ref q8, .ref q9, .ref q10, .ref q11])), (q1, .inr (2, [.int 0, .int 0, .int 0, .int 0, .int 0, .ref q12, .ref q13, .ref q14, .ref q15, .ref q16, .ref q17, .ref q18, .ref q19]))]) := by
  refine ms_Mi_of (cc := cX10_rate) (maxL := 4) (ret := (some .int)) (by decide) rfl (Nat.le_of_ble_eq_true rfl) ?_
  intro p e s m args below meth c A ls hB hE hA hP hD hS hl
  obtain ⟨hx, hb, hr, hml, hown, hts, hlk, hnm⟩ := hB
  have hown : s.vm.findClass RX10 = some m.cls := hown
  have hl : lv_has ls 4 [(0, .ref q0), (1, .int a0), (2, .int a1)] := hl
  refine lv_aload_n hx hb dX10_rate_0 rfl (lv_at hl 0 rfl) ?_
  refine lv_iload_n hx hb dX10_rate_1 rfl (lv_at hl 1 rfl) ?_
  refine lv_iload_n hx hb dX10_rate_2 rfl (lv_at hl 2 rfl) ?_
  refine ms_cVi (qc := (RX10, TX10, 12)) (wc := [(q0, .inr (10, [.ref q2, .ref q1, .ref q3, .ref q4, .ref q5, .int 0, .ref q6, .ref q7, .ref q8, .ref q9, .ref q10, .ref q11])), (q1, .inr (2, [.int 0, .int 0, .int 0, .int 0, .int 0, .ref q12, .ref q13, .ref q14, .ref q15, .ref q16, .ref q17, .ref q18, .ref q19]))]) (wr := []) ⟨hx, hb, hml, hown, hts⟩ hE (cX10_areTowns_1 l D cA q0 q1 q2 q3 q4 q5 q6 q7 q8 q9 q10 q11 q12 q13 q14 q15 q16 q17 q18 q19 a0 a1) (cwV 2 hts gX10_rate_X10_areTowns rfl rfl rfl (by decide +kernel) ⟨Nat.le_of_ble_eq_true rfl, Nat.le_of_ble_eq_true rfl⟩) hP hD hS hA [0, 1] [] rfl rfl rfl rfl (by decide) 0 10 rfl rfl rfl hl.1 rfl (Nat.le_of_ble_eq_true rfl) dX10_rate_3 ⟨Nat.le_of_ble_eq_true rfl, Nat.le_of_ble_eq_true rfl⟩ (fun r2 u1 H locs hp hP hD hS => ?_)
  subst hp
  have hP : va_P D vwCl [(q0, .inr (10, [.ref q2, .ref q1, .ref q3, .ref q4, .ref q5, .int 0, .ref q6, .ref q7, .ref q8, .ref q9, .ref q10, .ref q11])), (q1, .inr (2, [.int 0, .int 0, .int 0, .int 0, .int 0, .ref q12, .ref q13, .ref q14, .ref q15, .ref q16, .ref q17, .ref q18, .ref q19]))] H := hP
  have hD : va_D A [(q0, .inr (10, [.ref q2, .ref q1, .ref q3, .ref q4, .ref q5, .int 0, .ref q6, .ref q7, .ref q8, .ref q9, .ref q10, .ref q11])), (q1, .inr (2, [.int 0, .int 0, .int 0, .int 0, .int 0, .ref q12, .ref q13, .ref q14, .ref q15, .ref q16, .ref q17, .ref q18, .ref q19]))] := hD
  refine lv_if_ne (tgt := 12) hx hb dX10_rate_6 (by decide) (fun c => absurd (by decide) c) (fun _ => ?_)
  refine lv_ldc (v := (-1000000001)) hx hb hown (hts (.constant RX10 178 (-1000000001)) (List.mem_cons_of_mem _ (List.mem_append_left _ (List.mem_append_left _ (List.mem_append_left _ (List.mem_append_left _ (List.mem_append_left _ (List.mem_of_getElem? (i := 0) rfl)))))))) dX10_rate_9 ?_
  exact ms_iret hx hb hr hlk () rfl hP hD hS (Nat.le_of_ble_eq_true rfl) (Nat.le_of_ble_eq_true rfl) dX10_rate_11
set_option maxHeartbeats 4000000 in
set_option maxRecDepth 100000 in
theorem cX11_rate_1 (l : Launch) (D : va_G) (cA : Nat → ClassId) (q0 q1 q2 q3 q4 q5 q6 q7 q8 q9 q10 q11 q12 q13 q14 q15 q16 q17 q18 : Nat) (a0 : Int32) (a1 : Int32) : ms_Mi l yX11_rate wsX11_rate ({ frames := 4, cells := 0, slots := 0, locals := 92 } : Room) D cA [.ref q0, .int a0, .int a1] [(q0, .inr (11, [.ref q1, .ref q2, .ref q3, .ref q4, .int 0, .ref q5, .ref q6, .long 0, .ref q7, .int 0, .int (-1), .ref q8, .ref q9, .int 0, .ref q10, .int 0, .int 0, .int 0, .int 0, .int 0, .int 0, .int 0, .ref q11, .ref q12, .ref q13, .int 0, .ref q14, .ref q15, .ref q16, .ref q17, .int 0, .ref q18])), (q1, .inl (cA 0, 68, .inl ms_z))] (fun (r : Int32) (_ : Unit) => r = (-1000000001)) (fun (_ : Unit) => [(q0, .inr (11, [.ref q1, .ref q2, .ref q3, .ref q4, .int 0, .ref q5, .ref q6, .long 0, .ref q7, .int 0, .int (-1), .ref q8, .ref q9, .int 0, .ref q10, .int 0, .int 0, .int 0, .int 0, .int 0, .int 0, .int 0, .ref q11, .ref q12, .ref q13, .int 0, .ref q14, .ref q15, .ref q16, .ref q17, .int 0, .ref q18])), (q1, .inl (cA 0, 68, .inl ms_z))]) := by
  refine ms_Mi_of (cc := cX11_rate) (maxL := 4) (ret := (some .int)) (by decide) rfl (Nat.le_of_ble_eq_true rfl) ?_
  intro p e s m args below meth c A ls hB hE hA hP hD hS hl
  obtain ⟨hx, hb, hr, hml, hown, hts, hlk, hnm⟩ := hB
  have hown : s.vm.findClass RX11 = some m.cls := hown
  have hl : lv_has ls 4 [(0, .ref q0), (1, .int a0), (2, .int a1)] := hl
  refine lv_aload_n hx hb dX11_rate_0 rfl (lv_at hl 0 rfl) ?_
  refine lv_iload_n hx hb dX11_rate_1 rfl (lv_at hl 1 rfl) ?_
  refine lv_iload_n hx hb dX11_rate_2 rfl (lv_at hl 2 rfl) ?_
  refine lv_iconst (v := 0) hx hb dX11_rate_3 (by decide) ?_
  refine ms_cVi (qc := (RX11, TX11, 32)) (wc := [(q0, .inr (11, [.ref q1, .ref q2, .ref q3, .ref q4, .int 0, .ref q5, .ref q6, .long 0, .ref q7, .int 0, .int (-1), .ref q8, .ref q9, .int 0, .ref q10, .int 0, .int 0, .int 0, .int 0, .int 0, .int 0, .int 0, .ref q11, .ref q12, .ref q13, .int 0, .ref q14, .ref q15, .ref q16, .ref q17, .int 0, .ref q18])), (q1, .inl (cA 0, 68, .inl ms_z))]) (wr := []) ⟨hx, hb, hml, hown, hts⟩ hE (cX11_way_2 l D cA q0 q1 q2 q3 q4 q5 q6 q7 q8 q9 q10 q11 q12 q13 q14 q15 q16 q17 q18 a0 a1) (cwV 3 hts gX11_rate_X11_way rfl rfl rfl (by decide +kernel) ⟨Nat.le_of_ble_eq_true rfl, Nat.le_of_ble_eq_true rfl⟩) hP hD hS hA [0, 1] [] rfl rfl rfl rfl (by decide) 0 11 rfl rfl rfl hl.1 rfl (Nat.le_of_ble_eq_true rfl) dX11_rate_4 ⟨Nat.le_of_ble_eq_true rfl, Nat.le_of_ble_eq_true rfl⟩ (fun r2 u1 H locs hp hP hD hS => ?_)
  subst hp
  have hP : va_P D vwCl [(q0, .inr (11, [.ref q1, .ref q2, .ref q3, .ref q4, .int 0, .ref q5, .ref q6, .long 0, .ref q7, .int 0, .int (-1), .ref q8, .ref q9, .int 0, .ref q10, .int 0, .int 0, .int 0, .int 0, .int 0, .int 0, .int 0, .ref q11, .ref q12, .ref q13, .int 0, .ref q14, .ref q15, .ref q16, .ref q17, .int 0, .ref q18])), (q1, .inl (cA 0, 68, .inl ms_z))] H := hP
  have hD : va_D A [(q0, .inr (11, [.ref q1, .ref q2, .ref q3, .ref q4, .int 0, .ref q5, .ref q6, .long 0, .ref q7, .int 0, .int (-1), .ref q8, .ref q9, .int 0, .ref q10, .int 0, .int 0, .int 0, .int 0, .int 0, .int 0, .int 0, .ref q11, .ref q12, .ref q13, .int 0, .ref q14, .ref q15, .ref q16, .ref q17, .int 0, .ref q18])), (q1, .inl (cA 0, 68, .inl ms_z))] := hD
  refine lv_istore_n (lv' := [(3, .int (-1000000001)), (0, .ref q0), (1, .int a0), (2, .int a1)]) hx hb dX11_rate_7 rfl hl (by decide) rfl (fun ls hl => ?_)
  refine lv_iload_n hx hb dX11_rate_8 rfl (lv_at hl 0 rfl) ?_
  refine lv_if_ge (tgt := 16) hx hb dX11_rate_9 (by decide) (fun c => absurd c (by decide)) (fun _ => ?_)
  refine lv_iload_n hx hb dX11_rate_12 rfl (lv_at hl 0 rfl) ?_
  refine lv_goto (tgt := 24) hx hb dX11_rate_13 (by decide) ?_
  exact ms_iret hx hb hr hlk () rfl hP hD hS (Nat.le_of_ble_eq_true rfl) (Nat.le_of_ble_eq_true rfl) dX11_rate_24
set_option maxHeartbeats 4000000 in
set_option maxRecDepth 100000 in
theorem cX10_journey_1 (l : Launch) (D : va_G) (cA : Nat → ClassId) (q0 q1 q2 q3 q4 q5 q6 q7 q8 q9 q10 q11 q12 q13 q14 q15 q16 q17 q18 q19 : Nat) (a0 : Int32) (a1 : Int32) (g0 : a0.toInt ≤ -1) : ms_Mi l yX10_journey wsX10_journey ({ frames := 1, cells := 0, slots := 0, locals := 20 } : Room) D cA [.ref q0, .int a0, .int a1] [(q0, .inr (10, [.ref q2, .ref q1, .ref q3, .ref q4, .ref q5, .int 0, .ref q6, .ref q7, .ref q8, .ref q9, .ref q10, .ref q11])), (q1, .inr (2, [.int 0, .int 0, .int 0, .int 0, .int 0, .ref q12, .ref q13, .ref q14, .ref q15, .ref q16, .ref q17, .ref q18, .ref q19]))] (fun (r : Int32) (_ : Unit) => r = (-1000000001)) (fun (_ : Unit) => [(q0, .inr (10, [.ref q2, .ref q1, .ref q3, .ref q4, .ref q5, .int 0, .ref q6, .ref q7, .ref q8, .ref q9, .ref q10, .ref q11])), (q1, .inr (2, [.int 0, .int 0, .int 0, .int 0, .int 0, .ref q12, .ref q13, .ref q14, .ref q15, .ref q16, .ref q17, .ref q18, .ref q19]))]) := by
  refine ms_Mi_of (cc := cX10_journey) (maxL := 3) (ret := (some .int)) (by decide) rfl (Nat.le_of_ble_eq_true rfl) ?_
  intro p e s m args below meth c A ls hB hE hA hP hD hS hl
  obtain ⟨hx, hb, hr, hml, hown, hts, hlk, hnm⟩ := hB
  have hown : s.vm.findClass RX10 = some m.cls := hown
  have hnX10 : ∀ w ∈ u_ws RX10 TX10 12, w ∈ wsX10_journey := fun _ h => List.mem_cons_of_mem _ (List.mem_append_left _ (List.mem_append_left _ (List.mem_append_right _ (h))))
  have hl : lv_has ls 3 [(0, .ref q0), (1, .int a0), (2, .int a1)] := hl
  refine lv_iload_n hx hb dX10_journey_0 rfl (lv_at hl 1 rfl) ?_
  refine lv_aload_n hx hb dX10_journey_1 rfl (lv_at hl 0 rfl) ?_
  refine va_get (D := D) (ci := 10) (v := .ref q1) (C := RX10) (T := TX10) (N := 12) hx hb hts hnX10 hown hE.1 hP 0 rfl rfl 1 (by decide) (hts (.fieldLink RX10 19 "MovedStones" "land" "LMovedStones$Land;") (List.mem_cons_of_mem _ (List.mem_append_left _ (List.mem_append_left _ (List.mem_append_left _ (List.mem_of_getElem? (i := 0) rfl)))))) (fun _ h9 => h9) rfl dX10_journey_2 ?_
  refine ms_cVi (qc := (RX2, TX2, 13)) (wc := [(q1, .inr (2, [.int 0, .int 0, .int 0, .int 0, .int 0, .ref q12, .ref q13, .ref q14, .ref q15, .ref q16, .ref q17, .ref q18, .ref q19]))]) (wr := [(q0, .inr (10, [.ref q2, .ref q1, .ref q3, .ref q4, .ref q5, .int 0, .ref q6, .ref q7, .ref q8, .ref q9, .ref q10, .ref q11]))]) ⟨hx, hb, hml, hown, hts⟩ hE (cX2_allRoads_1 l D cA q1 q12 q13 q14 q15 q16 q17 q18 q19) (cwV 0 hts gX10_journey_X2_allRoads rfl rfl rfl (by decide +kernel) ⟨Nat.le_of_ble_eq_true rfl, Nat.le_of_ble_eq_true rfl⟩) hP hD hS hA [1] [0] rfl rfl rfl rfl (by decide) 0 2 rfl rfl rfl hl.1 rfl (Nat.le_of_ble_eq_true rfl) dX10_journey_5 ⟨Nat.le_of_ble_eq_true rfl, Nat.le_of_ble_eq_true rfl⟩ (fun r2 u1 H locs hp hP hD hS => ?_)
  subst hp
  have hP : va_P D vwCl [(q0, .inr (10, [.ref q2, .ref q1, .ref q3, .ref q4, .ref q5, .int 0, .ref q6, .ref q7, .ref q8, .ref q9, .ref q10, .ref q11])), (q1, .inr (2, [.int 0, .int 0, .int 0, .int 0, .int 0, .ref q12, .ref q13, .ref q14, .ref q15, .ref q16, .ref q17, .ref q18, .ref q19]))] H := hP
  have hD : va_D A [(q0, .inr (10, [.ref q2, .ref q1, .ref q3, .ref q4, .ref q5, .int 0, .ref q6, .ref q7, .ref q8, .ref q9, .ref q10, .ref q11])), (q1, .inr (2, [.int 0, .int 0, .int 0, .int 0, .int 0, .ref q12, .ref q13, .ref q14, .ref q15, .ref q16, .ref q17, .ref q18, .ref q19]))] := hD
  refine lv_iconst (v := (-1)) hx hb dX10_journey_8 (by decide) ?_
  refine lv_ixor hx hb dX10_journey_9 ?_
  refine ms_eqi (y := (-1)) (by decide) ?_
  refine lv_iand hx hb dX10_journey_10 ?_
  refine ms_eqi (y := a0) (ms_andm1 _) ?_
  refine lv_if_eq (tgt := 17) hx hb dX10_journey_11 (by decide) (fun c => by exfalso; have hc3 := congrArg Int32.toInt c; have z4 : (0 : Int32).toInt = 0 := (by decide); omega) (fun _ => ?_)
  refine lv_ldc (v := (-1000000001)) hx hb hown (hts (.constant RX10 178 (-1000000001)) (List.mem_cons_of_mem _ (List.mem_append_left _ (List.mem_append_left _ (List.mem_append_left _ (List.mem_of_getElem? (i := 1) rfl)))))) dX10_journey_14 ?_
  exact ms_iret hx hb hr hlk () rfl hP hD hS (Nat.le_of_ble_eq_true rfl) (Nat.le_of_ble_eq_true rfl) dX10_journey_16
set_option maxHeartbeats 4000000 in
set_option maxRecDepth 100000 in
theorem cX11_journey_1 (l : Launch) (D : va_G) (cA : Nat → ClassId) (q0 q1 q2 q3 q4 q5 q6 q7 q8 q9 q10 q11 q12 q13 q14 q15 q16 q17 q18 : Nat) (a0 : Int32) (a1 : Int32) (g0 : a0.toInt ≤ -1) : ms_Mi l yX11_journey wsX11_journey ({ frames := 1, cells := 0, slots := 0, locals := 25 } : Room) D cA [.ref q0, .int a0, .int a1] [(q0, .inr (11, [.ref q1, .ref q2, .ref q3, .ref q4, .int 0, .ref q5, .ref q6, .long 0, .ref q7, .int 0, .int (-1), .ref q8, .ref q9, .int 0, .ref q10, .int 0, .int 0, .int 0, .int 0, .int 0, .int 0, .int 0, .ref q11, .ref q12, .ref q13, .int 0, .ref q14, .ref q15, .ref q16, .ref q17, .int 0, .ref q18])), (q1, .inl (cA 0, 68, .inl ms_z))] (fun (r : Int32) (_ : Unit) => r = (-1000000001)) (fun (_ : Unit) => [(q0, .inr (11, [.ref q1, .ref q2, .ref q3, .ref q4, .int 0, .ref q5, .ref q6, .long 0, .ref q7, .int 0, .int (-1), .ref q8, .ref q9, .int 0, .ref q10, .int 0, .int 0, .int 0, .int 0, .int 0, .int 0, .int 0, .ref q11, .ref q12, .ref q13, .int 0, .ref q14, .ref q15, .ref q16, .ref q17, .int 0, .ref q18])), (q1, .inl (cA 0, 68, .inl ms_z))]) := by
  refine ms_Mi_of (cc := cX11_journey) (maxL := 3) (ret := (some .int)) (by decide) rfl (Nat.le_of_ble_eq_true rfl) ?_
  intro p e s m args below meth c A ls hB hE hA hP hD hS hl
  obtain ⟨hx, hb, hr, hml, hown, hts, hlk, hnm⟩ := hB
  have hown : s.vm.findClass RX11 = some m.cls := hown
  have hnX11 : ∀ w ∈ u_ws RX11 TX11 32, w ∈ wsX11_journey := fun _ h => List.mem_cons_of_mem _ (List.mem_append_right _ (h))
  have hl : lv_has ls 3 [(0, .ref q0), (1, .int a0), (2, .int a1)] := hl
  refine lv_iload_n hx hb dX11_journey_0 rfl (lv_at hl 1 rfl) ?_
  refine lv_i2l (v := a0.toInt64) hx hb dX11_journey_1 rfl ?_
  refine lv_lconst (v := 0) hx hb dX11_journey_2 (by decide) ?_
  refine lv_iconst (v := 1) hx hb dX11_journey_3 (by decide) ?_
  refine lv_aload_n hx hb dX11_journey_4 rfl (lv_at hl 0 rfl) ?_
  refine va_get (D := D) (ci := 11) (v := .ref q1) (C := RX11) (T := TX11) (N := 32) hx hb hts hnX11 hown hE.1 hP 0 rfl rfl 0 (by decide) (hts (.fieldLink RX11 7 "MovedStonesModel" "march" "[I") (List.mem_cons_of_mem _ (List.mem_append_left _ (List.mem_of_getElem? (i := 0) rfl)))) (fun _ h9 => h9) rfl dX11_journey_5 ?_
  refine lv_iconst (v := 3) hx hb dX11_journey_8 (by decide) ?_
  refine ms_iald (x := 0) hx hb hE hP 1 rfl 3 rfl (by omega) (by decide) (rfl) dX11_journey_9 ?_
  refine lv_ishl hx hb dX11_journey_10 ?_
  refine ms_eqi (y := 1) (by decide) ?_
  refine lv_iconst (v := 1) hx hb dX11_journey_11 (by decide) ?_
  refine lv_isub hx hb dX11_journey_12 ?_
  refine ms_eqi (y := 0) (by decide) ?_
  refine lv_i2l (v := 0) hx hb dX11_journey_13 (by decide) ?_
  refine ms_cSi (wc := []) (wr := [(q0, .inr (11, [.ref q1, .ref q2, .ref q3, .ref q4, .int 0, .ref q5, .ref q6, .long 0, .ref q7, .int 0, .int (-1), .ref q8, .ref q9, .int 0, .ref q10, .int 0, .int 0, .int 0, .int 0, .int 0, .int 0, .int 0, .ref q11, .ref q12, .ref q13, .int 0, .ref q14, .ref q15, .ref q16, .ref q17, .int 0, .ref q18])), (q1, .inl (cA 0, 68, .inl ms_z))]) ⟨hx, hb, hml, hown, hts⟩ hE (c_in l D cA a0.toInt64 0 0) (va_cwS 3 hts gX11_journey_X11_in rfl rfl rfl (by decide +kernel) ⟨Nat.le_of_ble_eq_true rfl, Nat.le_of_ble_eq_true rfl⟩) hP hD hS hA [] [0, 1] rfl rfl rfl rfl (by decide) rfl hl.1 rfl (Nat.le_of_ble_eq_true rfl) dX11_journey_14 ⟨Nat.le_of_ble_eq_true rfl, Nat.le_of_ble_eq_true rfl⟩ (fun r1 u2 H locs hp hP hD hS => ?_)
  have hp : r1 = 0 := by rw [hp]; have z3 : (0 : Int64).toInt = 0 := (by decide); have z4 : (0 : Int64).toInt = 0 := (by decide); have z5 : (a0.toInt64).toInt = a0.toInt := Int32.toInt_toInt64 _; exact if_neg (by omega)
  subst hp
  have hP : va_P D vwCl [(q0, .inr (11, [.ref q1, .ref q2, .ref q3, .ref q4, .int 0, .ref q5, .ref q6, .long 0, .ref q7, .int 0, .int (-1), .ref q8, .ref q9, .int 0, .ref q10, .int 0, .int 0, .int 0, .int 0, .int 0, .int 0, .int 0, .ref q11, .ref q12, .ref q13, .int 0, .ref q14, .ref q15, .ref q16, .ref q17, .int 0, .ref q18])), (q1, .inl (cA 0, 68, .inl ms_z))] H := hP
  have hD : va_D A [(q0, .inr (11, [.ref q1, .ref q2, .ref q3, .ref q4, .int 0, .ref q5, .ref q6, .long 0, .ref q7, .int 0, .int (-1), .ref q8, .ref q9, .int 0, .ref q10, .int 0, .int 0, .int 0, .int 0, .int 0, .int 0, .int 0, .ref q11, .ref q12, .ref q13, .int 0, .ref q14, .ref q15, .ref q16, .ref q17, .int 0, .ref q18])), (q1, .inl (cA 0, 68, .inl ms_z))] := hD
  refine lv_if_ne (tgt := 23) hx hb dX11_journey_17 (by decide) (fun c => absurd (by decide) c) (fun _ => ?_)
  refine lv_ldc (v := (-1000000001)) hx hb hown (hts (.constant RX11 173 (-1000000001)) (List.mem_cons_of_mem _ (List.mem_append_left _ (List.mem_of_getElem? (i := 1) rfl)))) dX11_journey_20 ?_
  exact ms_iret hx hb hr hlk () rfl hP hD hS (Nat.le_of_ble_eq_true rfl) (Nat.le_of_ble_eq_true rfl) dX11_journey_22
set_option maxHeartbeats 4000000 in
set_option maxRecDepth 100000 in
theorem cX10_journey_2 (l : Launch) (D : va_G) (cA : Nat → ClassId) (q0 q1 q2 q3 q4 q5 q6 q7 q8 q9 q10 q11 q12 q13 q14 q15 q16 q17 q18 q19 : Nat) (a0 : Int32) (g0 : a0.toInt ≤ -1) : ms_Mi l yX10_journey wsX10_journey ({ frames := 1, cells := 0, slots := 0, locals := 20 } : Room) D cA [.ref q0, .int 0, .int a0] [(q0, .inr (10, [.ref q2, .ref q1, .ref q3, .ref q4, .ref q5, .int 0, .ref q6, .ref q7, .ref q8, .ref q9, .ref q10, .ref q11])), (q1, .inr (2, [.int 0, .int 0, .int 0, .int 0, .int 0, .ref q12, .ref q13, .ref q14, .ref q15, .ref q16, .ref q17, .ref q18, .ref q19]))] (fun (r : Int32) (_ : Unit) => r = (-1000000002)) (fun (_ : Unit) => [(q0, .inr (10, [.ref q2, .ref q1, .ref q3, .ref q4, .ref q5, .int 0, .ref q6, .ref q7, .ref q8, .ref q9, .ref q10, .ref q11])), (q1, .inr (2, [.int 0, .int 0, .int 0, .int 0, .int 0, .ref q12, .ref q13, .ref q14, .ref q15, .ref q16, .ref q17, .ref q18, .ref q19]))]) := by
  refine ms_Mi_of (cc := cX10_journey) (maxL := 3) (ret := (some .int)) (by decide) rfl (Nat.le_of_ble_eq_true rfl) ?_
  intro p e s m args below meth c A ls hB hE hA hP hD hS hl
  obtain ⟨hx, hb, hr, hml, hown, hts, hlk, hnm⟩ := hB
  have hown : s.vm.findClass RX10 = some m.cls := hown
  have hnX10 : ∀ w ∈ u_ws RX10 TX10 12, w ∈ wsX10_journey := fun _ h => List.mem_cons_of_mem _ (List.mem_append_left _ (List.mem_append_left _ (List.mem_append_right _ (h))))
  have hl : lv_has ls 3 [(0, .ref q0), (1, .int 0), (2, .int a0)] := hl
  refine lv_iload_n hx hb dX10_journey_0 rfl (lv_at hl 1 rfl) ?_
  refine lv_aload_n hx hb dX10_journey_1 rfl (lv_at hl 0 rfl) ?_
  refine va_get (D := D) (ci := 10) (v := .ref q1) (C := RX10) (T := TX10) (N := 12) hx hb hts hnX10 hown hE.1 hP 0 rfl rfl 1 (by decide) (hts (.fieldLink RX10 19 "MovedStones" "land" "LMovedStones$Land;") (List.mem_cons_of_mem _ (List.mem_append_left _ (List.mem_append_left _ (List.mem_append_left _ (List.mem_of_getElem? (i := 0) rfl)))))) (fun _ h9 => h9) rfl dX10_journey_2 ?_
  refine ms_cVi (qc := (RX2, TX2, 13)) (wc := [(q1, .inr (2, [.int 0, .int 0, .int 0, .int 0, .int 0, .ref q12, .ref q13, .ref q14, .ref q15, .ref q16, .ref q17, .ref q18, .ref q19]))]) (wr := [(q0, .inr (10, [.ref q2, .ref q1, .ref q3, .ref q4, .ref q5, .int 0, .ref q6, .ref q7, .ref q8, .ref q9, .ref q10, .ref q11]))]) ⟨hx, hb, hml, hown, hts⟩ hE (cX2_allRoads_1 l D cA q1 q12 q13 q14 q15 q16 q17 q18 q19) (cwV 0 hts gX10_journey_X2_allRoads rfl rfl rfl (by decide +kernel) ⟨Nat.le_of_ble_eq_true rfl, Nat.le_of_ble_eq_true rfl⟩) hP hD hS hA [1] [0] rfl rfl rfl rfl (by decide) 0 2 rfl rfl rfl hl.1 rfl (Nat.le_of_ble_eq_true rfl) dX10_journey_5 ⟨Nat.le_of_ble_eq_true rfl, Nat.le_of_ble_eq_true rfl⟩ (fun r2 u1 H locs hp hP hD hS => ?_)
  subst hp
  have hP : va_P D vwCl [(q0, .inr (10, [.ref q2, .ref q1, .ref q3, .ref q4, .ref q5, .int 0, .ref q6, .ref q7, .ref q8, .ref q9, .ref q10, .ref q11])), (q1, .inr (2, [.int 0, .int 0, .int 0, .int 0, .int 0, .ref q12, .ref q13, .ref q14, .ref q15, .ref q16, .ref q17, .ref q18, .ref q19]))] H := hP
  have hD : va_D A [(q0, .inr (10, [.ref q2, .ref q1, .ref q3, .ref q4, .ref q5, .int 0, .ref q6, .ref q7, .ref q8, .ref q9, .ref q10, .ref q11])), (q1, .inr (2, [.int 0, .int 0, .int 0, .int 0, .int 0, .ref q12, .ref q13, .ref q14, .ref q15, .ref q16, .ref q17, .ref q18, .ref q19]))] := hD
  refine lv_iconst (v := (-1)) hx hb dX10_journey_8 (by decide) ?_
  refine lv_ixor hx hb dX10_journey_9 ?_
  refine ms_eqi (y := (-1)) (by decide) ?_
  refine lv_iand hx hb dX10_journey_10 ?_
  refine ms_eqi (y := 0) (by decide) ?_
  refine lv_if_eq (tgt := 17) hx hb dX10_journey_11 (by decide) (fun _ => ?_) (fun c => absurd (by decide) c)
  refine lv_iload_n hx hb dX10_journey_17 rfl (lv_at hl 2 rfl) ?_
  refine lv_if_lt (tgt := 28) hx hb dX10_journey_18 (by decide) (fun _ => ?_) (fun c => by exfalso; have hc3 := mt Int32.lt_iff_toInt_lt.mpr c; have z4 : (0 : Int32).toInt = 0 := (by decide); omega)
  refine lv_ldc (v := (-1000000002)) hx hb hown (hts (.constant RX10 83 (-1000000002)) (List.mem_cons_of_mem _ (List.mem_append_left _ (List.mem_append_left _ (List.mem_append_left _ (List.mem_of_getElem? (i := 2) rfl)))))) dX10_journey_28 ?_
  exact ms_iret hx hb hr hlk () rfl hP hD hS (Nat.le_of_ble_eq_true rfl) (Nat.le_of_ble_eq_true rfl) dX10_journey_30
set_option maxHeartbeats 4000000 in
set_option maxRecDepth 100000 in
theorem cX11_journey_2 (l : Launch) (D : va_G) (cA : Nat → ClassId) (q0 q1 q2 q3 q4 q5 q6 q7 q8 q9 q10 q11 q12 q13 q14 q15 q16 q17 q18 : Nat) (a0 : Int32) (g0 : a0.toInt ≤ -1) : ms_Mi l yX11_journey wsX11_journey ({ frames := 1, cells := 0, slots := 0, locals := 25 } : Room) D cA [.ref q0, .int 0, .int a0] [(q0, .inr (11, [.ref q1, .ref q2, .ref q3, .ref q4, .int 0, .ref q5, .ref q6, .long 0, .ref q7, .int 0, .int (-1), .ref q8, .ref q9, .int 0, .ref q10, .int 0, .int 0, .int 0, .int 0, .int 0, .int 0, .int 0, .ref q11, .ref q12, .ref q13, .int 0, .ref q14, .ref q15, .ref q16, .ref q17, .int 0, .ref q18])), (q1, .inl (cA 0, 68, .inl ms_z))] (fun (r : Int32) (_ : Unit) => r = (-1000000002)) (fun (_ : Unit) => [(q0, .inr (11, [.ref q1, .ref q2, .ref q3, .ref q4, .int 0, .ref q5, .ref q6, .long 0, .ref q7, .int 0, .int (-1), .ref q8, .ref q9, .int 0, .ref q10, .int 0, .int 0, .int 0, .int 0, .int 0, .int 0, .int 0, .ref q11, .ref q12, .ref q13, .int 0, .ref q14, .ref q15, .ref q16, .ref q17, .int 0, .ref q18])), (q1, .inl (cA 0, 68, .inl ms_z))]) := by
  refine ms_Mi_of (cc := cX11_journey) (maxL := 3) (ret := (some .int)) (by decide) rfl (Nat.le_of_ble_eq_true rfl) ?_
  intro p e s m args below meth c A ls hB hE hA hP hD hS hl
  obtain ⟨hx, hb, hr, hml, hown, hts, hlk, hnm⟩ := hB
  have hown : s.vm.findClass RX11 = some m.cls := hown
  have hnX11 : ∀ w ∈ u_ws RX11 TX11 32, w ∈ wsX11_journey := fun _ h => List.mem_cons_of_mem _ (List.mem_append_right _ (h))
  have hl : lv_has ls 3 [(0, .ref q0), (1, .int 0), (2, .int a0)] := hl
  refine lv_iload_n hx hb dX11_journey_0 rfl (lv_at hl 1 rfl) ?_
  refine lv_i2l (v := 0) hx hb dX11_journey_1 (by decide) ?_
  refine lv_lconst (v := 0) hx hb dX11_journey_2 (by decide) ?_
  refine lv_iconst (v := 1) hx hb dX11_journey_3 (by decide) ?_
  refine lv_aload_n hx hb dX11_journey_4 rfl (lv_at hl 0 rfl) ?_
  refine va_get (D := D) (ci := 11) (v := .ref q1) (C := RX11) (T := TX11) (N := 32) hx hb hts hnX11 hown hE.1 hP 0 rfl rfl 0 (by decide) (hts (.fieldLink RX11 7 "MovedStonesModel" "march" "[I") (List.mem_cons_of_mem _ (List.mem_append_left _ (List.mem_of_getElem? (i := 0) rfl)))) (fun _ h9 => h9) rfl dX11_journey_5 ?_
  refine lv_iconst (v := 3) hx hb dX11_journey_8 (by decide) ?_
  refine ms_iald (x := 0) hx hb hE hP 1 rfl 3 rfl (by omega) (by decide) (rfl) dX11_journey_9 ?_
  refine lv_ishl hx hb dX11_journey_10 ?_
  refine ms_eqi (y := 1) (by decide) ?_
  refine lv_iconst (v := 1) hx hb dX11_journey_11 (by decide) ?_
  refine lv_isub hx hb dX11_journey_12 ?_
  refine ms_eqi (y := 0) (by decide) ?_
  refine lv_i2l (v := 0) hx hb dX11_journey_13 (by decide) ?_
  refine ms_cSi (wc := []) (wr := [(q0, .inr (11, [.ref q1, .ref q2, .ref q3, .ref q4, .int 0, .ref q5, .ref q6, .long 0, .ref q7, .int 0, .int (-1), .ref q8, .ref q9, .int 0, .ref q10, .int 0, .int 0, .int 0, .int 0, .int 0, .int 0, .int 0, .ref q11, .ref q12, .ref q13, .int 0, .ref q14, .ref q15, .ref q16, .ref q17, .int 0, .ref q18])), (q1, .inl (cA 0, 68, .inl ms_z))]) ⟨hx, hb, hml, hown, hts⟩ hE (c_in l D cA 0 0 0) (va_cwS 3 hts gX11_journey_X11_in rfl rfl rfl (by decide +kernel) ⟨Nat.le_of_ble_eq_true rfl, Nat.le_of_ble_eq_true rfl⟩) hP hD hS hA [] [0, 1] rfl rfl rfl rfl (by decide) rfl hl.1 rfl (Nat.le_of_ble_eq_true rfl) dX11_journey_14 ⟨Nat.le_of_ble_eq_true rfl, Nat.le_of_ble_eq_true rfl⟩ (fun r1 u2 H locs hp hP hD hS => ?_)
  have hp : r1 = 1 := by rw [hp]; have z3 : (0 : Int64).toInt = 0 := (by decide); have z4 : (0 : Int64).toInt = 0 := (by decide); have z5 : (0 : Int64).toInt = 0 := (by decide); exact if_pos (by omega)
  subst hp
  have hP : va_P D vwCl [(q0, .inr (11, [.ref q1, .ref q2, .ref q3, .ref q4, .int 0, .ref q5, .ref q6, .long 0, .ref q7, .int 0, .int (-1), .ref q8, .ref q9, .int 0, .ref q10, .int 0, .int 0, .int 0, .int 0, .int 0, .int 0, .int 0, .ref q11, .ref q12, .ref q13, .int 0, .ref q14, .ref q15, .ref q16, .ref q17, .int 0, .ref q18])), (q1, .inl (cA 0, 68, .inl ms_z))] H := hP
  have hD : va_D A [(q0, .inr (11, [.ref q1, .ref q2, .ref q3, .ref q4, .int 0, .ref q5, .ref q6, .long 0, .ref q7, .int 0, .int (-1), .ref q8, .ref q9, .int 0, .ref q10, .int 0, .int 0, .int 0, .int 0, .int 0, .int 0, .int 0, .ref q11, .ref q12, .ref q13, .int 0, .ref q14, .ref q15, .ref q16, .ref q17, .int 0, .ref q18])), (q1, .inl (cA 0, 68, .inl ms_z))] := hD
  refine lv_if_ne (tgt := 23) hx hb dX11_journey_17 (by decide) (fun _ => ?_) (fun c => absurd c (by decide))
  refine lv_iload_n hx hb dX11_journey_23 rfl (lv_at hl 2 rfl) ?_
  refine lv_i2l (v := a0.toInt64) hx hb dX11_journey_24 rfl ?_
  refine lv_lconst (v := 0) hx hb dX11_journey_25 (by decide) ?_
  refine lv_ldc2 (v := 999) hx hb hown (hts (.constantLong RX11 184 (999)) (List.mem_cons_of_mem _ (List.mem_append_left _ (List.mem_of_getElem? (i := 2) rfl)))) dX11_journey_26 ?_
  refine ms_cSi (wc := []) (wr := [(q0, .inr (11, [.ref q1, .ref q2, .ref q3, .ref q4, .int 0, .ref q5, .ref q6, .long 0, .ref q7, .int 0, .int (-1), .ref q8, .ref q9, .int 0, .ref q10, .int 0, .int 0, .int 0, .int 0, .int 0, .int 0, .int 0, .ref q11, .ref q12, .ref q13, .int 0, .ref q14, .ref q15, .ref q16, .ref q17, .int 0, .ref q18])), (q1, .inl (cA 0, 68, .inl ms_z))]) ⟨hx, hb, hml, hown, hts⟩ hE (c_in l D cA a0.toInt64 0 999) (va_cwS 3 hts gX11_journey_X11_in rfl rfl rfl (by decide +kernel) ⟨Nat.le_of_ble_eq_true rfl, Nat.le_of_ble_eq_true rfl⟩) hP hD hS hA [] [0, 1] rfl rfl rfl rfl (by decide) rfl hl.1 rfl (Nat.le_of_ble_eq_true rfl) dX11_journey_29 ⟨Nat.le_of_ble_eq_true rfl, Nat.le_of_ble_eq_true rfl⟩ (fun r6 u7 H locs hp hP hD hS => ?_)
  have hp : r6 = 0 := by rw [hp]; have z8 : (0 : Int64).toInt = 0 := (by decide); have z9 : (999 : Int64).toInt = 999 := (by decide); have z10 : (a0.toInt64).toInt = a0.toInt := Int32.toInt_toInt64 _; exact if_neg (by omega)
  subst hp
  have hP : va_P D vwCl [(q0, .inr (11, [.ref q1, .ref q2, .ref q3, .ref q4, .int 0, .ref q5, .ref q6, .long 0, .ref q7, .int 0, .int (-1), .ref q8, .ref q9, .int 0, .ref q10, .int 0, .int 0, .int 0, .int 0, .int 0, .int 0, .int 0, .ref q11, .ref q12, .ref q13, .int 0, .ref q14, .ref q15, .ref q16, .ref q17, .int 0, .ref q18])), (q1, .inl (cA 0, 68, .inl ms_z))] H := hP
  have hD : va_D A [(q0, .inr (11, [.ref q1, .ref q2, .ref q3, .ref q4, .int 0, .ref q5, .ref q6, .long 0, .ref q7, .int 0, .int (-1), .ref q8, .ref q9, .int 0, .ref q10, .int 0, .int 0, .int 0, .int 0, .int 0, .int 0, .int 0, .ref q11, .ref q12, .ref q13, .int 0, .ref q14, .ref q15, .ref q16, .ref q17, .int 0, .ref q18])), (q1, .inl (cA 0, 68, .inl ms_z))] := hD
  refine lv_if_ne (tgt := 38) hx hb dX11_journey_32 (by decide) (fun c => absurd (by decide) c) (fun _ => ?_)
  refine lv_ldc (v := (-1000000002)) hx hb hown (hts (.constant RX11 87 (-1000000002)) (List.mem_cons_of_mem _ (List.mem_append_left _ (List.mem_of_getElem? (i := 3) rfl)))) dX11_journey_35 ?_
  exact ms_iret hx hb hr hlk () rfl hP hD hS (Nat.le_of_ble_eq_true rfl) (Nat.le_of_ble_eq_true rfl) dX11_journey_37
set_option maxHeartbeats 4000000 in
set_option maxRecDepth 100000 in
theorem cX5_addJourney_1 (l : Launch) (D : va_G) (cA : Nat → ClassId) (q0 q1 q2 q3 q4 q5 q6 : Nat) (a0 : Int32) (g0 : 0 ≤ a0.toInt) (g1 : a0.toInt ≤ 999) : ms_Mi l yX5_addJourney wsX5_addJourney ({ frames := 0, cells := 0, slots := 0, locals := 0 } : Room) D cA [.ref q0, .int 0, .int a0] [(q0, .inr (5, [.ref q3, .ref q1, .ref q2, .ref q4, .int 0, .ref q5, .ref q6, .int 0])), (q1, .inl (cA 0, 8, .inl ms_z)), (q2, .inl (cA 0, 8, .inl ms_z))] (fun (r : Int32) (_ : Unit) => r = 1) (fun (_ : Unit) => [(q0, .inr (5, [.ref q3, .ref q1, .ref q2, .ref q4, .int 1, .ref q5, .ref q6, .int 0])), (q1, .inl (cA 0, 8, .inl ms_z)), (q2, .inl (cA 0, 8, .inl (upd ms_z 0 a0)))]) := by
  refine ms_Mi_of (cc := cX5_addJourney) (maxL := 3) (ret := (some .boolean)) (by decide) rfl (Nat.le_of_ble_eq_true rfl) ?_
  intro p e s m args below meth c A ls hB hE hA hP hD hS hl
  obtain ⟨hx, hb, hr, hml, hown, hts, hlk, hnm⟩ := hB
  have hown : s.vm.findClass RX5 = some m.cls := hown
  have hnX5 : ∀ w ∈ u_ws RX5 TX5 8, w ∈ wsX5_addJourney := fun _ h => List.mem_cons_of_mem _ (List.mem_append_right _ (h))
  have hl : lv_has ls 3 [(0, .ref q0), (1, .int 0), (2, .int a0)] := hl
  refine lv_aload_n hx hb dX5_addJourney_0 rfl (lv_at hl 0 rfl) ?_
  refine va_get (D := D) (ci := 5) (v := .int 0) (C := RX5) (T := TX5) (N := 8) hx hb hts hnX5 hown hE.1 hP 0 rfl rfl 4 (by decide) (hts (.fieldLink RX5 36 "MovedStones$Papers" "journeys" "I") (List.mem_cons_of_mem _ (List.mem_append_left _ (List.mem_of_getElem? (i := 0) rfl)))) (fun _ h9 => h9) rfl dX5_addJourney_1 ?_
  refine lv_bipush (v := 8) hx hb dX5_addJourney_4 (by decide) ?_
  refine lv_icmp_lt (tgt := 11) hx hb dX5_addJourney_6 (by decide) (fun _ => ?_) (fun c => absurd (by decide) c)
  refine lv_aload_n hx hb dX5_addJourney_11 rfl (lv_at hl 0 rfl) ?_
  refine va_get (D := D) (ci := 5) (v := .ref q1) (C := RX5) (T := TX5) (N := 8) hx hb hts hnX5 hown hE.1 hP 0 rfl rfl 1 (by decide) (hts (.fieldLink RX5 15 "MovedStones$Papers" "sets" "[I") (List.mem_cons_of_mem _ (List.mem_append_left _ (List.mem_of_getElem? (i := 1) rfl)))) (fun _ h9 => h9) rfl dX5_addJourney_12 ?_
  refine lv_aload_n hx hb dX5_addJourney_15 rfl (lv_at hl 0 rfl) ?_
  refine va_get (D := D) (ci := 5) (v := .int 0) (C := RX5) (T := TX5) (N := 8) hx hb hts hnX5 hown hE.1 hP 0 rfl rfl 4 (by decide) (hts (.fieldLink RX5 36 "MovedStones$Papers" "journeys" "I") (List.mem_cons_of_mem _ (List.mem_append_left _ (List.mem_of_getElem? (i := 0) rfl)))) (fun _ h9 => h9) rfl dX5_addJourney_16 ?_
  refine lv_iload_n hx hb dX5_addJourney_19 rfl (lv_at hl 1 rfl) ?_
  refine ms_iast (g := ms_z) hx hb hE hP hD hS 1 rfl 0 rfl (by omega) (by decide) (ms_same (rfl)) dX5_addJourney_20 (fun H locs hP hD hS => ?_)
  have hP : va_P D vwCl [(q0, .inr (5, [.ref q3, .ref q1, .ref q2, .ref q4, .int 0, .ref q5, .ref q6, .int 0])), (q1, .inl (cA 0, 8, .inl ms_z)), (q2, .inl (cA 0, 8, .inl ms_z))] H := hP
  have hD : va_D A [(q0, .inr (5, [.ref q3, .ref q1, .ref q2, .ref q4, .int 0, .ref q5, .ref q6, .int 0])), (q1, .inl (cA 0, 8, .inl ms_z)), (q2, .inl (cA 0, 8, .inl ms_z))] := hD
  refine lv_aload_n hx hb dX5_addJourney_21 rfl (lv_at hl 0 rfl) ?_
  refine va_get (D := D) (ci := 5) (v := .ref q2) (C := RX5) (T := TX5) (N := 8) hx hb hts hnX5 hown hE.1 hP 0 rfl rfl 2 (by decide) (hts (.fieldLink RX5 18 "MovedStones$Papers" "feet" "[I") (List.mem_cons_of_mem _ (List.mem_append_left _ (List.mem_of_getElem? (i := 2) rfl)))) (fun _ h9 => h9) rfl dX5_addJourney_22 ?_
  refine lv_aload_n hx hb dX5_addJourney_25 rfl (lv_at hl 0 rfl) ?_
  refine va_get (D := D) (ci := 5) (v := .int 0) (C := RX5) (T := TX5) (N := 8) hx hb hts hnX5 hown hE.1 hP 0 rfl rfl 4 (by decide) (hts (.fieldLink RX5 36 "MovedStones$Papers" "journeys" "I") (List.mem_cons_of_mem _ (List.mem_append_left _ (List.mem_of_getElem? (i := 0) rfl)))) (fun _ h9 => h9) rfl dX5_addJourney_26 ?_
  refine lv_iload_n hx hb dX5_addJourney_29 rfl (lv_at hl 2 rfl) ?_
  refine ms_iast (g := upd ms_z 0 a0) hx hb hE hP hD hS 2 rfl 0 rfl (by omega) (by decide) (rfl) dX5_addJourney_30 (fun H locs hP hD hS => ?_)
  have hP : va_P D vwCl [(q0, .inr (5, [.ref q3, .ref q1, .ref q2, .ref q4, .int 0, .ref q5, .ref q6, .int 0])), (q1, .inl (cA 0, 8, .inl ms_z)), (q2, .inl (cA 0, 8, .inl (upd ms_z 0 a0)))] H := hP
  have hD : va_D A [(q0, .inr (5, [.ref q3, .ref q1, .ref q2, .ref q4, .int 0, .ref q5, .ref q6, .int 0])), (q1, .inl (cA 0, 8, .inl ms_z)), (q2, .inl (cA 0, 8, .inl (upd ms_z 0 a0)))] := hD
  refine lv_aload_n hx hb dX5_addJourney_31 rfl (lv_at hl 0 rfl) ?_
  refine lv_dup hx hb dX5_addJourney_32 rfl ?_
  refine va_get (D := D) (ci := 5) (v := .int 0) (C := RX5) (T := TX5) (N := 8) hx hb hts hnX5 hown hE.1 hP 0 rfl rfl 4 (by decide) (hts (.fieldLink RX5 36 "MovedStones$Papers" "journeys" "I") (List.mem_cons_of_mem _ (List.mem_append_left _ (List.mem_of_getElem? (i := 0) rfl)))) (fun _ h9 => h9) rfl dX5_addJourney_33 ?_
  refine lv_iconst (v := 1) hx hb dX5_addJourney_36 (by decide) ?_
  refine lv_iadd hx hb dX5_addJourney_37 ?_
  refine ms_eqi (y := 1) (by decide) ?_
  refine va_put (D := D) (ci := 5) (v := .int 1) (ty := tyX5 4) (C := RX5) (T := TX5) (N := 8) hx hb hts hnX5 tyX5 tyX5_ok nmX5 hown hE.1 hP hD hS 0 rfl rfl 4 (by decide) (hts (.fieldLink RX5 36 "MovedStones$Papers" "journeys" "I") (List.mem_cons_of_mem _ (List.mem_append_left _ (List.mem_of_getElem? (i := 0) rfl)))) (fun _ h9 => h9) rfl (tyX5_ok 4 (by decide)) rfl rfl (Nat.le_of_ble_eq_true rfl) dX5_addJourney_38 (fun H locs hP hD hS => ?_)
  have hP : va_P D vwCl [(q0, .inr (5, [.ref q3, .ref q1, .ref q2, .ref q4, .int 1, .ref q5, .ref q6, .int 0])), (q1, .inl (cA 0, 8, .inl ms_z)), (q2, .inl (cA 0, 8, .inl (upd ms_z 0 a0)))] H := hP
  have hD : va_D A [(q0, .inr (5, [.ref q3, .ref q1, .ref q2, .ref q4, .int 1, .ref q5, .ref q6, .int 0])), (q1, .inl (cA 0, 8, .inl ms_z)), (q2, .inl (cA 0, 8, .inl (upd ms_z 0 a0)))] := hD
  refine lv_iconst (v := 1) hx hb dX5_addJourney_41 (by decide) ?_
  exact ms_zret hx hb hr rfl hlk () rfl hP hD hS (Nat.le_of_ble_eq_true rfl) (Nat.le_of_ble_eq_true rfl) dX5_addJourney_42
set_option maxHeartbeats 4000000 in
set_option maxRecDepth 100000 in
theorem cX10_journey_3 (l : Launch) (D : va_G) (cA : Nat → ClassId) (q0 q1 q2 q3 q4 q5 q6 q7 q8 q9 q10 q11 q12 q13 q14 q15 q16 q17 q18 q19 q20 q21 q22 q23 q24 q25 : Nat) (a0 : Int32) (g0 : 0 ≤ a0.toInt) (g1 : a0.toInt ≤ 999) : ms_Mi l yX10_journey wsX10_journey ({ frames := 1, cells := 0, slots := 0, locals := 22 } : Room) D cA [.ref q0, .int 0, .int a0] [(q0, .inr (10, [.ref q5, .ref q1, .ref q6, .ref q7, .ref q8, .int 0, .ref q2, .ref q9, .ref q10, .ref q11, .ref q12, .ref q13])), (q1, .inr (2, [.int 0, .int 0, .int 0, .int 0, .int 0, .ref q14, .ref q15, .ref q16, .ref q17, .ref q18, .ref q19, .ref q20, .ref q21])), (q2, .inr (5, [.ref q22, .ref q3, .ref q4, .ref q23, .int 0, .ref q24, .ref q25, .int 0])), (q3, .inl (cA 0, 8, .inl ms_z)), (q4, .inl (cA 0, 8, .inl ms_z))] (fun (r : Int32) (_ : Unit) => r = 1) (fun (_ : Unit) => [(q0, .inr (10, [.ref q5, .ref q1, .ref q6, .ref q7, .ref q8, .int 0, .ref q2, .ref q9, .ref q10, .ref q11, .ref q12, .ref q13])), (q1, .inr (2, [.int 0, .int 0, .int 0, .int 0, .int 0, .ref q14, .ref q15, .ref q16, .ref q17, .ref q18, .ref q19, .ref q20, .ref q21])), (q2, .inr (5, [.ref q22, .ref q3, .ref q4, .ref q23, .int 1, .ref q24, .ref q25, .int 0])), (q3, .inl (cA 0, 8, .inl ms_z)), (q4, .inl (cA 0, 8, .inl (upd ms_z 0 a0)))]) := by
  refine ms_Mi_of (cc := cX10_journey) (maxL := 3) (ret := (some .int)) (by decide) rfl (Nat.le_of_ble_eq_true rfl) ?_
  intro p e s m args below meth c A ls hB hE hA hP hD hS hl
  obtain ⟨hx, hb, hr, hml, hown, hts, hlk, hnm⟩ := hB
  have hown : s.vm.findClass RX10 = some m.cls := hown
  have hnX5 : ∀ w ∈ u_ws RX5 TX5 8, w ∈ wsX10_journey := fun _ h => List.mem_cons_of_mem _ (List.mem_append_left _ (List.mem_append_right _ (h)))
  have hnX10 : ∀ w ∈ u_ws RX10 TX10 12, w ∈ wsX10_journey := fun _ h => List.mem_cons_of_mem _ (List.mem_append_left _ (List.mem_append_left _ (List.mem_append_right _ (h))))
  have hl : lv_has ls 3 [(0, .ref q0), (1, .int 0), (2, .int a0)] := hl
  refine lv_iload_n hx hb dX10_journey_0 rfl (lv_at hl 1 rfl) ?_
  refine lv_aload_n hx hb dX10_journey_1 rfl (lv_at hl 0 rfl) ?_
  refine va_get (D := D) (ci := 10) (v := .ref q1) (C := RX10) (T := TX10) (N := 12) hx hb hts hnX10 hown hE.1 hP 0 rfl rfl 1 (by decide) (hts (.fieldLink RX10 19 "MovedStones" "land" "LMovedStones$Land;") (List.mem_cons_of_mem _ (List.mem_append_left _ (List.mem_append_left _ (List.mem_append_left _ (List.mem_of_getElem? (i := 0) rfl)))))) (fun _ h9 => h9) rfl dX10_journey_2 ?_
  refine ms_cVi (qc := (RX2, TX2, 13)) (wc := [(q1, .inr (2, [.int 0, .int 0, .int 0, .int 0, .int 0, .ref q14, .ref q15, .ref q16, .ref q17, .ref q18, .ref q19, .ref q20, .ref q21]))]) (wr := [(q0, .inr (10, [.ref q5, .ref q1, .ref q6, .ref q7, .ref q8, .int 0, .ref q2, .ref q9, .ref q10, .ref q11, .ref q12, .ref q13])), (q2, .inr (5, [.ref q22, .ref q3, .ref q4, .ref q23, .int 0, .ref q24, .ref q25, .int 0])), (q3, .inl (cA 0, 8, .inl ms_z)), (q4, .inl (cA 0, 8, .inl ms_z))]) ⟨hx, hb, hml, hown, hts⟩ hE (cX2_allRoads_1 l D cA q1 q14 q15 q16 q17 q18 q19 q20 q21) (cwV 0 hts gX10_journey_X2_allRoads rfl rfl rfl (by decide +kernel) ⟨Nat.le_of_ble_eq_true rfl, Nat.le_of_ble_eq_true rfl⟩) hP hD hS hA [1] [0, 2, 3, 4] rfl rfl rfl rfl (by decide) 0 2 rfl rfl rfl hl.1 rfl (Nat.le_of_ble_eq_true rfl) dX10_journey_5 ⟨Nat.le_of_ble_eq_true rfl, Nat.le_of_ble_eq_true rfl⟩ (fun r2 u1 H locs hp hP hD hS => ?_)
  subst hp
  have hP : va_P D vwCl [(q0, .inr (10, [.ref q5, .ref q1, .ref q6, .ref q7, .ref q8, .int 0, .ref q2, .ref q9, .ref q10, .ref q11, .ref q12, .ref q13])), (q2, .inr (5, [.ref q22, .ref q3, .ref q4, .ref q23, .int 0, .ref q24, .ref q25, .int 0])), (q3, .inl (cA 0, 8, .inl ms_z)), (q4, .inl (cA 0, 8, .inl ms_z)), (q1, .inr (2, [.int 0, .int 0, .int 0, .int 0, .int 0, .ref q14, .ref q15, .ref q16, .ref q17, .ref q18, .ref q19, .ref q20, .ref q21]))] H := hP
  have hD : va_D A [(q0, .inr (10, [.ref q5, .ref q1, .ref q6, .ref q7, .ref q8, .int 0, .ref q2, .ref q9, .ref q10, .ref q11, .ref q12, .ref q13])), (q2, .inr (5, [.ref q22, .ref q3, .ref q4, .ref q23, .int 0, .ref q24, .ref q25, .int 0])), (q3, .inl (cA 0, 8, .inl ms_z)), (q4, .inl (cA 0, 8, .inl ms_z)), (q1, .inr (2, [.int 0, .int 0, .int 0, .int 0, .int 0, .ref q14, .ref q15, .ref q16, .ref q17, .ref q18, .ref q19, .ref q20, .ref q21]))] := hD
  refine lv_iconst (v := (-1)) hx hb dX10_journey_8 (by decide) ?_
  refine lv_ixor hx hb dX10_journey_9 ?_
  refine ms_eqi (y := (-1)) (by decide) ?_
  refine lv_iand hx hb dX10_journey_10 ?_
  refine ms_eqi (y := 0) (by decide) ?_
  refine lv_if_eq (tgt := 17) hx hb dX10_journey_11 (by decide) (fun _ => ?_) (fun c => absurd (by decide) c)
  refine lv_iload_n hx hb dX10_journey_17 rfl (lv_at hl 2 rfl) ?_
  refine lv_if_lt (tgt := 28) hx hb dX10_journey_18 (by decide) (fun c => by exfalso; have hc3 := Int32.lt_iff_toInt_lt.mp c; have z4 : (0 : Int32).toInt = 0 := (by decide); omega) (fun _ => ?_)
  refine lv_iload_n hx hb dX10_journey_21 rfl (lv_at hl 2 rfl) ?_
  refine lv_sipush (v := 999) hx hb dX10_journey_22 (by decide) ?_
  refine lv_icmp_le (tgt := 31) hx hb dX10_journey_25 (by decide) (fun _ => ?_) (fun c => by exfalso; have hc5 := mt Int32.le_iff_toInt_le.mpr c; have z6 : (999 : Int32).toInt = 999 := (by decide); omega)
  refine lv_aload_n hx hb dX10_journey_31 rfl (lv_at hl 0 rfl) ?_
  refine va_get (D := D) (ci := 10) (v := .ref q2) (C := RX10) (T := TX10) (N := 12) hx hb hts hnX10 hown hE.1 hP 0 rfl rfl 6 (by decide) (hts (.fieldLink RX10 47 "MovedStones" "papers" "LMovedStones$Papers;") (List.mem_cons_of_mem _ (List.mem_append_left _ (List.mem_append_left _ (List.mem_append_left _ (List.mem_of_getElem? (i := 3) rfl)))))) (fun _ h9 => h9) rfl dX10_journey_32 ?_
  refine lv_iload_n hx hb dX10_journey_35 rfl (lv_at hl 1 rfl) ?_
  refine lv_iload_n hx hb dX10_journey_36 rfl (lv_at hl 2 rfl) ?_
  refine ms_cVi (qc := (RX5, TX5, 8)) (wc := [(q2, .inr (5, [.ref q22, .ref q3, .ref q4, .ref q23, .int 0, .ref q24, .ref q25, .int 0])), (q3, .inl (cA 0, 8, .inl ms_z)), (q4, .inl (cA 0, 8, .inl ms_z))]) (wr := [(q0, .inr (10, [.ref q5, .ref q1, .ref q6, .ref q7, .ref q8, .int 0, .ref q2, .ref q9, .ref q10, .ref q11, .ref q12, .ref q13])), (q1, .inr (2, [.int 0, .int 0, .int 0, .int 0, .int 0, .ref q14, .ref q15, .ref q16, .ref q17, .ref q18, .ref q19, .ref q20, .ref q21]))]) ⟨hx, hb, hml, hown, hts⟩ hE (cX5_addJourney_1 l D cA q2 q3 q4 q22 q23 q24 q25 a0 (by omega) (by omega)) (cwV 2 hts gX10_journey_X5_addJourney rfl rfl rfl (by decide +kernel) ⟨Nat.le_of_ble_eq_true rfl, Nat.le_of_ble_eq_true rfl⟩) hP hD hS hA [1, 2, 3] [0, 4] rfl rfl rfl rfl (by decide) 0 5 rfl rfl rfl hl.1 rfl (Nat.le_of_ble_eq_true rfl) dX10_journey_37 ⟨Nat.le_of_ble_eq_true rfl, Nat.le_of_ble_eq_true rfl⟩ (fun r8 u7 H locs hp hP hD hS => ?_)
  subst hp
  have hP : va_P D vwCl [(q0, .inr (10, [.ref q5, .ref q1, .ref q6, .ref q7, .ref q8, .int 0, .ref q2, .ref q9, .ref q10, .ref q11, .ref q12, .ref q13])), (q1, .inr (2, [.int 0, .int 0, .int 0, .int 0, .int 0, .ref q14, .ref q15, .ref q16, .ref q17, .ref q18, .ref q19, .ref q20, .ref q21])), (q2, .inr (5, [.ref q22, .ref q3, .ref q4, .ref q23, .int 1, .ref q24, .ref q25, .int 0])), (q3, .inl (cA 0, 8, .inl ms_z)), (q4, .inl (cA 0, 8, .inl (upd ms_z 0 a0)))] H := hP
  have hD : va_D A [(q0, .inr (10, [.ref q5, .ref q1, .ref q6, .ref q7, .ref q8, .int 0, .ref q2, .ref q9, .ref q10, .ref q11, .ref q12, .ref q13])), (q1, .inr (2, [.int 0, .int 0, .int 0, .int 0, .int 0, .ref q14, .ref q15, .ref q16, .ref q17, .ref q18, .ref q19, .ref q20, .ref q21])), (q2, .inr (5, [.ref q22, .ref q3, .ref q4, .ref q23, .int 1, .ref q24, .ref q25, .int 0])), (q3, .inl (cA 0, 8, .inl ms_z)), (q4, .inl (cA 0, 8, .inl (upd ms_z 0 a0)))] := hD
  refine lv_if_eq (tgt := 53) hx hb dX10_journey_40 (by decide) (fun c => absurd c (by decide)) (fun _ => ?_)
  refine lv_aload_n hx hb dX10_journey_43 rfl (lv_at hl 0 rfl) ?_
  refine va_get (D := D) (ci := 10) (v := .ref q2) (C := RX10) (T := TX10) (N := 12) hx hb hts hnX10 hown hE.1 hP 0 rfl rfl 6 (by decide) (hts (.fieldLink RX10 47 "MovedStones" "papers" "LMovedStones$Papers;") (List.mem_cons_of_mem _ (List.mem_append_left _ (List.mem_append_left _ (List.mem_append_left _ (List.mem_of_getElem? (i := 3) rfl)))))) (fun _ h9 => h9) rfl dX10_journey_44 ?_
  refine va_get (D := D) (ci := 5) (v := .int 1) (C := RX5) (T := TX5) (N := 8) hx hb hts hnX5 hown hE.1 hP 2 rfl rfl 4 (by decide) (hts (.fieldLink RX10 163 "MovedStones$Papers" "journeys" "I") (List.mem_cons_of_mem _ (List.mem_append_left _ (List.mem_append_left _ (List.mem_append_left _ (List.mem_of_getElem? (i := 4) rfl)))))) (fun _ h9 => h9) rfl dX10_journey_47 ?_
  refine lv_goto (tgt := 55) hx hb dX10_journey_50 (by decide) ?_
  exact ms_iret hx hb hr hlk () rfl hP hD hS (Nat.le_of_ble_eq_true rfl) (Nat.le_of_ble_eq_true rfl) dX10_journey_55
set_option maxHeartbeats 4000000 in
set_option maxRecDepth 100000 in
theorem cX11_journey_3 (l : Launch) (D : va_G) (cA : Nat → ClassId) (q0 q1 q2 q3 q4 q5 q6 q7 q8 q9 q10 q11 q12 q13 q14 q15 q16 q17 q18 : Nat) (a0 : Int32) (g0 : 0 ≤ a0.toInt) (g1 : a0.toInt ≤ 999) : ms_Mi l yX11_journey wsX11_journey ({ frames := 1, cells := 0, slots := 0, locals := 25 } : Room) D cA [.ref q0, .int 0, .int a0] [(q0, .inr (11, [.ref q1, .ref q3, .ref q4, .ref q5, .int 0, .ref q6, .ref q7, .long 0, .ref q8, .int 0, .int (-1), .ref q9, .ref q2, .int 0, .ref q10, .int 0, .int 0, .int 0, .int 0, .int 0, .int 0, .int 0, .ref q11, .ref q12, .ref q13, .int 0, .ref q14, .ref q15, .ref q16, .ref q17, .int 0, .ref q18])), (q1, .inl (cA 0, 68, .inl ms_z)), (q2, .inl (cA 0, 16, .inl ms_z))] (fun (r : Int32) (_ : Unit) => r = 1) (fun (_ : Unit) => [(q0, .inr (11, [.ref q1, .ref q3, .ref q4, .ref q5, .int 0, .ref q6, .ref q7, .long 0, .ref q8, .int 0, .int (-1), .ref q9, .ref q2, .int 1, .ref q10, .int 0, .int 0, .int 0, .int 0, .int 0, .int 0, .int 0, .ref q11, .ref q12, .ref q13, .int 0, .ref q14, .ref q15, .ref q16, .ref q17, .int 0, .ref q18])), (q1, .inl (cA 0, 68, .inl ms_z)), (q2, .inl (cA 0, 16, .inl (upd ms_z 1 a0)))]) := by
  refine ms_Mi_of (cc := cX11_journey) (maxL := 3) (ret := (some .int)) (by decide) rfl (Nat.le_of_ble_eq_true rfl) ?_
  intro p e s m args below meth c A ls hB hE hA hP hD hS hl
  obtain ⟨hx, hb, hr, hml, hown, hts, hlk, hnm⟩ := hB
  have hown : s.vm.findClass RX11 = some m.cls := hown
  have hnX11 : ∀ w ∈ u_ws RX11 TX11 32, w ∈ wsX11_journey := fun _ h => List.mem_cons_of_mem _ (List.mem_append_right _ (h))
  have hl : lv_has ls 3 [(0, .ref q0), (1, .int 0), (2, .int a0)] := hl
  refine lv_iload_n hx hb dX11_journey_0 rfl (lv_at hl 1 rfl) ?_
  refine lv_i2l (v := 0) hx hb dX11_journey_1 (by decide) ?_
  refine lv_lconst (v := 0) hx hb dX11_journey_2 (by decide) ?_
  refine lv_iconst (v := 1) hx hb dX11_journey_3 (by decide) ?_
  refine lv_aload_n hx hb dX11_journey_4 rfl (lv_at hl 0 rfl) ?_
  refine va_get (D := D) (ci := 11) (v := .ref q1) (C := RX11) (T := TX11) (N := 32) hx hb hts hnX11 hown hE.1 hP 0 rfl rfl 0 (by decide) (hts (.fieldLink RX11 7 "MovedStonesModel" "march" "[I") (List.mem_cons_of_mem _ (List.mem_append_left _ (List.mem_of_getElem? (i := 0) rfl)))) (fun _ h9 => h9) rfl dX11_journey_5 ?_
  refine lv_iconst (v := 3) hx hb dX11_journey_8 (by decide) ?_
  refine ms_iald (x := 0) hx hb hE hP 1 rfl 3 rfl (by omega) (by decide) (rfl) dX11_journey_9 ?_
  refine lv_ishl hx hb dX11_journey_10 ?_
  refine ms_eqi (y := 1) (by decide) ?_
  refine lv_iconst (v := 1) hx hb dX11_journey_11 (by decide) ?_
  refine lv_isub hx hb dX11_journey_12 ?_
  refine ms_eqi (y := 0) (by decide) ?_
  refine lv_i2l (v := 0) hx hb dX11_journey_13 (by decide) ?_
  refine ms_cSi (wc := []) (wr := [(q0, .inr (11, [.ref q1, .ref q3, .ref q4, .ref q5, .int 0, .ref q6, .ref q7, .long 0, .ref q8, .int 0, .int (-1), .ref q9, .ref q2, .int 0, .ref q10, .int 0, .int 0, .int 0, .int 0, .int 0, .int 0, .int 0, .ref q11, .ref q12, .ref q13, .int 0, .ref q14, .ref q15, .ref q16, .ref q17, .int 0, .ref q18])), (q1, .inl (cA 0, 68, .inl ms_z)), (q2, .inl (cA 0, 16, .inl ms_z))]) ⟨hx, hb, hml, hown, hts⟩ hE (c_in l D cA 0 0 0) (va_cwS 3 hts gX11_journey_X11_in rfl rfl rfl (by decide +kernel) ⟨Nat.le_of_ble_eq_true rfl, Nat.le_of_ble_eq_true rfl⟩) hP hD hS hA [] [0, 1, 2] rfl rfl rfl rfl (by decide) rfl hl.1 rfl (Nat.le_of_ble_eq_true rfl) dX11_journey_14 ⟨Nat.le_of_ble_eq_true rfl, Nat.le_of_ble_eq_true rfl⟩ (fun r1 u2 H locs hp hP hD hS => ?_)
  have hp : r1 = 1 := by rw [hp]; have z3 : (0 : Int64).toInt = 0 := (by decide); have z4 : (0 : Int64).toInt = 0 := (by decide); have z5 : (0 : Int64).toInt = 0 := (by decide); exact if_pos (by omega)
  subst hp
  have hP : va_P D vwCl [(q0, .inr (11, [.ref q1, .ref q3, .ref q4, .ref q5, .int 0, .ref q6, .ref q7, .long 0, .ref q8, .int 0, .int (-1), .ref q9, .ref q2, .int 0, .ref q10, .int 0, .int 0, .int 0, .int 0, .int 0, .int 0, .int 0, .ref q11, .ref q12, .ref q13, .int 0, .ref q14, .ref q15, .ref q16, .ref q17, .int 0, .ref q18])), (q1, .inl (cA 0, 68, .inl ms_z)), (q2, .inl (cA 0, 16, .inl ms_z))] H := hP
  have hD : va_D A [(q0, .inr (11, [.ref q1, .ref q3, .ref q4, .ref q5, .int 0, .ref q6, .ref q7, .long 0, .ref q8, .int 0, .int (-1), .ref q9, .ref q2, .int 0, .ref q10, .int 0, .int 0, .int 0, .int 0, .int 0, .int 0, .int 0, .ref q11, .ref q12, .ref q13, .int 0, .ref q14, .ref q15, .ref q16, .ref q17, .int 0, .ref q18])), (q1, .inl (cA 0, 68, .inl ms_z)), (q2, .inl (cA 0, 16, .inl ms_z))] := hD
  refine lv_if_ne (tgt := 23) hx hb dX11_journey_17 (by decide) (fun _ => ?_) (fun c => absurd c (by decide))
  refine lv_iload_n hx hb dX11_journey_23 rfl (lv_at hl 2 rfl) ?_
  refine lv_i2l (v := a0.toInt64) hx hb dX11_journey_24 rfl ?_
  refine lv_lconst (v := 0) hx hb dX11_journey_25 (by decide) ?_
  refine lv_ldc2 (v := 999) hx hb hown (hts (.constantLong RX11 184 (999)) (List.mem_cons_of_mem _ (List.mem_append_left _ (List.mem_of_getElem? (i := 2) rfl)))) dX11_journey_26 ?_
  refine ms_cSi (wc := []) (wr := [(q0, .inr (11, [.ref q1, .ref q3, .ref q4, .ref q5, .int 0, .ref q6, .ref q7, .long 0, .ref q8, .int 0, .int (-1), .ref q9, .ref q2, .int 0, .ref q10, .int 0, .int 0, .int 0, .int 0, .int 0, .int 0, .int 0, .ref q11, .ref q12, .ref q13, .int 0, .ref q14, .ref q15, .ref q16, .ref q17, .int 0, .ref q18])), (q1, .inl (cA 0, 68, .inl ms_z)), (q2, .inl (cA 0, 16, .inl ms_z))]) ⟨hx, hb, hml, hown, hts⟩ hE (c_in l D cA a0.toInt64 0 999) (va_cwS 3 hts gX11_journey_X11_in rfl rfl rfl (by decide +kernel) ⟨Nat.le_of_ble_eq_true rfl, Nat.le_of_ble_eq_true rfl⟩) hP hD hS hA [] [0, 1, 2] rfl rfl rfl rfl (by decide) rfl hl.1 rfl (Nat.le_of_ble_eq_true rfl) dX11_journey_29 ⟨Nat.le_of_ble_eq_true rfl, Nat.le_of_ble_eq_true rfl⟩ (fun r6 u7 H locs hp hP hD hS => ?_)
  have hp : r6 = 1 := by rw [hp]; have z8 : (0 : Int64).toInt = 0 := (by decide); have z9 : (999 : Int64).toInt = 999 := (by decide); have z10 : (a0.toInt64).toInt = a0.toInt := Int32.toInt_toInt64 _; exact if_pos (by omega)
  subst hp
  have hP : va_P D vwCl [(q0, .inr (11, [.ref q1, .ref q3, .ref q4, .ref q5, .int 0, .ref q6, .ref q7, .long 0, .ref q8, .int 0, .int (-1), .ref q9, .ref q2, .int 0, .ref q10, .int 0, .int 0, .int 0, .int 0, .int 0, .int 0, .int 0, .ref q11, .ref q12, .ref q13, .int 0, .ref q14, .ref q15, .ref q16, .ref q17, .int 0, .ref q18])), (q1, .inl (cA 0, 68, .inl ms_z)), (q2, .inl (cA 0, 16, .inl ms_z))] H := hP
  have hD : va_D A [(q0, .inr (11, [.ref q1, .ref q3, .ref q4, .ref q5, .int 0, .ref q6, .ref q7, .long 0, .ref q8, .int 0, .int (-1), .ref q9, .ref q2, .int 0, .ref q10, .int 0, .int 0, .int 0, .int 0, .int 0, .int 0, .int 0, .ref q11, .ref q12, .ref q13, .int 0, .ref q14, .ref q15, .ref q16, .ref q17, .int 0, .ref q18])), (q1, .inl (cA 0, 68, .inl ms_z)), (q2, .inl (cA 0, 16, .inl ms_z))] := hD
  refine lv_if_ne (tgt := 38) hx hb dX11_journey_32 (by decide) (fun _ => ?_) (fun c => absurd c (by decide))
  refine lv_aload_n hx hb dX11_journey_38 rfl (lv_at hl 0 rfl) ?_
  refine va_get (D := D) (ci := 11) (v := .int 0) (C := RX11) (T := TX11) (N := 32) hx hb hts hnX11 hown hE.1 hP 0 rfl rfl 13 (by decide) (hts (.fieldLink RX11 75 "MovedStonesModel" "journeyMany" "I") (List.mem_cons_of_mem _ (List.mem_append_left _ (List.mem_of_getElem? (i := 4) rfl)))) (fun _ h9 => h9) rfl dX11_journey_39 ?_
  refine lv_bipush (v := 8) hx hb dX11_journey_42 (by decide) ?_
  refine lv_icmp_ne (tgt := 50) hx hb dX11_journey_44 (by decide) (fun _ => ?_) (fun c => absurd c (by decide))
  refine lv_aload_n hx hb dX11_journey_50 rfl (lv_at hl 0 rfl) ?_
  refine va_get (D := D) (ci := 11) (v := .ref q2) (C := RX11) (T := TX11) (N := 32) hx hb hts hnX11 hown hE.1 hP 0 rfl rfl 12 (by decide) (hts (.fieldLink RX11 39 "MovedStonesModel" "journeys" "[I") (List.mem_cons_of_mem _ (List.mem_append_left _ (List.mem_of_getElem? (i := 6) rfl)))) (fun _ h9 => h9) rfl dX11_journey_51 ?_
  refine lv_iconst (v := 2) hx hb dX11_journey_54 (by decide) ?_
  refine lv_aload_n hx hb dX11_journey_55 rfl (lv_at hl 0 rfl) ?_
  refine va_get (D := D) (ci := 11) (v := .int 0) (C := RX11) (T := TX11) (N := 32) hx hb hts hnX11 hown hE.1 hP 0 rfl rfl 13 (by decide) (hts (.fieldLink RX11 75 "MovedStonesModel" "journeyMany" "I") (List.mem_cons_of_mem _ (List.mem_append_left _ (List.mem_of_getElem? (i := 4) rfl)))) (fun _ h9 => h9) rfl dX11_journey_56 ?_
  refine lv_imul hx hb dX11_journey_59 ?_
  refine ms_eqi (y := 0) (by decide) ?_
  refine lv_iload_n hx hb dX11_journey_60 rfl (lv_at hl 1 rfl) ?_
  refine ms_iast (g := ms_z) hx hb hE hP hD hS 2 rfl 0 rfl (by omega) (by decide) (ms_same (rfl)) dX11_journey_61 (fun H locs hP hD hS => ?_)
  have hP : va_P D vwCl [(q0, .inr (11, [.ref q1, .ref q3, .ref q4, .ref q5, .int 0, .ref q6, .ref q7, .long 0, .ref q8, .int 0, .int (-1), .ref q9, .ref q2, .int 0, .ref q10, .int 0, .int 0, .int 0, .int 0, .int 0, .int 0, .int 0, .ref q11, .ref q12, .ref q13, .int 0, .ref q14, .ref q15, .ref q16, .ref q17, .int 0, .ref q18])), (q1, .inl (cA 0, 68, .inl ms_z)), (q2, .inl (cA 0, 16, .inl ms_z))] H := hP
  have hD : va_D A [(q0, .inr (11, [.ref q1, .ref q3, .ref q4, .ref q5, .int 0, .ref q6, .ref q7, .long 0, .ref q8, .int 0, .int (-1), .ref q9, .ref q2, .int 0, .ref q10, .int 0, .int 0, .int 0, .int 0, .int 0, .int 0, .int 0, .ref q11, .ref q12, .ref q13, .int 0, .ref q14, .ref q15, .ref q16, .ref q17, .int 0, .ref q18])), (q1, .inl (cA 0, 68, .inl ms_z)), (q2, .inl (cA 0, 16, .inl ms_z))] := hD
  refine lv_aload_n hx hb dX11_journey_62 rfl (lv_at hl 0 rfl) ?_
  refine va_get (D := D) (ci := 11) (v := .ref q2) (C := RX11) (T := TX11) (N := 32) hx hb hts hnX11 hown hE.1 hP 0 rfl rfl 12 (by decide) (hts (.fieldLink RX11 39 "MovedStonesModel" "journeys" "[I") (List.mem_cons_of_mem _ (List.mem_append_left _ (List.mem_of_getElem? (i := 6) rfl)))) (fun _ h9 => h9) rfl dX11_journey_63 ?_
  refine lv_iconst (v := 2) hx hb dX11_journey_66 (by decide) ?_
  refine lv_aload_n hx hb dX11_journey_67 rfl (lv_at hl 0 rfl) ?_
  refine va_get (D := D) (ci := 11) (v := .int 0) (C := RX11) (T := TX11) (N := 32) hx hb hts hnX11 hown hE.1 hP 0 rfl rfl 13 (by decide) (hts (.fieldLink RX11 75 "MovedStonesModel" "journeyMany" "I") (List.mem_cons_of_mem _ (List.mem_append_left _ (List.mem_of_getElem? (i := 4) rfl)))) (fun _ h9 => h9) rfl dX11_journey_68 ?_
  refine lv_imul hx hb dX11_journey_71 ?_
  refine ms_eqi (y := 0) (by decide) ?_
  refine lv_iconst (v := 1) hx hb dX11_journey_72 (by decide) ?_
  refine lv_iadd hx hb dX11_journey_73 ?_
  refine ms_eqi (y := 1) (by decide) ?_
  refine lv_iload_n hx hb dX11_journey_74 rfl (lv_at hl 2 rfl) ?_
  refine ms_iast (g := upd ms_z 1 a0) hx hb hE hP hD hS 2 rfl 1 rfl (by omega) (by decide) (rfl) dX11_journey_75 (fun H locs hP hD hS => ?_)
  have hP : va_P D vwCl [(q0, .inr (11, [.ref q1, .ref q3, .ref q4, .ref q5, .int 0, .ref q6, .ref q7, .long 0, .ref q8, .int 0, .int (-1), .ref q9, .ref q2, .int 0, .ref q10, .int 0, .int 0, .int 0, .int 0, .int 0, .int 0, .int 0, .ref q11, .ref q12, .ref q13, .int 0, .ref q14, .ref q15, .ref q16, .ref q17, .int 0, .ref q18])), (q1, .inl (cA 0, 68, .inl ms_z)), (q2, .inl (cA 0, 16, .inl (upd ms_z 1 a0)))] H := hP
  have hD : va_D A [(q0, .inr (11, [.ref q1, .ref q3, .ref q4, .ref q5, .int 0, .ref q6, .ref q7, .long 0, .ref q8, .int 0, .int (-1), .ref q9, .ref q2, .int 0, .ref q10, .int 0, .int 0, .int 0, .int 0, .int 0, .int 0, .int 0, .ref q11, .ref q12, .ref q13, .int 0, .ref q14, .ref q15, .ref q16, .ref q17, .int 0, .ref q18])), (q1, .inl (cA 0, 68, .inl ms_z)), (q2, .inl (cA 0, 16, .inl (upd ms_z 1 a0)))] := hD
  refine lv_aload_n hx hb dX11_journey_76 rfl (lv_at hl 0 rfl) ?_
  refine lv_dup hx hb dX11_journey_77 rfl ?_
  refine va_get (D := D) (ci := 11) (v := .int 0) (C := RX11) (T := TX11) (N := 32) hx hb hts hnX11 hown hE.1 hP 0 rfl rfl 13 (by decide) (hts (.fieldLink RX11 75 "MovedStonesModel" "journeyMany" "I") (List.mem_cons_of_mem _ (List.mem_append_left _ (List.mem_of_getElem? (i := 4) rfl)))) (fun _ h9 => h9) rfl dX11_journey_78 ?_
  refine lv_iconst (v := 1) hx hb dX11_journey_81 (by decide) ?_
  refine lv_iadd hx hb dX11_journey_82 ?_
  refine ms_eqi (y := 1) (by decide) ?_
  refine va_put (D := D) (ci := 11) (v := .int 1) (ty := tyX11 13) (C := RX11) (T := TX11) (N := 32) hx hb hts hnX11 tyX11 tyX11_ok nmX11 hown hE.1 hP hD hS 0 rfl rfl 13 (by decide) (hts (.fieldLink RX11 75 "MovedStonesModel" "journeyMany" "I") (List.mem_cons_of_mem _ (List.mem_append_left _ (List.mem_of_getElem? (i := 4) rfl)))) (fun _ h9 => h9) rfl (tyX11_ok 13 (by decide)) rfl rfl (Nat.le_of_ble_eq_true rfl) dX11_journey_83 (fun H locs hP hD hS => ?_)
  have hP : va_P D vwCl [(q0, .inr (11, [.ref q1, .ref q3, .ref q4, .ref q5, .int 0, .ref q6, .ref q7, .long 0, .ref q8, .int 0, .int (-1), .ref q9, .ref q2, .int 1, .ref q10, .int 0, .int 0, .int 0, .int 0, .int 0, .int 0, .int 0, .ref q11, .ref q12, .ref q13, .int 0, .ref q14, .ref q15, .ref q16, .ref q17, .int 0, .ref q18])), (q1, .inl (cA 0, 68, .inl ms_z)), (q2, .inl (cA 0, 16, .inl (upd ms_z 1 a0)))] H := hP
  have hD : va_D A [(q0, .inr (11, [.ref q1, .ref q3, .ref q4, .ref q5, .int 0, .ref q6, .ref q7, .long 0, .ref q8, .int 0, .int (-1), .ref q9, .ref q2, .int 1, .ref q10, .int 0, .int 0, .int 0, .int 0, .int 0, .int 0, .int 0, .ref q11, .ref q12, .ref q13, .int 0, .ref q14, .ref q15, .ref q16, .ref q17, .int 0, .ref q18])), (q1, .inl (cA 0, 68, .inl ms_z)), (q2, .inl (cA 0, 16, .inl (upd ms_z 1 a0)))] := hD
  refine lv_aload_n hx hb dX11_journey_86 rfl (lv_at hl 0 rfl) ?_
  refine va_get (D := D) (ci := 11) (v := .int 1) (C := RX11) (T := TX11) (N := 32) hx hb hts hnX11 hown hE.1 hP 0 rfl rfl 13 (by decide) (hts (.fieldLink RX11 75 "MovedStonesModel" "journeyMany" "I") (List.mem_cons_of_mem _ (List.mem_append_left _ (List.mem_of_getElem? (i := 4) rfl)))) (fun _ h9 => h9) rfl dX11_journey_87 ?_
  exact ms_iret hx hb hr hlk () rfl hP hD hS (Nat.le_of_ble_eq_true rfl) (Nat.le_of_ble_eq_true rfl) dX11_journey_90
set_option maxHeartbeats 4000000 in
set_option maxRecDepth 100000 in
theorem cX10_journey_4 (l : Launch) (D : va_G) (cA : Nat → ClassId) (q0 q1 q2 q3 q4 q5 q6 q7 q8 q9 q10 q11 q12 q13 q14 q15 q16 q17 q18 q19 : Nat) (a0 : Int32) (g0 : 1000 ≤ a0.toInt) : ms_Mi l yX10_journey wsX10_journey ({ frames := 1, cells := 0, slots := 0, locals := 20 } : Room) D cA [.ref q0, .int 0, .int a0] [(q0, .inr (10, [.ref q2, .ref q1, .ref q3, .ref q4, .ref q5, .int 0, .ref q6, .ref q7, .ref q8, .ref q9, .ref q10, .ref q11])), (q1, .inr (2, [.int 0, .int 0, .int 0, .int 0, .int 0, .ref q12, .ref q13, .ref q14, .ref q15, .ref q16, .ref q17, .ref q18, .ref q19]))] (fun (r : Int32) (_ : Unit) => r = (-1000000002)) (fun (_ : Unit) => [(q0, .inr (10, [.ref q2, .ref q1, .ref q3, .ref q4, .ref q5, .int 0, .ref q6, .ref q7, .ref q8, .ref q9, .ref q10, .ref q11])), (q1, .inr (2, [.int 0, .int 0, .int 0, .int 0, .int 0, .ref q12, .ref q13, .ref q14, .ref q15, .ref q16, .ref q17, .ref q18, .ref q19]))]) := by
  refine ms_Mi_of (cc := cX10_journey) (maxL := 3) (ret := (some .int)) (by decide) rfl (Nat.le_of_ble_eq_true rfl) ?_
  intro p e s m args below meth c A ls hB hE hA hP hD hS hl
  obtain ⟨hx, hb, hr, hml, hown, hts, hlk, hnm⟩ := hB
  have hown : s.vm.findClass RX10 = some m.cls := hown
  have hnX10 : ∀ w ∈ u_ws RX10 TX10 12, w ∈ wsX10_journey := fun _ h => List.mem_cons_of_mem _ (List.mem_append_left _ (List.mem_append_left _ (List.mem_append_right _ (h))))
  have hl : lv_has ls 3 [(0, .ref q0), (1, .int 0), (2, .int a0)] := hl
  refine lv_iload_n hx hb dX10_journey_0 rfl (lv_at hl 1 rfl) ?_
  refine lv_aload_n hx hb dX10_journey_1 rfl (lv_at hl 0 rfl) ?_
  refine va_get (D := D) (ci := 10) (v := .ref q1) (C := RX10) (T := TX10) (N := 12) hx hb hts hnX10 hown hE.1 hP 0 rfl rfl 1 (by decide) (hts (.fieldLink RX10 19 "MovedStones" "land" "LMovedStones$Land;") (List.mem_cons_of_mem _ (List.mem_append_left _ (List.mem_append_left _ (List.mem_append_left _ (List.mem_of_getElem? (i := 0) rfl)))))) (fun _ h9 => h9) rfl dX10_journey_2 ?_
  refine ms_cVi (qc := (RX2, TX2, 13)) (wc := [(q1, .inr (2, [.int 0, .int 0, .int 0, .int 0, .int 0, .ref q12, .ref q13, .ref q14, .ref q15, .ref q16, .ref q17, .ref q18, .ref q19]))]) (wr := [(q0, .inr (10, [.ref q2, .ref q1, .ref q3, .ref q4, .ref q5, .int 0, .ref q6, .ref q7, .ref q8, .ref q9, .ref q10, .ref q11]))]) ⟨hx, hb, hml, hown, hts⟩ hE (cX2_allRoads_1 l D cA q1 q12 q13 q14 q15 q16 q17 q18 q19) (cwV 0 hts gX10_journey_X2_allRoads rfl rfl rfl (by decide +kernel) ⟨Nat.le_of_ble_eq_true rfl, Nat.le_of_ble_eq_true rfl⟩) hP hD hS hA [1] [0] rfl rfl rfl rfl (by decide) 0 2 rfl rfl rfl hl.1 rfl (Nat.le_of_ble_eq_true rfl) dX10_journey_5 ⟨Nat.le_of_ble_eq_true rfl, Nat.le_of_ble_eq_true rfl⟩ (fun r2 u1 H locs hp hP hD hS => ?_)
  subst hp
  have hP : va_P D vwCl [(q0, .inr (10, [.ref q2, .ref q1, .ref q3, .ref q4, .ref q5, .int 0, .ref q6, .ref q7, .ref q8, .ref q9, .ref q10, .ref q11])), (q1, .inr (2, [.int 0, .int 0, .int 0, .int 0, .int 0, .ref q12, .ref q13, .ref q14, .ref q15, .ref q16, .ref q17, .ref q18, .ref q19]))] H := hP
  have hD : va_D A [(q0, .inr (10, [.ref q2, .ref q1, .ref q3, .ref q4, .ref q5, .int 0, .ref q6, .ref q7, .ref q8, .ref q9, .ref q10, .ref q11])), (q1, .inr (2, [.int 0, .int 0, .int 0, .int 0, .int 0, .ref q12, .ref q13, .ref q14, .ref q15, .ref q16, .ref q17, .ref q18, .ref q19]))] := hD
  refine lv_iconst (v := (-1)) hx hb dX10_journey_8 (by decide) ?_
  refine lv_ixor hx hb dX10_journey_9 ?_
  refine ms_eqi (y := (-1)) (by decide) ?_
  refine lv_iand hx hb dX10_journey_10 ?_
  refine ms_eqi (y := 0) (by decide) ?_
  refine lv_if_eq (tgt := 17) hx hb dX10_journey_11 (by decide) (fun _ => ?_) (fun c => absurd (by decide) c)
  refine lv_iload_n hx hb dX10_journey_17 rfl (lv_at hl 2 rfl) ?_
  refine lv_if_lt (tgt := 28) hx hb dX10_journey_18 (by decide) (fun c => by exfalso; have hc3 := Int32.lt_iff_toInt_lt.mp c; have z4 : (0 : Int32).toInt = 0 := (by decide); omega) (fun _ => ?_)
  refine lv_iload_n hx hb dX10_journey_21 rfl (lv_at hl 2 rfl) ?_
  refine lv_sipush (v := 999) hx hb dX10_journey_22 (by decide) ?_
  refine lv_icmp_le (tgt := 31) hx hb dX10_journey_25 (by decide) (fun c => by exfalso; have hc5 := Int32.le_iff_toInt_le.mp c; have z6 : (999 : Int32).toInt = 999 := (by decide); omega) (fun _ => ?_)
  refine lv_ldc (v := (-1000000002)) hx hb hown (hts (.constant RX10 83 (-1000000002)) (List.mem_cons_of_mem _ (List.mem_append_left _ (List.mem_append_left _ (List.mem_append_left _ (List.mem_of_getElem? (i := 2) rfl)))))) dX10_journey_28 ?_
  exact ms_iret hx hb hr hlk () rfl hP hD hS (Nat.le_of_ble_eq_true rfl) (Nat.le_of_ble_eq_true rfl) dX10_journey_30
