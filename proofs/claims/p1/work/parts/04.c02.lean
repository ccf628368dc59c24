set_option maxHeartbeats 4000000 in
set_option maxRecDepth 100000 in
theorem cX10_feed_1 (l : Launch) (D : va_G) (cA : Nat → ClassId) (q0 q1 q2 q3 q4 q5 q6 q7 q8 q9 q10 q11 : Nat) (a0 : Int32) (g0 : a0.toInt ≤ -1) : ms_Mi l yX10_feed wsX10_feed ({ frames := 0, cells := 0, slots := 0, locals := 0 } : Room) D cA [.ref q0, .int a0] [(q0, .inr (10, [.ref q1, .ref q2, .ref q3, .ref q4, .ref q5, .int 0, .ref q6, .ref q7, .ref q8, .ref q9, .ref q10, .ref q11]))] (fun (r : Int32) (_ : Unit) => r = (-1000000002)) (fun (_ : Unit) => [(q0, .inr (10, [.ref q1, .ref q2, .ref q3, .ref q4, .ref q5, .int 0, .ref q6, .ref q7, .ref q8, .ref q9, .ref q10, .ref q11]))]) := by
  refine ms_Mi_of (cc := cX10_feed) (maxL := 2) (ret := (some .int)) (by decide) rfl (Nat.le_of_ble_eq_true rfl) ?_
  intro p e s m args below meth c A ls hB hE hA hP hD hS hl
  obtain ⟨hx, hb, hr, hml, hown, hts, hlk, hnm⟩ := hB
  have hown : s.vm.findClass RX10 = some m.cls := hown
  have hl : lv_has ls 2 [(0, .ref q0), (1, .int a0)] := hl
  refine lv_iload_n hx hb dX10_feed_0 rfl (lv_at hl 1 rfl) ?_
  refine lv_if_lt (tgt := 11) hx hb dX10_feed_1 (by decide) (fun _ => ?_) (fun c => by exfalso; have hc1 := mt Int32.lt_iff_toInt_lt.mpr c; have z2 : (0 : Int32).toInt = 0 := (by decide); omega)
  refine lv_ldc (v := (-1000000002)) hx hb hown (hts (.constant RX10 83 (-1000000002)) (List.mem_cons_of_mem _ (List.mem_append_left _ (List.mem_append_left _ (List.mem_of_getElem? (i := 0) rfl))))) dX10_feed_11 ?_
  exact ms_iret hx hb hr hlk () rfl hP hD hS (Nat.le_of_ble_eq_true rfl) (Nat.le_of_ble_eq_true rfl) dX10_feed_13
set_option maxHeartbeats 4000000 in
set_option maxRecDepth 100000 in
theorem cX11_feed_1 (l : Launch) (D : va_G) (cA : Nat → ClassId) (q0 q1 q2 q3 q4 q5 q6 q7 q8 q9 q10 q11 q12 q13 q14 q15 q16 q17 q18 : Nat) (a0 : Int32) (g0 : a0.toInt ≤ -1) : ms_Mi l yX11_feed wsX11_feed ({ frames := 1, cells := 0, slots := 0, locals := 25 } : Room) D cA [.ref q0, .int a0] [(q0, .inr (11, [.ref q1, .ref q2, .ref q3, .ref q4, .int 0, .ref q5, .ref q6, .long 0, .ref q7, .int 0, .int (-1), .ref q8, .ref q9, .int 0, .ref q10, .int 0, .int 0, .int 0, .int 0, .int 0, .int 0, .int 0, .ref q11, .ref q12, .ref q13, .int 0, .ref q14, .ref q15, .ref q16, .ref q17, .int 0, .ref q18]))] (fun (r : Int32) (_ : Unit) => r = (-1000000002)) (fun (_ : Unit) => [(q0, .inr (11, [.ref q1, .ref q2, .ref q3, .ref q4, .int 0, .ref q5, .ref q6, .long 0, .ref q7, .int 0, .int (-1), .ref q8, .ref q9, .int 0, .ref q10, .int 0, .int 0, .int 0, .int 0, .int 0, .int 0, .int 0, .ref q11, .ref q12, .ref q13, .int 0, .ref q14, .ref q15, .ref q16, .ref q17, .int 0, .ref q18]))]) := by
  refine ms_Mi_of (cc := cX11_feed) (maxL := 2) (ret := (some .int)) (by decide) rfl (Nat.le_of_ble_eq_true rfl) ?_
  intro p e s m args below meth c A ls hB hE hA hP hD hS hl
  obtain ⟨hx, hb, hr, hml, hown, hts, hlk, hnm⟩ := hB
  have hown : s.vm.findClass RX11 = some m.cls := hown
  have hl : lv_has ls 2 [(0, .ref q0), (1, .int a0)] := hl
  refine lv_iload_n hx hb dX11_feed_0 rfl (lv_at hl 1 rfl) ?_
  refine lv_i2l (v := a0.toInt64) hx hb dX11_feed_1 rfl ?_
  refine lv_lconst (v := 0) hx hb dX11_feed_2 (by decide) ?_
  refine lv_ldc2 (v := 255) hx hb hown (hts (.constantLong RX11 81 (255)) (List.mem_cons_of_mem _ (List.mem_append_left _ (List.mem_of_getElem? (i := 0) rfl)))) dX11_feed_3 ?_
  refine ms_cSi (wc := []) (wr := [(q0, .inr (11, [.ref q1, .ref q2, .ref q3, .ref q4, .int 0, .ref q5, .ref q6, .long 0, .ref q7, .int 0, .int (-1), .ref q8, .ref q9, .int 0, .ref q10, .int 0, .int 0, .int 0, .int 0, .int 0, .int 0, .int 0, .ref q11, .ref q12, .ref q13, .int 0, .ref q14, .ref q15, .ref q16, .ref q17, .int 0, .ref q18]))]) ⟨hx, hb, hml, hown, hts⟩ hE (c_in l D cA a0.toInt64 0 255) (va_cwS 3 hts gX11_feed_X11_in rfl rfl rfl (by decide +kernel) ⟨Nat.le_of_ble_eq_true rfl, Nat.le_of_ble_eq_true rfl⟩) hP hD hS hA [] [0] rfl rfl rfl rfl (by decide) rfl hl.1 rfl (Nat.le_of_ble_eq_true rfl) dX11_feed_6 ⟨Nat.le_of_ble_eq_true rfl, Nat.le_of_ble_eq_true rfl⟩ (fun r1 u2 H locs hp hP hD hS => ?_)
  have hp : r1 = 0 := by rw [hp]; have z3 : (0 : Int64).toInt = 0 := (by decide); have z4 : (255 : Int64).toInt = 255 := (by decide); have z5 : (a0.toInt64).toInt = a0.toInt := Int32.toInt_toInt64 _; exact if_neg (by omega)
  subst hp
  have hP : va_P D vwCl [(q0, .inr (11, [.ref q1, .ref q2, .ref q3, .ref q4, .int 0, .ref q5, .ref q6, .long 0, .ref q7, .int 0, .int (-1), .ref q8, .ref q9, .int 0, .ref q10, .int 0, .int 0, .int 0, .int 0, .int 0, .int 0, .int 0, .ref q11, .ref q12, .ref q13, .int 0, .ref q14, .ref q15, .ref q16, .ref q17, .int 0, .ref q18]))] H := hP
  have hD : va_D A [(q0, .inr (11, [.ref q1, .ref q2, .ref q3, .ref q4, .int 0, .ref q5, .ref q6, .long 0, .ref q7, .int 0, .int (-1), .ref q8, .ref q9, .int 0, .ref q10, .int 0, .int 0, .int 0, .int 0, .int 0, .int 0, .int 0, .ref q11, .ref q12, .ref q13, .int 0, .ref q14, .ref q15, .ref q16, .ref q17, .int 0, .ref q18]))] := hD
  refine lv_if_ne (tgt := 15) hx hb dX11_feed_9 (by decide) (fun c => absurd (by decide) c) (fun _ => ?_)
  refine lv_ldc (v := (-1000000002)) hx hb hown (hts (.constant RX11 87 (-1000000002)) (List.mem_cons_of_mem _ (List.mem_append_left _ (List.mem_of_getElem? (i := 1) rfl)))) dX11_feed_12 ?_
  exact ms_iret hx hb hr hlk () rfl hP hD hS (Nat.le_of_ble_eq_true rfl) (Nat.le_of_ble_eq_true rfl) dX11_feed_14
set_option maxHeartbeats 4000000 in
set_option maxRecDepth 100000 in
theorem cX6_add_1 (l : Launch) (D : va_G) (cA : Nat → ClassId) (q0 q1 q2 : Nat) (a0 : Int32) (g0 : 0 ≤ a0.toInt) (g1 : a0.toInt ≤ 255) : ms_Mi l yX6_add wsX6_add ({ frames := 0, cells := 0, slots := 0, locals := 0 } : Room) D cA [.ref q0, .int a0] [(q0, .inr (6, [.ref q1, .int 0, .int 0, .int 0, .int 0, .ref q2, .int 0, .int (-1)])), (q1, .inl (cA 0, 250, .inl ms_z))] (fun (r : Int32) (_ : Unit) => r = 1) (fun (_ : Unit) => [(q0, .inr (6, [.ref q1, .int 0, .int 0, .int 0, .int 0, .ref q2, .int 1, .int (-1)])), (q1, .inl (cA 0, 250, .inl (upd ms_z 0 a0)))]) := by
  refine ms_Mi_of (cc := cX6_add) (maxL := 2) (ret := (some .boolean)) (by decide) rfl (Nat.le_of_ble_eq_true rfl) ?_
  intro p e s m args below meth c A ls hB hE hA hP hD hS hl
  obtain ⟨hx, hb, hr, hml, hown, hts, hlk, hnm⟩ := hB
  have hown : s.vm.findClass RX6 = some m.cls := hown
  have hnX6 : ∀ w ∈ u_ws RX6 TX6 8, w ∈ wsX6_add := fun _ h => List.mem_cons_of_mem _ (List.mem_append_right _ (h))
  have hl : lv_has ls 2 [(0, .ref q0), (1, .int a0)] := hl
  refine lv_aload_n hx hb dX6_add_0 rfl (lv_at hl 0 rfl) ?_
  refine va_get (D := D) (ci := 6) (v := .int 0) (C := RX6) (T := TX6) (N := 8) hx hb hts hnX6 hown hE.1 hP 0 rfl rfl 6 (by decide) (hts (.fieldLink RX6 26 "MovedStones$Reader" "length" "I") (List.mem_cons_of_mem _ (List.mem_append_left _ (List.mem_of_getElem? (i := 0) rfl)))) (fun _ h9 => h9) rfl dX6_add_1 ?_
  refine lv_sipush (v := 250) hx hb dX6_add_4 (by decide) ?_
  refine lv_icmp_lt (tgt := 12) hx hb dX6_add_7 (by decide) (fun _ => ?_) (fun c => absurd (by decide) c)
  refine lv_aload_n hx hb dX6_add_12 rfl (lv_at hl 0 rfl) ?_
  refine va_get (D := D) (ci := 6) (v := .ref q1) (C := RX6) (T := TX6) (N := 8) hx hb hts hnX6 hown hE.1 hP 0 rfl rfl 0 (by decide) (hts (.fieldLink RX6 9 "MovedStones$Reader" "letters" "[I") (List.mem_cons_of_mem _ (List.mem_append_left _ (List.mem_of_getElem? (i := 1) rfl)))) (fun _ h9 => h9) rfl dX6_add_13 ?_
  refine lv_aload_n hx hb dX6_add_16 rfl (lv_at hl 0 rfl) ?_
  refine va_get (D := D) (ci := 6) (v := .int 0) (C := RX6) (T := TX6) (N := 8) hx hb hts hnX6 hown hE.1 hP 0 rfl rfl 6 (by decide) (hts (.fieldLink RX6 26 "MovedStones$Reader" "length" "I") (List.mem_cons_of_mem _ (List.mem_append_left _ (List.mem_of_getElem? (i := 0) rfl)))) (fun _ h9 => h9) rfl dX6_add_17 ?_
  refine lv_iload_n hx hb dX6_add_20 rfl (lv_at hl 1 rfl) ?_
  refine ms_iast (g := upd ms_z 0 a0) hx hb hE hP hD hS 1 rfl 0 rfl (by omega) (by decide) (rfl) dX6_add_21 (fun H locs hP hD hS => ?_)
  have hP : va_P D vwCl [(q0, .inr (6, [.ref q1, .int 0, .int 0, .int 0, .int 0, .ref q2, .int 0, .int (-1)])), (q1, .inl (cA 0, 250, .inl (upd ms_z 0 a0)))] H := hP
  have hD : va_D A [(q0, .inr (6, [.ref q1, .int 0, .int 0, .int 0, .int 0, .ref q2, .int 0, .int (-1)])), (q1, .inl (cA 0, 250, .inl (upd ms_z 0 a0)))] := hD
  refine lv_aload_n hx hb dX6_add_22 rfl (lv_at hl 0 rfl) ?_
  refine lv_dup hx hb dX6_add_23 rfl ?_
  refine va_get (D := D) (ci := 6) (v := .int 0) (C := RX6) (T := TX6) (N := 8) hx hb hts hnX6 hown hE.1 hP 0 rfl rfl 6 (by decide) (hts (.fieldLink RX6 26 "MovedStones$Reader" "length" "I") (List.mem_cons_of_mem _ (List.mem_append_left _ (List.mem_of_getElem? (i := 0) rfl)))) (fun _ h9 => h9) rfl dX6_add_24 ?_
  refine lv_iconst (v := 1) hx hb dX6_add_27 (by decide) ?_
  refine lv_iadd hx hb dX6_add_28 ?_
  refine ms_eqi (y := 1) (by decide) ?_
  refine va_put (D := D) (ci := 6) (v := .int 1) (ty := tyX6 6) (C := RX6) (T := TX6) (N := 8) hx hb hts hnX6 tyX6 tyX6_ok nmX6 hown hE.1 hP hD hS 0 rfl rfl 6 (by decide) (hts (.fieldLink RX6 26 "MovedStones$Reader" "length" "I") (List.mem_cons_of_mem _ (List.mem_append_left _ (List.mem_of_getElem? (i := 0) rfl)))) (fun _ h9 => h9) rfl (tyX6_ok 6 (by decide)) rfl rfl (Nat.le_of_ble_eq_true rfl) dX6_add_29 (fun H locs hP hD hS => ?_)
  have hP : va_P D vwCl [(q0, .inr (6, [.ref q1, .int 0, .int 0, .int 0, .int 0, .ref q2, .int 1, .int (-1)])), (q1, .inl (cA 0, 250, .inl (upd ms_z 0 a0)))] H := hP
  have hD : va_D A [(q0, .inr (6, [.ref q1, .int 0, .int 0, .int 0, .int 0, .ref q2, .int 1, .int (-1)])), (q1, .inl (cA 0, 250, .inl (upd ms_z 0 a0)))] := hD
  refine lv_iconst (v := 1) hx hb dX6_add_32 (by decide) ?_
  exact ms_zret hx hb hr rfl hlk () rfl hP hD hS (Nat.le_of_ble_eq_true rfl) (Nat.le_of_ble_eq_true rfl) dX6_add_33
set_option maxHeartbeats 4000000 in
set_option maxRecDepth 100000 in
theorem cX10_feed_2 (l : Launch) (D : va_G) (cA : Nat → ClassId) (q0 q1 q2 q3 q4 q5 q6 q7 q8 q9 q10 q11 q12 q13 : Nat) (a0 : Int32) (g0 : 0 ≤ a0.toInt) (g1 : a0.toInt ≤ 255) : ms_Mi l yX10_feed wsX10_feed ({ frames := 1, cells := 0, slots := 0, locals := 21 } : Room) D cA [.ref q0, .int a0] [(q0, .inr (10, [.ref q1, .ref q3, .ref q4, .ref q5, .ref q6, .int 0, .ref q7, .ref q8, .ref q9, .ref q10, .ref q11, .ref q12])), (q1, .inr (6, [.ref q2, .int 0, .int 0, .int 0, .int 0, .ref q13, .int 0, .int (-1)])), (q2, .inl (cA 0, 250, .inl ms_z))] (fun (r : Int32) (_ : Unit) => r = 1) (fun (_ : Unit) => [(q0, .inr (10, [.ref q1, .ref q3, .ref q4, .ref q5, .ref q6, .int 0, .ref q7, .ref q8, .ref q9, .ref q10, .ref q11, .ref q12])), (q1, .inr (6, [.ref q2, .int 0, .int 0, .int 0, .int 0, .ref q13, .int 1, .int (-1)])), (q2, .inl (cA 0, 250, .inl (upd ms_z 0 a0)))]) := by
  refine ms_Mi_of (cc := cX10_feed) (maxL := 2) (ret := (some .int)) (by decide) rfl (Nat.le_of_ble_eq_true rfl) ?_
  intro p e s m args below meth c A ls hB hE hA hP hD hS hl
  obtain ⟨hx, hb, hr, hml, hown, hts, hlk, hnm⟩ := hB
  have hown : s.vm.findClass RX10 = some m.cls := hown
  have hnX6 : ∀ w ∈ u_ws RX6 TX6 8, w ∈ wsX10_feed := fun _ h => List.mem_cons_of_mem _ (List.mem_append_right _ (h))
  have hnX10 : ∀ w ∈ u_ws RX10 TX10 12, w ∈ wsX10_feed := fun _ h => List.mem_cons_of_mem _ (List.mem_append_left _ (List.mem_append_right _ (h)))
  have hl : lv_has ls 2 [(0, .ref q0), (1, .int a0)] := hl
  refine lv_iload_n hx hb dX10_feed_0 rfl (lv_at hl 1 rfl) ?_
  refine lv_if_lt (tgt := 11) hx hb dX10_feed_1 (by decide) (fun c => by exfalso; have hc1 := Int32.lt_iff_toInt_lt.mp c; have z2 : (0 : Int32).toInt = 0 := (by decide); omega) (fun _ => ?_)
  refine lv_iload_n hx hb dX10_feed_4 rfl (lv_at hl 1 rfl) ?_
  refine lv_sipush (v := 255) hx hb dX10_feed_5 (by decide) ?_
  refine lv_icmp_le (tgt := 14) hx hb dX10_feed_8 (by decide) (fun _ => ?_) (fun c => by exfalso; have hc3 := mt Int32.le_iff_toInt_le.mpr c; have z4 : (255 : Int32).toInt = 255 := (by decide); omega)
  refine lv_aload_n hx hb dX10_feed_14 rfl (lv_at hl 0 rfl) ?_
  refine va_get (D := D) (ci := 10) (v := .ref q1) (C := RX10) (T := TX10) (N := 12) hx hb hts hnX10 hown hE.1 hP 0 rfl rfl 0 (by decide) (hts (.fieldLink RX10 10 "MovedStones" "reader" "LMovedStones$Reader;") (List.mem_cons_of_mem _ (List.mem_append_left _ (List.mem_append_left _ (List.mem_of_getElem? (i := 1) rfl))))) (fun _ h9 => h9) rfl dX10_feed_15 ?_
  refine lv_iload_n hx hb dX10_feed_18 rfl (lv_at hl 1 rfl) ?_
  refine ms_cVi (qc := (RX6, TX6, 8)) (wc := [(q1, .inr (6, [.ref q2, .int 0, .int 0, .int 0, .int 0, .ref q13, .int 0, .int (-1)])), (q2, .inl (cA 0, 250, .inl ms_z))]) (wr := [(q0, .inr (10, [.ref q1, .ref q3, .ref q4, .ref q5, .ref q6, .int 0, .ref q7, .ref q8, .ref q9, .ref q10, .ref q11, .ref q12]))]) ⟨hx, hb, hml, hown, hts⟩ hE (cX6_add_1 l D cA q1 q2 q13 a0 (by omega) (by omega)) (cwV 1 hts gX10_feed_X6_add rfl rfl rfl (by decide +kernel) ⟨Nat.le_of_ble_eq_true rfl, Nat.le_of_ble_eq_true rfl⟩) hP hD hS hA [1, 2] [0] rfl rfl rfl rfl (by decide) 0 6 rfl rfl rfl hl.1 rfl (Nat.le_of_ble_eq_true rfl) dX10_feed_19 ⟨Nat.le_of_ble_eq_true rfl, Nat.le_of_ble_eq_true rfl⟩ (fun r6 u5 H locs hp hP hD hS => ?_)
  subst hp
  have hP : va_P D vwCl [(q0, .inr (10, [.ref q1, .ref q3, .ref q4, .ref q5, .ref q6, .int 0, .ref q7, .ref q8, .ref q9, .ref q10, .ref q11, .ref q12])), (q1, .inr (6, [.ref q2, .int 0, .int 0, .int 0, .int 0, .ref q13, .int 1, .int (-1)])), (q2, .inl (cA 0, 250, .inl (upd ms_z 0 a0)))] H := hP
  have hD : va_D A [(q0, .inr (10, [.ref q1, .ref q3, .ref q4, .ref q5, .ref q6, .int 0, .ref q7, .ref q8, .ref q9, .ref q10, .ref q11, .ref q12])), (q1, .inr (6, [.ref q2, .int 0, .int 0, .int 0, .int 0, .ref q13, .int 1, .int (-1)])), (q2, .inl (cA 0, 250, .inl (upd ms_z 0 a0)))] := hD
  refine lv_if_eq (tgt := 35) hx hb dX10_feed_22 (by decide) (fun c => absurd c (by decide)) (fun _ => ?_)
  refine lv_aload_n hx hb dX10_feed_25 rfl (lv_at hl 0 rfl) ?_
  refine va_get (D := D) (ci := 10) (v := .ref q1) (C := RX10) (T := TX10) (N := 12) hx hb hts hnX10 hown hE.1 hP 0 rfl rfl 0 (by decide) (hts (.fieldLink RX10 10 "MovedStones" "reader" "LMovedStones$Reader;") (List.mem_cons_of_mem _ (List.mem_append_left _ (List.mem_append_left _ (List.mem_of_getElem? (i := 1) rfl))))) (fun _ h9 => h9) rfl dX10_feed_26 ?_
  refine va_get (D := D) (ci := 6) (v := .int 1) (C := RX6) (T := TX6) (N := 8) hx hb hts hnX6 hown hE.1 hP 1 rfl rfl 6 (by decide) (hts (.fieldLink RX10 88 "MovedStones$Reader" "length" "I") (List.mem_cons_of_mem _ (List.mem_append_left _ (List.mem_append_left _ (List.mem_of_getElem? (i := 2) rfl))))) (fun _ h9 => h9) rfl dX10_feed_29 ?_
  refine lv_goto (tgt := 37) hx hb dX10_feed_32 (by decide) ?_
  exact ms_iret hx hb hr hlk () rfl hP hD hS (Nat.le_of_ble_eq_true rfl) (Nat.le_of_ble_eq_true rfl) dX10_feed_37
set_option maxHeartbeats 4000000 in
set_option maxRecDepth 100000 in
theorem cX11_feed_2 (l : Launch) (D : va_G) (cA : Nat → ClassId) (q0 q1 q2 q3 q4 q5 q6 q7 q8 q9 q10 q11 q12 q13 q14 q15 q16 q17 q18 : Nat) (a0 : Int32) (g0 : 0 ≤ a0.toInt) (g1 : a0.toInt ≤ 255) : ms_Mi l yX11_feed wsX11_feed ({ frames := 1, cells := 0, slots := 0, locals := 25 } : Room) D cA [.ref q0, .int a0] [(q0, .inr (11, [.ref q2, .ref q3, .ref q4, .ref q5, .int 0, .ref q6, .ref q7, .long 0, .ref q1, .int 0, .int (-1), .ref q8, .ref q9, .int 0, .ref q10, .int 0, .int 0, .int 0, .int 0, .int 0, .int 0, .int 0, .ref q11, .ref q12, .ref q13, .int 0, .ref q14, .ref q15, .ref q16, .ref q17, .int 0, .ref q18])), (q1, .inl (cA 0, 250, .inl ms_z))] (fun (r : Int32) (_ : Unit) => r = 1) (fun (_ : Unit) => [(q0, .inr (11, [.ref q2, .ref q3, .ref q4, .ref q5, .int 0, .ref q6, .ref q7, .long 0, .ref q1, .int 1, .int (-1), .ref q8, .ref q9, .int 0, .ref q10, .int 0, .int 0, .int 0, .int 0, .int 0, .int 0, .int 0, .ref q11, .ref q12, .ref q13, .int 0, .ref q14, .ref q15, .ref q16, .ref q17, .int 0, .ref q18])), (q1, .inl (cA 0, 250, .inl (upd ms_z 0 a0)))]) := by
  refine ms_Mi_of (cc := cX11_feed) (maxL := 2) (ret := (some .int)) (by decide) rfl (Nat.le_of_ble_eq_true rfl) ?_
  intro p e s m args below meth c A ls hB hE hA hP hD hS hl
  obtain ⟨hx, hb, hr, hml, hown, hts, hlk, hnm⟩ := hB
  have hown : s.vm.findClass RX11 = some m.cls := hown
  have hnX11 : ∀ w ∈ u_ws RX11 TX11 32, w ∈ wsX11_feed := fun _ h => List.mem_cons_of_mem _ (List.mem_append_right _ (h))
  have hl : lv_has ls 2 [(0, .ref q0), (1, .int a0)] := hl
  refine lv_iload_n hx hb dX11_feed_0 rfl (lv_at hl 1 rfl) ?_
  refine lv_i2l (v := a0.toInt64) hx hb dX11_feed_1 rfl ?_
  refine lv_lconst (v := 0) hx hb dX11_feed_2 (by decide) ?_
  refine lv_ldc2 (v := 255) hx hb hown (hts (.constantLong RX11 81 (255)) (List.mem_cons_of_mem _ (List.mem_append_left _ (List.mem_of_getElem? (i := 0) rfl)))) dX11_feed_3 ?_
  refine ms_cSi (wc := []) (wr := [(q0, .inr (11, [.ref q2, .ref q3, .ref q4, .ref q5, .int 0, .ref q6, .ref q7, .long 0, .ref q1, .int 0, .int (-1), .ref q8, .ref q9, .int 0, .ref q10, .int 0, .int 0, .int 0, .int 0, .int 0, .int 0, .int 0, .ref q11, .ref q12, .ref q13, .int 0, .ref q14, .ref q15, .ref q16, .ref q17, .int 0, .ref q18])), (q1, .inl (cA 0, 250, .inl ms_z))]) ⟨hx, hb, hml, hown, hts⟩ hE (c_in l D cA a0.toInt64 0 255) (va_cwS 3 hts gX11_feed_X11_in rfl rfl rfl (by decide +kernel) ⟨Nat.le_of_ble_eq_true rfl, Nat.le_of_ble_eq_true rfl⟩) hP hD hS hA [] [0, 1] rfl rfl rfl rfl (by decide) rfl hl.1 rfl (Nat.le_of_ble_eq_true rfl) dX11_feed_6 ⟨Nat.le_of_ble_eq_true rfl, Nat.le_of_ble_eq_true rfl⟩ (fun r1 u2 H locs hp hP hD hS => ?_)
  have hp : r1 = 1 := by rw [hp]; have z3 : (0 : Int64).toInt = 0 := (by decide); have z4 : (255 : Int64).toInt = 255 := (by decide); have z5 : (a0.toInt64).toInt = a0.toInt := Int32.toInt_toInt64 _; exact if_pos (by omega)
  subst hp
  have hP : va_P D vwCl [(q0, .inr (11, [.ref q2, .ref q3, .ref q4, .ref q5, .int 0, .ref q6, .ref q7, .long 0, .ref q1, .int 0, .int (-1), .ref q8, .ref q9, .int 0, .ref q10, .int 0, .int 0, .int 0, .int 0, .int 0, .int 0, .int 0, .ref q11, .ref q12, .ref q13, .int 0, .ref q14, .ref q15, .ref q16, .ref q17, .int 0, .ref q18])), (q1, .inl (cA 0, 250, .inl ms_z))] H := hP
  have hD : va_D A [(q0, .inr (11, [.ref q2, .ref q3, .ref q4, .ref q5, .int 0, .ref q6, .ref q7, .long 0, .ref q1, .int 0, .int (-1), .ref q8, .ref q9, .int 0, .ref q10, .int 0, .int 0, .int 0, .int 0, .int 0, .int 0, .int 0, .ref q11, .ref q12, .ref q13, .int 0, .ref q14, .ref q15, .ref q16, .ref q17, .int 0, .ref q18])), (q1, .inl (cA 0, 250, .inl ms_z))] := hD
  refine lv_if_ne (tgt := 15) hx hb dX11_feed_9 (by decide) (fun _ => ?_) (fun c => absurd c (by decide))
  refine lv_aload_n hx hb dX11_feed_15 rfl (lv_at hl 0 rfl) ?_
  refine va_get (D := D) (ci := 11) (v := .int 0) (C := RX11) (T := TX11) (N := 32) hx hb hts hnX11 hown hE.1 hP 0 rfl rfl 9 (by decide) (hts (.fieldLink RX11 88 "MovedStonesModel" "size" "I") (List.mem_cons_of_mem _ (List.mem_append_left _ (List.mem_of_getElem? (i := 2) rfl)))) (fun _ h9 => h9) rfl dX11_feed_16 ?_
  refine lv_sipush (v := 250) hx hb dX11_feed_19 (by decide) ?_
  refine lv_icmp_ne (tgt := 28) hx hb dX11_feed_22 (by decide) (fun _ => ?_) (fun c => absurd c (by decide))
  refine lv_aload_n hx hb dX11_feed_28 rfl (lv_at hl 0 rfl) ?_
  refine va_get (D := D) (ci := 11) (v := .ref q1) (C := RX11) (T := TX11) (N := 32) hx hb hts hnX11 hown hE.1 hP 0 rfl rfl 8 (by decide) (hts (.fieldLink RX11 29 "MovedStonesModel" "text" "[I") (List.mem_cons_of_mem _ (List.mem_append_left _ (List.mem_of_getElem? (i := 4) rfl)))) (fun _ h9 => h9) rfl dX11_feed_29 ?_
  refine lv_aload_n hx hb dX11_feed_32 rfl (lv_at hl 0 rfl) ?_
  refine va_get (D := D) (ci := 11) (v := .int 0) (C := RX11) (T := TX11) (N := 32) hx hb hts hnX11 hown hE.1 hP 0 rfl rfl 9 (by decide) (hts (.fieldLink RX11 88 "MovedStonesModel" "size" "I") (List.mem_cons_of_mem _ (List.mem_append_left _ (List.mem_of_getElem? (i := 2) rfl)))) (fun _ h9 => h9) rfl dX11_feed_33 ?_
  refine lv_iload_n hx hb dX11_feed_36 rfl (lv_at hl 1 rfl) ?_
  refine ms_iast (g := upd ms_z 0 a0) hx hb hE hP hD hS 1 rfl 0 rfl (by omega) (by decide) (rfl) dX11_feed_37 (fun H locs hP hD hS => ?_)
  have hP : va_P D vwCl [(q0, .inr (11, [.ref q2, .ref q3, .ref q4, .ref q5, .int 0, .ref q6, .ref q7, .long 0, .ref q1, .int 0, .int (-1), .ref q8, .ref q9, .int 0, .ref q10, .int 0, .int 0, .int 0, .int 0, .int 0, .int 0, .int 0, .ref q11, .ref q12, .ref q13, .int 0, .ref q14, .ref q15, .ref q16, .ref q17, .int 0, .ref q18])), (q1, .inl (cA 0, 250, .inl (upd ms_z 0 a0)))] H := hP
  have hD : va_D A [(q0, .inr (11, [.ref q2, .ref q3, .ref q4, .ref q5, .int 0, .ref q6, .ref q7, .long 0, .ref q1, .int 0, .int (-1), .ref q8, .ref q9, .int 0, .ref q10, .int 0, .int 0, .int 0, .int 0, .int 0, .int 0, .int 0, .ref q11, .ref q12, .ref q13, .int 0, .ref q14, .ref q15, .ref q16, .ref q17, .int 0, .ref q18])), (q1, .inl (cA 0, 250, .inl (upd ms_z 0 a0)))] := hD
  refine lv_aload_n hx hb dX11_feed_38 rfl (lv_at hl 0 rfl) ?_
  refine lv_dup hx hb dX11_feed_39 rfl ?_
  refine va_get (D := D) (ci := 11) (v := .int 0) (C := RX11) (T := TX11) (N := 32) hx hb hts hnX11 hown hE.1 hP 0 rfl rfl 9 (by decide) (hts (.fieldLink RX11 88 "MovedStonesModel" "size" "I") (List.mem_cons_of_mem _ (List.mem_append_left _ (List.mem_of_getElem? (i := 2) rfl)))) (fun _ h9 => h9) rfl dX11_feed_40 ?_
  refine lv_iconst (v := 1) hx hb dX11_feed_43 (by decide) ?_
  refine lv_iadd hx hb dX11_feed_44 ?_
  refine ms_eqi (y := 1) (by decide) ?_
  refine va_put (D := D) (ci := 11) (v := .int 1) (ty := tyX11 9) (C := RX11) (T := TX11) (N := 32) hx hb hts hnX11 tyX11 tyX11_ok nmX11 hown hE.1 hP hD hS 0 rfl rfl 9 (by decide) (hts (.fieldLink RX11 88 "MovedStonesModel" "size" "I") (List.mem_cons_of_mem _ (List.mem_append_left _ (List.mem_of_getElem? (i := 2) rfl)))) (fun _ h9 => h9) rfl (tyX11_ok 9 (by decide)) rfl rfl (Nat.le_of_ble_eq_true rfl) dX11_feed_45 (fun H locs hP hD hS => ?_)
  have hP : va_P D vwCl [(q0, .inr (11, [.ref q2, .ref q3, .ref q4, .ref q5, .int 0, .ref q6, .ref q7, .long 0, .ref q1, .int 1, .int (-1), .ref q8, .ref q9, .int 0, .ref q10, .int 0, .int 0, .int 0, .int 0, .int 0, .int 0, .int 0, .ref q11, .ref q12, .ref q13, .int 0, .ref q14, .ref q15, .ref q16, .ref q17, .int 0, .ref q18])), (q1, .inl (cA 0, 250, .inl (upd ms_z 0 a0)))] H := hP
  have hD : va_D A [(q0, .inr (11, [.ref q2, .ref q3, .ref q4, .ref q5, .int 0, .ref q6, .ref q7, .long 0, .ref q1, .int 1, .int (-1), .ref q8, .ref q9, .int 0, .ref q10, .int 0, .int 0, .int 0, .int 0, .int 0, .int 0, .int 0, .ref q11, .ref q12, .ref q13, .int 0, .ref q14, .ref q15, .ref q16, .ref q17, .int 0, .ref q18])), (q1, .inl (cA 0, 250, .inl (upd ms_z 0 a0)))] := hD
  refine lv_aload_n hx hb dX11_feed_48 rfl (lv_at hl 0 rfl) ?_
  refine va_get (D := D) (ci := 11) (v := .int 1) (C := RX11) (T := TX11) (N := 32) hx hb hts hnX11 hown hE.1 hP 0 rfl rfl 9 (by decide) (hts (.fieldLink RX11 88 "MovedStonesModel" "size" "I") (List.mem_cons_of_mem _ (List.mem_append_left _ (List.mem_of_getElem? (i := 2) rfl)))) (fun _ h9 => h9) rfl dX11_feed_49 ?_
  exact ms_iret hx hb hr hlk () rfl hP hD hS (Nat.le_of_ble_eq_true rfl) (Nat.le_of_ble_eq_true rfl) dX11_feed_52
set_option maxHeartbeats 4000000 in
set_option maxRecDepth 100000 in
theorem cX10_feed_3 (l : Launch) (D : va_G) (cA : Nat → ClassId) (q0 q1 q2 q3 q4 q5 q6 q7 q8 q9 q10 q11 : Nat) (a0 : Int32) (g0 : 256 ≤ a0.toInt) : ms_Mi l yX10_feed wsX10_feed ({ frames := 0, cells := 0, slots := 0, locals := 0 } : Room) D cA [.ref q0, .int a0] [(q0, .inr (10, [.ref q1, .ref q2, .ref q3, .ref q4, .ref q5, .int 0, .ref q6, .ref q7, .ref q8, .ref q9, .ref q10, .ref q11]))] (fun (r : Int32) (_ : Unit) => r = (-1000000002)) (fun (_ : Unit) => [(q0, .inr (10, [.ref q1, .ref q2, .ref q3, .ref q4, .ref q5, .int 0, .ref q6, .ref q7, .ref q8, .ref q9, .ref q10, .ref q11]))]) := by
  refine ms_Mi_of (cc := cX10_feed) (maxL := 2) (ret := (some .int)) (by decide) rfl (Nat.le_of_ble_eq_true rfl) ?_
  intro p e s m args below meth c A ls hB hE hA hP hD hS hl
  obtain ⟨hx, hb, hr, hml, hown, hts, hlk, hnm⟩ := hB
  have hown : s.vm.findClass RX10 = some m.cls := hown
  have hl : lv_has ls 2 [(0, .ref q0), (1, .int a0)] := hl
  refine lv_iload_n hx hb dX10_feed_0 rfl (lv_at hl 1 rfl) ?_
  refine lv_if_lt (tgt := 11) hx hb dX10_feed_1 (by decide) (fun c => by exfalso; have hc1 := Int32.lt_iff_toInt_lt.mp c; have z2 : (0 : Int32).toInt = 0 := (by decide); omega) (fun _ => ?_)
  refine lv_iload_n hx hb dX10_feed_4 rfl (lv_at hl 1 rfl) ?_
  refine lv_sipush (v := 255) hx hb dX10_feed_5 (by decide) ?_
  refine lv_icmp_le (tgt := 14) hx hb dX10_feed_8 (by decide) (fun c => by exfalso; have hc3 := Int32.le_iff_toInt_le.mp c; have z4 : (255 : Int32).toInt = 255 := (by decide); omega) (fun _ => ?_)
  refine lv_ldc (v := (-1000000002)) hx hb hown (hts (.constant RX10 83 (-1000000002)) (List.mem_cons_of_mem _ (List.mem_append_left _ (List.mem_append_left _ (List.mem_of_getElem? (i := 0) rfl))))) dX10_feed_11 ?_
  exact ms_iret hx hb hr hlk () rfl hP hD hS (Nat.le_of_ble_eq_true rfl) (Nat.le_of_ble_eq_true rfl) dX10_feed_13
set_option maxHeartbeats 4000000 in
set_option maxRecDepth 100000 in
theorem cX11_feed_3 (l : Launch) (D : va_G) (cA : Nat → ClassId) (q0 q1 q2 q3 q4 q5 q6 q7 q8 q9 q10 q11 q12 q13 q14 q15 q16 q17 q18 : Nat) (a0 : Int32) (g0 : 256 ≤ a0.toInt) : ms_Mi l yX11_feed wsX11_feed ({ frames := 1, cells := 0, slots := 0, locals := 25 } : Room) D cA [.ref q0, .int a0] [(q0, .inr (11, [.ref q1, .ref q2, .ref q3, .ref q4, .int 0, .ref q5, .ref q6, .long 0, .ref q7, .int 0, .int (-1), .ref q8, .ref q9, .int 0, .ref q10, .int 0, .int 0, .int 0, .int 0, .int 0, .int 0, .int 0, .ref q11, .ref q12, .ref q13, .int 0, .ref q14, .ref q15, .ref q16, .ref q17, .int 0, .ref q18]))] (fun (r : Int32) (_ : Unit) => r = (-1000000002)) (fun (_ : Unit) => [(q0, .inr (11, [.ref q1, .ref q2, .ref q3, .ref q4, .int 0, .ref q5, .ref q6, .long 0, .ref q7, .int 0, .int (-1), .ref q8, .ref q9, .int 0, .ref q10, .int 0, .int 0, .int 0, .int 0, .int 0, .int 0, .int 0, .ref q11, .ref q12, .ref q13, .int 0, .ref q14, .ref q15, .ref q16, .ref q17, .int 0, .ref q18]))]) := by
  refine ms_Mi_of (cc := cX11_feed) (maxL := 2) (ret := (some .int)) (by decide) rfl (Nat.le_of_ble_eq_true rfl) ?_
  intro p e s m args below meth c A ls hB hE hA hP hD hS hl
  obtain ⟨hx, hb, hr, hml, hown, hts, hlk, hnm⟩ := hB
  have hown : s.vm.findClass RX11 = some m.cls := hown
  have hl : lv_has ls 2 [(0, .ref q0), (1, .int a0)] := hl
  refine lv_iload_n hx hb dX11_feed_0 rfl (lv_at hl 1 rfl) ?_
  refine lv_i2l (v := a0.toInt64) hx hb dX11_feed_1 rfl ?_
  refine lv_lconst (v := 0) hx hb dX11_feed_2 (by decide) ?_
  refine lv_ldc2 (v := 255) hx hb hown (hts (.constantLong RX11 81 (255)) (List.mem_cons_of_mem _ (List.mem_append_left _ (List.mem_of_getElem? (i := 0) rfl)))) dX11_feed_3 ?_
  refine ms_cSi (wc := []) (wr := [(q0, .inr (11, [.ref q1, .ref q2, .ref q3, .ref q4, .int 0, .ref q5, .ref q6, .long 0, .ref q7, .int 0, .int (-1), .ref q8, .ref q9, .int 0, .ref q10, .int 0, .int 0, .int 0, .int 0, .int 0, .int 0, .int 0, .ref q11, .ref q12, .ref q13, .int 0, .ref q14, .ref q15, .ref q16, .ref q17, .int 0, .ref q18]))]) ⟨hx, hb, hml, hown, hts⟩ hE (c_in l D cA a0.toInt64 0 255) (va_cwS 3 hts gX11_feed_X11_in rfl rfl rfl (by decide +kernel) ⟨Nat.le_of_ble_eq_true rfl, Nat.le_of_ble_eq_true rfl⟩) hP hD hS hA [] [0] rfl rfl rfl rfl (by decide) rfl hl.1 rfl (Nat.le_of_ble_eq_true rfl) dX11_feed_6 ⟨Nat.le_of_ble_eq_true rfl, Nat.le_of_ble_eq_true rfl⟩ (fun r1 u2 H locs hp hP hD hS => ?_)
  have hp : r1 = 0 := by rw [hp]; have z3 : (0 : Int64).toInt = 0 := (by decide); have z4 : (255 : Int64).toInt = 255 := (by decide); have z5 : (a0.toInt64).toInt = a0.toInt := Int32.toInt_toInt64 _; exact if_neg (by omega)
  subst hp
  have hP : va_P D vwCl [(q0, .inr (11, [.ref q1, .ref q2, .ref q3, .ref q4, .int 0, .ref q5, .ref q6, .long 0, .ref q7, .int 0, .int (-1), .ref q8, .ref q9, .int 0, .ref q10, .int 0, .int 0, .int 0, .int 0, .int 0, .int 0, .int 0, .ref q11, .ref q12, .ref q13, .int 0, .ref q14, .ref q15, .ref q16, .ref q17, .int 0, .ref q18]))] H := hP
  have hD : va_D A [(q0, .inr (11, [.ref q1, .ref q2, .ref q3, .ref q4, .int 0, .ref q5, .ref q6, .long 0, .ref q7, .int 0, .int (-1), .ref q8, .ref q9, .int 0, .ref q10, .int 0, .int 0, .int 0, .int 0, .int 0, .int 0, .int 0, .ref q11, .ref q12, .ref q13, .int 0, .ref q14, .ref q15, .ref q16, .ref q17, .int 0, .ref q18]))] := hD
  refine lv_if_ne (tgt := 15) hx hb dX11_feed_9 (by decide) (fun c => absurd (by decide) c) (fun _ => ?_)
  refine lv_ldc (v := (-1000000002)) hx hb hown (hts (.constant RX11 87 (-1000000002)) (List.mem_cons_of_mem _ (List.mem_append_left _ (List.mem_of_getElem? (i := 1) rfl)))) dX11_feed_12 ?_
  exact ms_iret hx hb hr hlk () rfl hP hD hS (Nat.le_of_ble_eq_true rfl) (Nat.le_of_ble_eq_true rfl) dX11_feed_14
set_option maxHeartbeats 4000000 in
set_option maxRecDepth 100000 in
theorem cX2_clear_1 (l : Launch) (D : va_G) (cA : Nat → ClassId) (q0 q1 q2 q3 q4 q5 q6 q7 q8 : Nat) : ms_Mv l yX2_clear wsX2_clear ({ frames := 0, cells := 0, slots := 0, locals := 0 } : Room) D cA [.ref q0] [(q0, .inr (2, [.int 0, .int 0, .int 0, .int 0, .int 0, .ref q1, .ref q2, .ref q3, .ref q4, .ref q5, .ref q6, .ref q7, .ref q8]))] (fun (_ : Unit) => True) (fun (_ : Unit) => [(q0, .inr (2, [.int 0, .int 0, .int 0, .int 0, .int 0, .ref q1, .ref q2, .ref q3, .ref q4, .ref q5, .ref q6, .ref q7, .ref q8]))]) := by
  refine ms_Mv_of (cc := cX2_clear) (maxL := 1) (ret := none) (by decide) rfl (Nat.le_of_ble_eq_true rfl) ?_
  intro p e s m args below meth c A ls hB hE hA hP hD hS hl
  obtain ⟨hx, hb, hr, hml, hown, hts, hlk, hnm⟩ := hB
  have hown : s.vm.findClass RX2 = some m.cls := hown
  have hnX2 : ∀ w ∈ u_ws RX2 TX2 13, w ∈ wsX2_clear := fun _ h => List.mem_cons_of_mem _ (List.mem_append_right _ (h))
  have hl : lv_has ls 1 [(0, .ref q0)] := hl
  refine lv_aload_n hx hb dX2_clear_0 rfl (lv_at hl 0 rfl) ?_
  refine lv_iconst (v := 0) hx hb dX2_clear_1 (by decide) ?_
  refine va_put (D := D) (ci := 2) (v := .int 0) (ty := tyX2 0) (C := RX2) (T := TX2) (N := 13) hx hb hts hnX2 tyX2 tyX2_ok nmX2 hown hE.1 hP hD hS 0 rfl rfl 0 (by decide) (hts (.fieldLink RX2 36 "MovedStones$Land" "towns" "I") (List.mem_cons_of_mem _ (List.mem_append_left _ (List.mem_of_getElem? (i := 0) rfl)))) (fun _ h9 => h9) rfl (tyX2_ok 0 (by decide)) rfl rfl (Nat.le_of_ble_eq_true rfl) dX2_clear_2 (fun H locs hP hD hS => ?_)
  have hP : va_P D vwCl [(q0, .inr (2, [.int 0, .int 0, .int 0, .int 0, .int 0, .ref q1, .ref q2, .ref q3, .ref q4, .ref q5, .ref q6, .ref q7, .ref q8]))] H := hP
  have hD : va_D A [(q0, .inr (2, [.int 0, .int 0, .int 0, .int 0, .int 0, .ref q1, .ref q2, .ref q3, .ref q4, .ref q5, .ref q6, .ref q7, .ref q8]))] := hD
  refine lv_aload_n hx hb dX2_clear_5 rfl (lv_at hl 0 rfl) ?_
  refine lv_iconst (v := 0) hx hb dX2_clear_6 (by decide) ?_
  refine va_put (D := D) (ci := 2) (v := .int 0) (ty := tyX2 1) (C := RX2) (T := TX2) (N := 13) hx hb hts hnX2 tyX2 tyX2_ok nmX2 hown hE.1 hP hD hS 0 rfl rfl 1 (by decide) (hts (.fieldLink RX2 40 "MovedStones$Land" "counties" "I") (List.mem_cons_of_mem _ (List.mem_append_left _ (List.mem_of_getElem? (i := 1) rfl)))) (fun _ h9 => h9) rfl (tyX2_ok 1 (by decide)) rfl rfl (Nat.le_of_ble_eq_true rfl) dX2_clear_7 (fun H locs hP hD hS => ?_)
  have hP : va_P D vwCl [(q0, .inr (2, [.int 0, .int 0, .int 0, .int 0, .int 0, .ref q1, .ref q2, .ref q3, .ref q4, .ref q5, .ref q6, .ref q7, .ref q8]))] H := hP
  have hD : va_D A [(q0, .inr (2, [.int 0, .int 0, .int 0, .int 0, .int 0, .ref q1, .ref q2, .ref q3, .ref q4, .ref q5, .ref q6, .ref q7, .ref q8]))] := hD
  refine lv_aload_n hx hb dX2_clear_10 rfl (lv_at hl 0 rfl) ?_
  refine lv_iconst (v := 0) hx hb dX2_clear_11 (by decide) ?_
  refine va_put (D := D) (ci := 2) (v := .int 0) (ty := tyX2 2) (C := RX2) (T := TX2) (N := 13) hx hb hts hnX2 tyX2 tyX2_ok nmX2 hown hE.1 hP hD hS 0 rfl rfl 2 (by decide) (hts (.fieldLink RX2 43 "MovedStones$Land" "most" "I") (List.mem_cons_of_mem _ (List.mem_append_left _ (List.mem_of_getElem? (i := 2) rfl)))) (fun _ h9 => h9) rfl (tyX2_ok 2 (by decide)) rfl rfl (Nat.le_of_ble_eq_true rfl) dX2_clear_12 (fun H locs hP hD hS => ?_)
  have hP : va_P D vwCl [(q0, .inr (2, [.int 0, .int 0, .int 0, .int 0, .int 0, .ref q1, .ref q2, .ref q3, .ref q4, .ref q5, .ref q6, .ref q7, .ref q8]))] H := hP
  have hD : va_D A [(q0, .inr (2, [.int 0, .int 0, .int 0, .int 0, .int 0, .ref q1, .ref q2, .ref q3, .ref q4, .ref q5, .ref q6, .ref q7, .ref q8]))] := hD
  refine lv_aload_n hx hb dX2_clear_15 rfl (lv_at hl 0 rfl) ?_
  refine lv_iconst (v := 0) hx hb dX2_clear_16 (by decide) ?_
  refine va_put (D := D) (ci := 2) (v := .int 0) (ty := tyX2 3) (C := RX2) (T := TX2) (N := 13) hx hb hts hnX2 tyX2 tyX2_ok nmX2 hown hE.1 hP hD hS 0 rfl rfl 3 (by decide) (hts (.fieldLink RX2 46 "MovedStones$Land" "roads" "I") (List.mem_cons_of_mem _ (List.mem_append_left _ (List.mem_of_getElem? (i := 3) rfl)))) (fun _ h9 => h9) rfl (tyX2_ok 3 (by decide)) rfl rfl (Nat.le_of_ble_eq_true rfl) dX2_clear_17 (fun H locs hP hD hS => ?_)
  have hP : va_P D vwCl [(q0, .inr (2, [.int 0, .int 0, .int 0, .int 0, .int 0, .ref q1, .ref q2, .ref q3, .ref q4, .ref q5, .ref q6, .ref q7, .ref q8]))] H := hP
  have hD : va_D A [(q0, .inr (2, [.int 0, .int 0, .int 0, .int 0, .int 0, .ref q1, .ref q2, .ref q3, .ref q4, .ref q5, .ref q6, .ref q7, .ref q8]))] := hD
  refine lv_aload_n hx hb dX2_clear_20 rfl (lv_at hl 0 rfl) ?_
  refine lv_iconst (v := 0) hx hb dX2_clear_21 (by decide) ?_
  refine va_put (D := D) (ci := 2) (v := .int 0) (ty := tyX2 4) (C := RX2) (T := TX2) (N := 13) hx hb hts hnX2 tyX2 tyX2_ok nmX2 hown hE.1 hP hD hS 0 rfl rfl 4 (by decide) (hts (.fieldLink RX2 49 "MovedStones$Land" "treaties" "I") (List.mem_cons_of_mem _ (List.mem_append_left _ (List.mem_of_getElem? (i := 4) rfl)))) (fun _ h9 => h9) rfl (tyX2_ok 4 (by decide)) rfl rfl (Nat.le_of_ble_eq_true rfl) dX2_clear_22 (fun H locs hP hD hS => ?_)
  have hP : va_P D vwCl [(q0, .inr (2, [.int 0, .int 0, .int 0, .int 0, .int 0, .ref q1, .ref q2, .ref q3, .ref q4, .ref q5, .ref q6, .ref q7, .ref q8]))] H := hP
  have hD : va_D A [(q0, .inr (2, [.int 0, .int 0, .int 0, .int 0, .int 0, .ref q1, .ref q2, .ref q3, .ref q4, .ref q5, .ref q6, .ref q7, .ref q8]))] := hD
  exact ms_vret hx hb hr hlk () trivial hP hD hS (Nat.le_of_ble_eq_true rfl) (Nat.le_of_ble_eq_true rfl) dX2_clear_25
set_option maxHeartbeats 4000000 in
set_option maxRecDepth 100000 in
theorem cX6_skipBlanks_1 (l : Launch) (D : va_G) (cA : Nat → ClassId) (q0 q1 q2 : Nat) : ms_Mv l yX6_skipBlanks wsX6_skipBlanks ({ frames := 0, cells := 0, slots := 0, locals := 0 } : Room) D cA [.ref q0] [(q0, .inr (6, [.ref q1, .int 0, .int 0, .int 0, .int 0, .ref q2, .int 0, .int (-1)]))] (fun (_ : Unit) => True) (fun (_ : Unit) => [(q0, .inr (6, [.ref q1, .int 0, .int 0, .int 0, .int 0, .ref q2, .int 0, .int (-1)]))]) := by
  refine ms_Mv_of (cc := cX6_skipBlanks) (maxL := 1) (ret := none) (by decide) rfl (Nat.le_of_ble_eq_true rfl) ?_
  intro p e s m args below meth c A ls hB hE hA hP hD hS hl
  obtain ⟨hx, hb, hr, hml, hown, hts, hlk, hnm⟩ := hB
  have hown : s.vm.findClass RX6 = some m.cls := hown
  have hnX6 : ∀ w ∈ u_ws RX6 TX6 8, w ∈ wsX6_skipBlanks := fun _ h => List.mem_cons_of_mem _ (List.mem_append_right _ (h))
  have hl : lv_has ls 1 [(0, .ref q0)] := hl
  refine lv_aload_n hx hb dX6_skipBlanks_0 rfl (lv_at hl 0 rfl) ?_
  refine va_get (D := D) (ci := 6) (v := .int 0) (C := RX6) (T := TX6) (N := 8) hx hb hts hnX6 hown hE.1 hP 0 rfl rfl 1 (by decide) (hts (.fieldLink RX6 32 "MovedStones$Reader" "at" "I") (List.mem_cons_of_mem _ (List.mem_append_left _ (List.mem_of_getElem? (i := 0) rfl)))) (fun _ h9 => h9) rfl dX6_skipBlanks_1 ?_
  refine lv_aload_n hx hb dX6_skipBlanks_4 rfl (lv_at hl 0 rfl) ?_
  refine va_get (D := D) (ci := 6) (v := .int 0) (C := RX6) (T := TX6) (N := 8) hx hb hts hnX6 hown hE.1 hP 0 rfl rfl 6 (by decide) (hts (.fieldLink RX6 26 "MovedStones$Reader" "length" "I") (List.mem_cons_of_mem _ (List.mem_append_left _ (List.mem_of_getElem? (i := 1) rfl)))) (fun _ h9 => h9) rfl dX6_skipBlanks_5 ?_
  refine lv_icmp_ge (tgt := 38) hx hb dX6_skipBlanks_8 (by decide) (fun _ => ?_) (fun c => absurd (by decide) c)
  exact ms_vret hx hb hr hlk () trivial hP hD hS (Nat.le_of_ble_eq_true rfl) (Nat.le_of_ble_eq_true rfl) dX6_skipBlanks_38
set_option maxHeartbeats 4000000 in
set_option maxRecDepth 100000 in
theorem cX6_read_1 (l : Launch) (D : va_G) (cA : Nat → ClassId) (q0 q1 q2 q3 q4 q5 q6 q7 q8 q9 q10 : Nat) : ms_Mi l yX6_read wsX6_read ({ frames := 1, cells := 0, slots := 0, locals := 20 } : Room) D cA [.ref q0] [(q0, .inr (6, [.ref q2, .int 0, .int 0, .int 0, .int 0, .ref q1, .int 0, .int (-1)])), (q1, .inr (2, [.int 0, .int 0, .int 0, .int 0, .int 0, .ref q3, .ref q4, .ref q5, .ref q6, .ref q7, .ref q8, .ref q9, .ref q10]))] (fun (r : Int32) (_ : Unit) => r = 0) (fun (_ : Unit) => [(q0, .inr (6, [.ref q2, .int 0, .int 0, .int 0, .int 0, .ref q1, .int 0, .int (-1)])), (q1, .inr (2, [.int 0, .int 0, .int 0, .int 0, .int 0, .ref q3, .ref q4, .ref q5, .ref q6, .ref q7, .ref q8, .ref q9, .ref q10]))]) := by
  refine ms_Mi_of (cc := cX6_read) (maxL := 2) (ret := (some .int)) (by decide) rfl (Nat.le_of_ble_eq_true rfl) ?_
  intro p e s m args below meth c A ls hB hE hA hP hD hS hl
  obtain ⟨hx, hb, hr, hml, hown, hts, hlk, hnm⟩ := hB
  have hown : s.vm.findClass RX6 = some m.cls := hown
  have hnX6 : ∀ w ∈ u_ws RX6 TX6 8, w ∈ wsX6_read := fun _ h => List.mem_cons_of_mem _ (List.mem_append_left _ (List.mem_append_right _ (h)))
  have hl : lv_has ls 2 [(0, .ref q0)] := hl
  refine lv_aload_n hx hb dX6_read_0 rfl (lv_at hl 0 rfl) ?_
  refine va_get (D := D) (ci := 6) (v := .ref q1) (C := RX6) (T := TX6) (N := 8) hx hb hts hnX6 hown hE.1 hP 0 rfl rfl 5 (by decide) (hts (.fieldLink RX6 18 "MovedStones$Reader" "land" "LMovedStones$Land;") (List.mem_cons_of_mem _ (List.mem_append_left _ (List.mem_append_left _ (List.mem_append_left _ (List.mem_of_getElem? (i := 0) rfl)))))) (fun _ h9 => h9) rfl dX6_read_1 ?_
  refine ms_cVv (qc := (RX2, TX2, 13)) (wc := [(q1, .inr (2, [.int 0, .int 0, .int 0, .int 0, .int 0, .ref q3, .ref q4, .ref q5, .ref q6, .ref q7, .ref q8, .ref q9, .ref q10]))]) (wr := [(q0, .inr (6, [.ref q2, .int 0, .int 0, .int 0, .int 0, .ref q1, .int 0, .int (-1)]))]) ⟨hx, hb, hml, hown, hts⟩ hE (cX2_clear_1 l D cA q1 q3 q4 q5 q6 q7 q8 q9 q10) (cwV 0 hts gX6_read_X2_clear rfl rfl rfl (by decide +kernel) ⟨Nat.le_of_ble_eq_true rfl, Nat.le_of_ble_eq_true rfl⟩) hP hD hS hA [1] [0] rfl rfl rfl rfl (by decide) 0 2 rfl rfl rfl hl.1 rfl (Nat.le_of_ble_eq_true rfl) dX6_read_4 ⟨Nat.le_of_ble_eq_true rfl, Nat.le_of_ble_eq_true rfl⟩ (fun u1 H locs hp hP hD hS => ?_)
  have hP : va_P D vwCl [(q0, .inr (6, [.ref q2, .int 0, .int 0, .int 0, .int 0, .ref q1, .int 0, .int (-1)])), (q1, .inr (2, [.int 0, .int 0, .int 0, .int 0, .int 0, .ref q3, .ref q4, .ref q5, .ref q6, .ref q7, .ref q8, .ref q9, .ref q10]))] H := hP
  have hD : va_D A [(q0, .inr (6, [.ref q2, .int 0, .int 0, .int 0, .int 0, .ref q1, .int 0, .int (-1)])), (q1, .inr (2, [.int 0, .int 0, .int 0, .int 0, .int 0, .ref q3, .ref q4, .ref q5, .ref q6, .ref q7, .ref q8, .ref q9, .ref q10]))] := hD
  refine lv_aload_n hx hb dX6_read_7 rfl (lv_at hl 0 rfl) ?_
  refine lv_iconst (v := 0) hx hb dX6_read_8 (by decide) ?_
  refine va_put (D := D) (ci := 6) (v := .int 0) (ty := tyX6 1) (C := RX6) (T := TX6) (N := 8) hx hb hts hnX6 tyX6 tyX6_ok nmX6 hown hE.1 hP hD hS 0 rfl rfl 1 (by decide) (hts (.fieldLink RX6 32 "MovedStones$Reader" "at" "I") (List.mem_cons_of_mem _ (List.mem_append_left _ (List.mem_append_left _ (List.mem_append_left _ (List.mem_of_getElem? (i := 1) rfl)))))) (fun _ h9 => h9) rfl (tyX6_ok 1 (by decide)) rfl rfl (Nat.le_of_ble_eq_true rfl) dX6_read_9 (fun H locs hP hD hS => ?_)
  have hP : va_P D vwCl [(q0, .inr (6, [.ref q2, .int 0, .int 0, .int 0, .int 0, .ref q1, .int 0, .int (-1)])), (q1, .inr (2, [.int 0, .int 0, .int 0, .int 0, .int 0, .ref q3, .ref q4, .ref q5, .ref q6, .ref q7, .ref q8, .ref q9, .ref q10]))] H := hP
  have hD : va_D A [(q0, .inr (6, [.ref q2, .int 0, .int 0, .int 0, .int 0, .ref q1, .int 0, .int (-1)])), (q1, .inr (2, [.int 0, .int 0, .int 0, .int 0, .int 0, .ref q3, .ref q4, .ref q5, .ref q6, .ref q7, .ref q8, .ref q9, .ref q10]))] := hD
  refine lv_aload_n hx hb dX6_read_12 rfl (lv_at hl 0 rfl) ?_
  refine lv_iconst (v := 0) hx hb dX6_read_13 (by decide) ?_
  refine va_put (D := D) (ci := 6) (v := .int 0) (ty := tyX6 2) (C := RX6) (T := TX6) (N := 8) hx hb hts hnX6 tyX6 tyX6_ok nmX6 hown hE.1 hP hD hS 0 rfl rfl 2 (by decide) (hts (.fieldLink RX6 35 "MovedStones$Reader" "fault" "I") (List.mem_cons_of_mem _ (List.mem_append_left _ (List.mem_append_left _ (List.mem_append_left _ (List.mem_of_getElem? (i := 2) rfl)))))) (fun _ h9 => h9) rfl (tyX6_ok 2 (by decide)) rfl rfl (Nat.le_of_ble_eq_true rfl) dX6_read_14 (fun H locs hP hD hS => ?_)
  have hP : va_P D vwCl [(q0, .inr (6, [.ref q2, .int 0, .int 0, .int 0, .int 0, .ref q1, .int 0, .int (-1)])), (q1, .inr (2, [.int 0, .int 0, .int 0, .int 0, .int 0, .ref q3, .ref q4, .ref q5, .ref q6, .ref q7, .ref q8, .ref q9, .ref q10]))] H := hP
  have hD : va_D A [(q0, .inr (6, [.ref q2, .int 0, .int 0, .int 0, .int 0, .ref q1, .int 0, .int (-1)])), (q1, .inr (2, [.int 0, .int 0, .int 0, .int 0, .int 0, .ref q3, .ref q4, .ref q5, .ref q6, .ref q7, .ref q8, .ref q9, .ref q10]))] := hD
  refine lv_aload_n hx hb dX6_read_17 rfl (lv_at hl 0 rfl) ?_
  refine lv_iconst (v := (-1)) hx hb dX6_read_18 (by decide) ?_
  refine va_put (D := D) (ci := 6) (v := .int (-1)) (ty := tyX6 7) (C := RX6) (T := TX6) (N := 8) hx hb hts hnX6 tyX6 tyX6_ok nmX6 hown hE.1 hP hD hS 0 rfl rfl 7 (by decide) (hts (.fieldLink RX6 22 "MovedStones$Reader" "faultAt" "I") (List.mem_cons_of_mem _ (List.mem_append_left _ (List.mem_append_left _ (List.mem_append_left _ (List.mem_of_getElem? (i := 3) rfl)))))) (fun _ h9 => h9) rfl (tyX6_ok 7 (by decide)) rfl rfl (Nat.le_of_ble_eq_true rfl) dX6_read_19 (fun H locs hP hD hS => ?_)
  have hP : va_P D vwCl [(q0, .inr (6, [.ref q2, .int 0, .int 0, .int 0, .int 0, .ref q1, .int 0, .int (-1)])), (q1, .inr (2, [.int 0, .int 0, .int 0, .int 0, .int 0, .ref q3, .ref q4, .ref q5, .ref q6, .ref q7, .ref q8, .ref q9, .ref q10]))] H := hP
  have hD : va_D A [(q0, .inr (6, [.ref q2, .int 0, .int 0, .int 0, .int 0, .ref q1, .int 0, .int (-1)])), (q1, .inr (2, [.int 0, .int 0, .int 0, .int 0, .int 0, .ref q3, .ref q4, .ref q5, .ref q6, .ref q7, .ref q8, .ref q9, .ref q10]))] := hD
  refine lv_aload_n hx hb dX6_read_22 rfl (lv_at hl 0 rfl) ?_
  refine ms_cVv (qc := (RX6, TX6, 8)) (wc := [(q0, .inr (6, [.ref q2, .int 0, .int 0, .int 0, .int 0, .ref q1, .int 0, .int (-1)]))]) (wr := [(q1, .inr (2, [.int 0, .int 0, .int 0, .int 0, .int 0, .ref q3, .ref q4, .ref q5, .ref q6, .ref q7, .ref q8, .ref q9, .ref q10]))]) ⟨hx, hb, hml, hown, hts⟩ hE (cX6_skipBlanks_1 l D cA q0 q2 q1) (cwV 0 hts gX6_read_X6_skipBlanks rfl rfl rfl (by decide +kernel) ⟨Nat.le_of_ble_eq_true rfl, Nat.le_of_ble_eq_true rfl⟩) hP hD hS hA [0] [1] rfl rfl rfl rfl (by decide) 0 6 rfl rfl rfl hl.1 rfl (Nat.le_of_ble_eq_true rfl) dX6_read_23 ⟨Nat.le_of_ble_eq_true rfl, Nat.le_of_ble_eq_true rfl⟩ (fun u3 H locs hp hP hD hS => ?_)
  have hP : va_P D vwCl [(q1, .inr (2, [.int 0, .int 0, .int 0, .int 0, .int 0, .ref q3, .ref q4, .ref q5, .ref q6, .ref q7, .ref q8, .ref q9, .ref q10])), (q0, .inr (6, [.ref q2, .int 0, .int 0, .int 0, .int 0, .ref q1, .int 0, .int (-1)]))] H := hP
  have hD : va_D A [(q1, .inr (2, [.int 0, .int 0, .int 0, .int 0, .int 0, .ref q3, .ref q4, .ref q5, .ref q6, .ref q7, .ref q8, .ref q9, .ref q10])), (q0, .inr (6, [.ref q2, .int 0, .int 0, .int 0, .int 0, .ref q1, .int 0, .int (-1)]))] := hD
  refine lv_iconst (v := 0) hx hb dX6_read_26 (by decide) ?_
  refine lv_istore_n (lv' := [(1, .int 0), (0, .ref q0)]) hx hb dX6_read_27 rfl hl (by decide) rfl (fun ls hl => ?_)
  refine lv_iload_n hx hb dX6_read_28 rfl (lv_at hl 0 rfl) ?_
  refine lv_aload_n hx hb dX6_read_29 rfl (lv_at hl 1 rfl) ?_
  refine va_get (D := D) (ci := 6) (v := .int 0) (C := RX6) (T := TX6) (N := 8) hx hb hts hnX6 hown hE.1 hP 1 rfl rfl 6 (by decide) (hts (.fieldLink RX6 26 "MovedStones$Reader" "length" "I") (List.mem_cons_of_mem _ (List.mem_append_left _ (List.mem_append_left _ (List.mem_append_left _ (List.mem_of_getElem? (i := 4) rfl)))))) (fun _ h9 => h9) rfl dX6_read_30 ?_
  refine lv_icmp_ge (tgt := 68) hx hb dX6_read_33 (by decide) (fun _ => ?_) (fun c => absurd (by decide) c)
  refine lv_aload_n hx hb dX6_read_68 rfl (lv_at hl 1 rfl) ?_
  refine lv_iconst (v := 0) hx hb dX6_read_69 (by decide) ?_
  refine va_put (D := D) (ci := 6) (v := .int 0) (ty := tyX6 6) (C := RX6) (T := TX6) (N := 8) hx hb hts hnX6 tyX6 tyX6_ok nmX6 hown hE.1 hP hD hS 1 rfl rfl 6 (by decide) (hts (.fieldLink RX6 26 "MovedStones$Reader" "length" "I") (List.mem_cons_of_mem _ (List.mem_append_left _ (List.mem_append_left _ (List.mem_append_left _ (List.mem_of_getElem? (i := 4) rfl)))))) (fun _ h9 => h9) rfl (tyX6_ok 6 (by decide)) rfl rfl (Nat.le_of_ble_eq_true rfl) dX6_read_70 (fun H locs hP hD hS => ?_)
  have hP : va_P D vwCl [(q1, .inr (2, [.int 0, .int 0, .int 0, .int 0, .int 0, .ref q3, .ref q4, .ref q5, .ref q6, .ref q7, .ref q8, .ref q9, .ref q10])), (q0, .inr (6, [.ref q2, .int 0, .int 0, .int 0, .int 0, .ref q1, .int 0, .int (-1)]))] H := hP
  have hD : va_D A [(q1, .inr (2, [.int 0, .int 0, .int 0, .int 0, .int 0, .ref q3, .ref q4, .ref q5, .ref q6, .ref q7, .ref q8, .ref q9, .ref q10])), (q0, .inr (6, [.ref q2, .int 0, .int 0, .int 0, .int 0, .ref q1, .int 0, .int (-1)]))] := hD
  refine lv_aload_n hx hb dX6_read_73 rfl (lv_at hl 1 rfl) ?_
  refine va_get (D := D) (ci := 6) (v := .int 0) (C := RX6) (T := TX6) (N := 8) hx hb hts hnX6 hown hE.1 hP 1 rfl rfl 2 (by decide) (hts (.fieldLink RX6 35 "MovedStones$Reader" "fault" "I") (List.mem_cons_of_mem _ (List.mem_append_left _ (List.mem_append_left _ (List.mem_append_left _ (List.mem_of_getElem? (i := 2) rfl)))))) (fun _ h9 => h9) rfl dX6_read_74 ?_
  exact ms_iret hx hb hr hlk () rfl (hP.sub [1, 0] rfl) (hD.sub [1, 0] (by decide) rfl) hS (Nat.le_of_ble_eq_true rfl) (Nat.le_of_ble_eq_true rfl) dX6_read_77
set_option maxHeartbeats 4000000 in
set_option maxRecDepth 100000 in
theorem cX6_exchange_1 (l : Launch) (D : va_G) (cA : Nat → ClassId) (q0 q1 q2 q3 : Nat) : ms_Mr l yX6_exchange wsX6_exchange ({ frames := 0, cells := 0, slots := 0, locals := 0 } : Room) D cA [.ref q0, .ref q1] [(q0, .inr (6, [.ref q2, .int 0, .int 0, .int 0, .int 0, .ref q3, .int 0, .int (-1)]))] (fun (_ : Unit) => True) (fun (_ : Unit) => q3) (fun (_ : Unit) => [(q0, .inr (6, [.ref q2, .int 0, .int 0, .int 0, .int 0, .ref q1, .int 0, .int (-1)]))]) := by
  refine ms_Mr_of (cc := cX6_exchange) (maxL := 3) (ret := (some (.object "MovedStones$Land"))) (by decide) rfl (Nat.le_of_ble_eq_true rfl) ?_
  intro p e s m args below meth c A ls hB hE hA hP hD hS hl
  obtain ⟨hx, hb, hr, hml, hown, hts, hlk, hnm⟩ := hB
  have hown : s.vm.findClass RX6 = some m.cls := hown
  have hnX6 : ∀ w ∈ u_ws RX6 TX6 8, w ∈ wsX6_exchange := fun _ h => List.mem_cons_of_mem _ (List.mem_append_right _ (h))
  have hl : lv_has ls 3 [(0, .ref q0), (1, .ref q1)] := hl
  refine lv_aload_n hx hb dX6_exchange_0 rfl (lv_at hl 0 rfl) ?_
  refine va_get (D := D) (ci := 6) (v := .ref q3) (C := RX6) (T := TX6) (N := 8) hx hb hts hnX6 hown hE.1 hP 0 rfl rfl 5 (by decide) (hts (.fieldLink RX6 18 "MovedStones$Reader" "land" "LMovedStones$Land;") (List.mem_cons_of_mem _ (List.mem_append_left _ (List.mem_of_getElem? (i := 0) rfl)))) (fun _ h9 => h9) rfl dX6_exchange_1 ?_
  refine lv_astore_n (lv' := [(2, .ref q3), (0, .ref q0), (1, .ref q1)]) hx hb dX6_exchange_4 rfl hl (by decide) rfl (fun ls hl => ?_)
  refine lv_aload_n hx hb dX6_exchange_5 rfl (lv_at hl 1 rfl) ?_
  refine lv_aload_n hx hb dX6_exchange_6 rfl (lv_at hl 2 rfl) ?_
  refine va_put (D := D) (ci := 6) (v := .ref q1) (ty := tyX6 5) (C := RX6) (T := TX6) (N := 8) hx hb hts hnX6 tyX6 tyX6_ok nmX6 hown hE.1 hP hD hS 0 rfl rfl 5 (by decide) (hts (.fieldLink RX6 18 "MovedStones$Reader" "land" "LMovedStones$Land;") (List.mem_cons_of_mem _ (List.mem_append_left _ (List.mem_of_getElem? (i := 0) rfl)))) (fun _ h9 => h9) rfl (tyX6_ok 5 (by decide)) rfl rfl (Nat.le_of_ble_eq_true rfl) dX6_exchange_7 (fun H locs hP hD hS => ?_)
  have hP : va_P D vwCl [(q0, .inr (6, [.ref q2, .int 0, .int 0, .int 0, .int 0, .ref q1, .int 0, .int (-1)]))] H := hP
  have hD : va_D A [(q0, .inr (6, [.ref q2, .int 0, .int 0, .int 0, .int 0, .ref q1, .int 0, .int (-1)]))] := hD
  refine lv_aload_n hx hb dX6_exchange_10 rfl (lv_at hl 0 rfl) ?_
  exact ms_aret hx hb hr (Or.inl ⟨_, rfl⟩) hlk () rfl trivial hP hD hS (Nat.le_of_ble_eq_true rfl) (Nat.le_of_ble_eq_true rfl) dX6_exchange_11
set_option maxHeartbeats 4000000 in
set_option maxRecDepth 100000 in
theorem cX8_begin_1 (l : Launch) (D : va_G) (cA : Nat → ClassId) (q0 q1 q2 q3 q4 q5 q6 q7 q8 q9 q10 : Nat) : ms_Mv l yX8_begin wsX8_begin ({ frames := 1, cells := 0, slots := 0, locals := 60 } : Room) D cA [.ref q0, .ref q1] [(q0, .inr (8, [.ref q3, .int 0, .int 0, .int 0, .int (-1), .int (-1)])), (q1, .inr (2, [.int 0, .int 0, .int 0, .int 0, .int 0, .ref q4, .ref q5, .ref q6, .ref q2, .ref q7, .ref q8, .ref q9, .ref q10])), (q2, .inl (cA 0, 9, .inl ms_z)), (q3, .inl (cA 0, 9, .inl ms_z))] (fun (_ : Unit) => True) (fun (_ : Unit) => [(q0, .inr (8, [.ref q3, .int 0, .int 0, .int 0, .int (-1), .int (-1)])), (q1, .inr (2, [.int 0, .int 0, .int 0, .int 0, .int 0, .ref q4, .ref q5, .ref q6, .ref q2, .ref q7, .ref q8, .ref q9, .ref q10])), (q2, .inl (cA 0, 9, .inl ms_z)), (q3, .inl (cA 0, 9, .inl ms_z))]) := by
  refine ms_Mv_of (cc := cX8_begin) (maxL := 2) (ret := none) (by decide) rfl (Nat.le_of_ble_eq_true rfl) ?_
  intro p e s m args below meth c A ls hB hE hA hP hD hS hl
  obtain ⟨hx, hb, hr, hml, hown, hts, hlk, hnm⟩ := hB
  have hown : s.vm.findClass RX8 = some m.cls := hown
  have hnX2 : ∀ w ∈ u_ws RX2 TX2 13, w ∈ wsX8_begin := fun _ h => List.mem_cons_of_mem _ (List.mem_append_left _ (List.mem_append_right _ (h)))
  have hnX8 : ∀ w ∈ u_ws RX8 TX8 6, w ∈ wsX8_begin := fun _ h => List.mem_cons_of_mem _ (List.mem_append_right _ (h))
  have hl : lv_has ls 2 [(0, .ref q0), (1, .ref q1)] := hl
  refine lv_aload_n hx hb dX8_begin_0 rfl (lv_at hl 1 rfl) ?_
  refine va_get (D := D) (ci := 2) (v := .ref q2) (C := RX2) (T := TX2) (N := 13) hx hb hts hnX2 hown hE.1 hP 1 rfl rfl 8 (by decide) (hts (.fieldLink RX8 22 "MovedStones$Land" "miles" "[I") (List.mem_cons_of_mem _ (List.mem_append_left _ (List.mem_append_left _ (List.mem_of_getElem? (i := 0) rfl))))) (fun _ h9 => h9) rfl dX8_begin_1 ?_
  refine lv_iconst (v := 0) hx hb dX8_begin_4 (by decide) ?_
  refine lv_aload_n hx hb dX8_begin_5 rfl (lv_at hl 0 rfl) ?_
  refine va_get (D := D) (ci := 8) (v := .ref q3) (C := RX8) (T := TX8) (N := 6) hx hb hts hnX8 hown hE.1 hP 0 rfl rfl 0 (by decide) (hts (.fieldLink RX8 9 "MovedStones$State" "miles" "[I") (List.mem_cons_of_mem _ (List.mem_append_left _ (List.mem_append_left _ (List.mem_of_getElem? (i := 1) rfl))))) (fun _ h9 => h9) rfl dX8_begin_6 ?_
  refine lv_iconst (v := 0) hx hb dX8_begin_9 (by decide) ?_
  refine lv_bipush (v := 9) hx hb dX8_begin_10 (by decide) ?_
  refine ms_copyz hx hb (hml.trans hl.1.symm) hown (hts (.methodLink RX8 25 arraycopyName) (List.mem_cons_of_mem _ (List.mem_append_left _ (List.mem_append_left _ (List.mem_of_getElem? (i := 2) rfl))))) (hts (.native arraycopyName) (List.mem_cons_of_mem _ (List.mem_append_left _ (List.mem_append_left _ (List.mem_of_getElem? (i := 3) rfl))))) (hts (.static arraycopyName) (List.mem_cons_of_mem _ (List.mem_append_left _ (List.mem_append_left _ (List.mem_of_getElem? (i := 4) rfl))))) (hts (.initialized "java/lang/System") (List.mem_cons_of_mem _ (List.mem_append_left _ (List.mem_append_left _ (List.mem_of_getElem? (i := 5) rfl))))) hE hP hD hS 2 3 rfl rfl rfl rfl 9 (by decide) rfl (by decide) (by decide) (Nat.le_of_ble_eq_true rfl) (by decide) dX8_begin_12 (fun H locs hP hD hS => ?_)
  have hP : va_P D vwCl [(q0, .inr (8, [.ref q3, .int 0, .int 0, .int 0, .int (-1), .int (-1)])), (q1, .inr (2, [.int 0, .int 0, .int 0, .int 0, .int 0, .ref q4, .ref q5, .ref q6, .ref q2, .ref q7, .ref q8, .ref q9, .ref q10])), (q2, .inl (cA 0, 9, .inl ms_z)), (q3, .inl (cA 0, 9, .inl ms_z))] H := hP
  have hD : va_D A [(q0, .inr (8, [.ref q3, .int 0, .int 0, .int 0, .int (-1), .int (-1)])), (q1, .inr (2, [.int 0, .int 0, .int 0, .int 0, .int 0, .ref q4, .ref q5, .ref q6, .ref q2, .ref q7, .ref q8, .ref q9, .ref q10])), (q2, .inl (cA 0, 9, .inl ms_z)), (q3, .inl (cA 0, 9, .inl ms_z))] := hD
  refine lv_aload_n hx hb dX8_begin_15 rfl (lv_at hl 0 rfl) ?_
  refine lv_iconst (v := 0) hx hb dX8_begin_16 (by decide) ?_
  refine va_put (D := D) (ci := 8) (v := .int 0) (ty := tyX8 1) (C := RX8) (T := TX8) (N := 6) hx hb hts hnX8 tyX8 tyX8_ok nmX8 hown hE.1 hP hD hS 0 rfl rfl 1 (by decide) (hts (.fieldLink RX8 31 "MovedStones$State" "shifted" "I") (List.mem_cons_of_mem _ (List.mem_append_left _ (List.mem_append_left _ (List.mem_of_getElem? (i := 6) rfl))))) (fun _ h9 => h9) rfl (tyX8_ok 1 (by decide)) rfl rfl (Nat.le_of_ble_eq_true rfl) dX8_begin_17 (fun H locs hP hD hS => ?_)
  have hP : va_P D vwCl [(q0, .inr (8, [.ref q3, .int 0, .int 0, .int 0, .int (-1), .int (-1)])), (q1, .inr (2, [.int 0, .int 0, .int 0, .int 0, .int 0, .ref q4, .ref q5, .ref q6, .ref q2, .ref q7, .ref q8, .ref q9, .ref q10])), (q2, .inl (cA 0, 9, .inl ms_z)), (q3, .inl (cA 0, 9, .inl ms_z))] H := hP
  have hD : va_D A [(q0, .inr (8, [.ref q3, .int 0, .int 0, .int 0, .int (-1), .int (-1)])), (q1, .inr (2, [.int 0, .int 0, .int 0, .int 0, .int 0, .ref q4, .ref q5, .ref q6, .ref q2, .ref q7, .ref q8, .ref q9, .ref q10])), (q2, .inl (cA 0, 9, .inl ms_z)), (q3, .inl (cA 0, 9, .inl ms_z))] := hD
  refine lv_aload_n hx hb dX8_begin_20 rfl (lv_at hl 0 rfl) ?_
  refine lv_iconst (v := 0) hx hb dX8_begin_21 (by decide) ?_
  refine va_put (D := D) (ci := 8) (v := .int 0) (ty := tyX8 2) (C := RX8) (T := TX8) (N := 6) hx hb hts hnX8 tyX8 tyX8_ok nmX8 hown hE.1 hP hD hS 0 rfl rfl 2 (by decide) (hts (.fieldLink RX8 34 "MovedStones$State" "year" "I") (List.mem_cons_of_mem _ (List.mem_append_left _ (List.mem_append_left _ (List.mem_of_getElem? (i := 7) rfl))))) (fun _ h9 => h9) rfl (tyX8_ok 2 (by decide)) rfl rfl (Nat.le_of_ble_eq_true rfl) dX8_begin_22 (fun H locs hP hD hS => ?_)
  have hP : va_P D vwCl [(q0, .inr (8, [.ref q3, .int 0, .int 0, .int 0, .int (-1), .int (-1)])), (q1, .inr (2, [.int 0, .int 0, .int 0, .int 0, .int 0, .ref q4, .ref q5, .ref q6, .ref q2, .ref q7, .ref q8, .ref q9, .ref q10])), (q2, .inl (cA 0, 9, .inl ms_z)), (q3, .inl (cA 0, 9, .inl ms_z))] H := hP
  have hD : va_D A [(q0, .inr (8, [.ref q3, .int 0, .int 0, .int 0, .int (-1), .int (-1)])), (q1, .inr (2, [.int 0, .int 0, .int 0, .int 0, .int 0, .ref q4, .ref q5, .ref q6, .ref q2, .ref q7, .ref q8, .ref q9, .ref q10])), (q2, .inl (cA 0, 9, .inl ms_z)), (q3, .inl (cA 0, 9, .inl ms_z))] := hD
  refine lv_aload_n hx hb dX8_begin_25 rfl (lv_at hl 0 rfl) ?_
  refine lv_iconst (v := 0) hx hb dX8_begin_26 (by decide) ?_
  refine va_put (D := D) (ci := 8) (v := .int 0) (ty := tyX8 3) (C := RX8) (T := TX8) (N := 6) hx hb hts hnX8 tyX8 tyX8_ok nmX8 hown hE.1 hP hD hS 0 rfl rfl 3 (by decide) (hts (.fieldLink RX8 37 "MovedStones$State" "broken" "I") (List.mem_cons_of_mem _ (List.mem_append_left _ (List.mem_append_left _ (List.mem_of_getElem? (i := 8) rfl))))) (fun _ h9 => h9) rfl (tyX8_ok 3 (by decide)) rfl rfl (Nat.le_of_ble_eq_true rfl) dX8_begin_27 (fun H locs hP hD hS => ?_)
  have hP : va_P D vwCl [(q0, .inr (8, [.ref q3, .int 0, .int 0, .int 0, .int (-1), .int (-1)])), (q1, .inr (2, [.int 0, .int 0, .int 0, .int 0, .int 0, .ref q4, .ref q5, .ref q6, .ref q2, .ref q7, .ref q8, .ref q9, .ref q10])), (q2, .inl (cA 0, 9, .inl ms_z)), (q3, .inl (cA 0, 9, .inl ms_z))] H := hP
  have hD : va_D A [(q0, .inr (8, [.ref q3, .int 0, .int 0, .int 0, .int (-1), .int (-1)])), (q1, .inr (2, [.int 0, .int 0, .int 0, .int 0, .int 0, .ref q4, .ref q5, .ref q6, .ref q2, .ref q7, .ref q8, .ref q9, .ref q10])), (q2, .inl (cA 0, 9, .inl ms_z)), (q3, .inl (cA 0, 9, .inl ms_z))] := hD
  refine lv_aload_n hx hb dX8_begin_30 rfl (lv_at hl 0 rfl) ?_
  refine lv_iconst (v := (-1)) hx hb dX8_begin_31 (by decide) ?_
  refine va_put (D := D) (ci := 8) (v := .int (-1)) (ty := tyX8 4) (C := RX8) (T := TX8) (N := 6) hx hb hts hnX8 tyX8 tyX8_ok nmX8 hown hE.1 hP hD hS 0 rfl rfl 4 (by decide) (hts (.fieldLink RX8 15 "MovedStones$State" "firstBroken" "I") (List.mem_cons_of_mem _ (List.mem_append_left _ (List.mem_append_left _ (List.mem_of_getElem? (i := 9) rfl))))) (fun _ h9 => h9) rfl (tyX8_ok 4 (by decide)) rfl rfl (Nat.le_of_ble_eq_true rfl) dX8_begin_32 (fun H locs hP hD hS => ?_)
  have hP : va_P D vwCl [(q0, .inr (8, [.ref q3, .int 0, .int 0, .int 0, .int (-1), .int (-1)])), (q1, .inr (2, [.int 0, .int 0, .int 0, .int 0, .int 0, .ref q4, .ref q5, .ref q6, .ref q2, .ref q7, .ref q8, .ref q9, .ref q10])), (q2, .inl (cA 0, 9, .inl ms_z)), (q3, .inl (cA 0, 9, .inl ms_z))] H := hP
  have hD : va_D A [(q0, .inr (8, [.ref q3, .int 0, .int 0, .int 0, .int (-1), .int (-1)])), (q1, .inr (2, [.int 0, .int 0, .int 0, .int 0, .int 0, .ref q4, .ref q5, .ref q6, .ref q2, .ref q7, .ref q8, .ref q9, .ref q10])), (q2, .inl (cA 0, 9, .inl ms_z)), (q3, .inl (cA 0, 9, .inl ms_z))] := hD
  refine lv_aload_n hx hb dX8_begin_35 rfl (lv_at hl 0 rfl) ?_
  refine lv_iconst (v := (-1)) hx hb dX8_begin_36 (by decide) ?_
  refine va_put (D := D) (ci := 8) (v := .int (-1)) (ty := tyX8 5) (C := RX8) (T := TX8) (N := 6) hx hb hts hnX8 tyX8 tyX8_ok nmX8 hown hE.1 hP hD hS 0 rfl rfl 5 (by decide) (hts (.fieldLink RX8 19 "MovedStones$State" "firstYear" "I") (List.mem_cons_of_mem _ (List.mem_append_left _ (List.mem_append_left _ (List.mem_of_getElem? (i := 10) rfl))))) (fun _ h9 => h9) rfl (tyX8_ok 5 (by decide)) rfl rfl (Nat.le_of_ble_eq_true rfl) dX8_begin_37 (fun H locs hP hD hS => ?_)
  have hP : va_P D vwCl [(q0, .inr (8, [.ref q3, .int 0, .int 0, .int 0, .int (-1), .int (-1)])), (q1, .inr (2, [.int 0, .int 0, .int 0, .int 0, .int 0, .ref q4, .ref q5, .ref q6, .ref q2, .ref q7, .ref q8, .ref q9, .ref q10])), (q2, .inl (cA 0, 9, .inl ms_z)), (q3, .inl (cA 0, 9, .inl ms_z))] H := hP
  have hD : va_D A [(q0, .inr (8, [.ref q3, .int 0, .int 0, .int 0, .int (-1), .int (-1)])), (q1, .inr (2, [.int 0, .int 0, .int 0, .int 0, .int 0, .ref q4, .ref q5, .ref q6, .ref q2, .ref q7, .ref q8, .ref q9, .ref q10])), (q2, .inl (cA 0, 9, .inl ms_z)), (q3, .inl (cA 0, 9, .inl ms_z))] := hD
  exact ms_vret hx hb hr hlk () trivial hP hD hS (Nat.le_of_ble_eq_true rfl) (Nat.le_of_ble_eq_true rfl) dX8_begin_40
set_option maxHeartbeats 4000000 in
set_option maxRecDepth 100000 in
theorem cJ7_fill_53178_1 (l : Launch) (D : va_G) (cA : Nat → ClassId) (q0 : Nat) : ms_Mv l yJ7_fill_53178 wsJ7_fill_53178 ({ frames := 0, cells := 0, slots := 0, locals := 0 } : Room) D cA [.ref q0, .int 0] [(q0, .inl (cA 0, 9, .inl ms_z))] (fun (_ : Unit) => True) (fun (_ : Unit) => [(q0, .inl (cA 0, 9, .inl ms_z))]) := by
  refine ms_Mv_of (cc := cJ7_fill_53178) (maxL := 4) (ret := none) (by decide) rfl (Nat.le_of_ble_eq_true rfl) ?_
  intro p e s m args below meth c A ls hB hE hA hP hD hS hl
  obtain ⟨hx, hb, hr, hml, hown, hts, hlk, hnm⟩ := hB
  have hown : s.vm.findClass RJ7 = some m.cls := hown
  have hl : lv_has ls 4 [(0, .ref q0), (1, .int 0)] := hl
  refine lv_iconst (v := 0) hx hb dJ7_fill_53178_0 (by decide) ?_
  refine lv_istore_n (lv' := [(2, .int 0), (0, .ref q0), (1, .int 0)]) hx hb dJ7_fill_53178_1 rfl hl (by decide) rfl (fun ls hl => ?_)
  refine lv_aload_n hx hb dJ7_fill_53178_2 rfl (lv_at hl 1 rfl) ?_
  refine va_alen (v := 9) hx hb hE.1 hP 0 0 rfl rfl rfl dJ7_fill_53178_3 ?_
  refine lv_istore_n (lv' := [(3, .int 9), (2, .int 0), (0, .ref q0), (1, .int 0)]) hx hb dJ7_fill_53178_4 rfl hl (by decide) rfl (fun ls hl => ?_)
  have lp3 : ∀ (n2 i1 : Nat) (H : Heap) (locs : List Loc) (ls : Array Slot), 0 ≤ i1 → i1 ≤ 9 → 10 ≤ i1 + n2 → va_P D vwCl [(q0, .inl (cA 0, 9, .inl ms_z))] H → va_D A [(q0, .inl (cA 0, 9, .inl ms_z))] → va_S A s.heap H locs → lv_has ls 4 [(3, .int 9), (2, .int (nI i1)), (0, .ref q0), (1, .int 0)] → W p l e ({ frames := 0, cells := 0, slots := 0, locals := 0 } : Room) s m args below meth c H locs 0 0 (MQ below (ms_Qv D A (fun (_ : Unit) => True) (fun (_ : Unit) => [(q0, .inl (cA 0, 9, .inl ms_z))])) args s 0 0 A) (F0 m 5 ls []) := by
    intro n2
    induction n2 with
    | zero => intro i1  H locs ls h1 h2 h3; exact absurd h3 (by omega)
    | succ n2 ih4 =>
      intro i1  H locs ls h1 h2 h3 hP hD hS hl
      refine lv_iload_n hx hb dJ7_fill_53178_5 rfl (lv_at hl 1 rfl) ?_
      refine lv_iload_n hx hb dJ7_fill_53178_6 rfl (lv_at hl 0 rfl) ?_
      refine lv_icmp_ge (tgt := 20) hx hb dJ7_fill_53178_7 (by decide) (fun c5 => ?_) (fun c5 => ?_)
      · have hc6 := Int32.le_iff_toInt_le.mp c5
        have z7 : (nI i1).toInt = ((i1 : Nat) : Int) := nI_toInt (by omega)
        have z8 : (9 : Int32).toInt = 9 := (by decide)
        exact ms_vret hx hb hr hlk () trivial hP hD hS (Nat.le_of_ble_eq_true rfl) (Nat.le_of_ble_eq_true rfl) dJ7_fill_53178_20
      · have hc9 := mt Int32.le_iff_toInt_le.mpr c5
        have z10 : (nI i1).toInt = ((i1 : Nat) : Int) := nI_toInt (by omega)
        have z11 : (9 : Int32).toInt = 9 := (by decide)
        refine lv_aload_n hx hb dJ7_fill_53178_10 rfl (lv_at hl 2 rfl) ?_
        refine lv_iload_n hx hb dJ7_fill_53178_11 rfl (lv_at hl 1 rfl) ?_
        refine lv_iload_n hx hb dJ7_fill_53178_12 rfl (lv_at hl 3 rfl) ?_
        refine ms_iast (g := ms_z) hx hb hE hP hD hS 0 rfl i1 rfl (by omega) (by decide) (ms_same (rfl)) dJ7_fill_53178_13 (fun H locs hP hD hS => ?_)
        have hP : va_P D vwCl [(q0, .inl (cA 0, 9, .inl ms_z))] H := hP
        have hD : va_D A [(q0, .inl (cA 0, 9, .inl ms_z))] := hD
        refine lv_iinc (v := nI (i1 + 1)) (lv' := [(2, .int (nI (i1 + 1))), (3, .int 9), (0, .ref q0), (1, .int 0)]) hx hb dJ7_fill_53178_14 hl (k := 1) rfl ((nI_succ i1).symm) (by decide) rfl (fun ls hl => ?_)
        refine lv_goto (tgt := 5) hx hb dJ7_fill_53178_17 (by decide) ?_
        exact ih4 (i1 + 1)  _ _ _ (by omega) (by omega) (by omega) hP hD hS (lv_sub hl [1, 0, 2, 3] rfl)
  exact lp3 10 0  _ _ _ (by omega) (by omega) (by omega) hP hD hS (lv_sub hl [0, 1, 2, 3] rfl)
