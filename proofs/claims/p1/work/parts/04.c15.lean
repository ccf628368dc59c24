set_option maxHeartbeats 4000000 in
set_option maxRecDepth 100000 in
theorem cX10_goBack_4 (l : Launch) (D : va_G) (cA : Nat → ClassId) (q0 q1 q2 q3 q4 q5 q6 q7 q8 q9 q10 q11 : Nat) (a0 : Int32) (g0 : 2 ≤ a0.toInt) : ms_Mi l yX10_goBack wsX10_goBack ({ frames := 0, cells := 0, slots := 0, locals := 0 } : Room) D cA [.ref q0, .int a0] [(q0, .inr (10, [.ref q1, .ref q2, .ref q3, .ref q4, .ref q5, .int 0, .ref q6, .ref q7, .ref q8, .ref q9, .ref q10, .ref q11]))] (fun (r : Int32) (_ : Unit) => r = (-1000000001)) (fun (_ : Unit) => [(q0, .inr (10, [.ref q1, .ref q2, .ref q3, .ref q4, .ref q5, .int 0, .ref q6, .ref q7, .ref q8, .ref q9, .ref q10, .ref q11]))]) := by
  refine ms_Mi_of (cc := cX10_goBack) (maxL := 2) (ret := (some .int)) (by decide) rfl (by decide) ?_
  intro p e s m args below meth c A ls hB hE hA hP hD hS hl
  obtain ⟨hx, hb, hr, hml, hown, hts, hlk, hnm⟩ := hB
  have hl : lv_has ls 2 [(0, .ref q0), (1, .int a0)] := hl
  refine lv_iload_n hx hb dX10_goBack_0 rfl (lv_at hl 1 rfl) ?_
  refine lv_if_lt (tgt := 9) hx hb dX10_goBack_1 (by decide) (fun c => by exfalso; have hc1 := Int32.lt_iff_toInt_lt.mp c; have z2 : (0 : Int32).toInt = 0 := by decide; omega) (fun _ => ?_)
  refine lv_iload_n hx hb dX10_goBack_4 rfl (lv_at hl 1 rfl) ?_
  refine lv_iconst (v := 2) hx hb dX10_goBack_5 (by decide) ?_
  refine lv_icmp_lt (tgt := 12) hx hb dX10_goBack_6 (by decide) (fun c => by exfalso; have hc3 := Int32.lt_iff_toInt_lt.mp c; have z4 : (2 : Int32).toInt = 2 := by decide; omega) (fun _ => ?_)
  refine lv_ldc (v := (-1000000001)) hx hb hown (hts (.constant RX10 178 (-1000000001)) (List.mem_cons_of_mem _ (List.mem_append_left _ (List.mem_append_left _ (List.mem_append_left _ (List.mem_append_left _ (List.mem_append_left _ (List.mem_of_getElem? (i := 0) rfl)))))))) dX10_goBack_9 ?_
  exact ms_iret hx hb hr hlk () rfl hP hD hS (Nat.le_of_ble_eq_true rfl) (Nat.le_of_ble_eq_true rfl) dX10_goBack_11
set_option maxHeartbeats 4000000 in
set_option maxRecDepth 100000 in
theorem cX11_goBack_4 (l : Launch) (D : va_G) (cA : Nat → ClassId) (q0 q1 q2 q3 q4 q5 q6 q7 q8 q9 q10 q11 q12 q13 q14 q15 q16 q17 q18 : Nat) (a0 : Int32) (g0 : 2 ≤ a0.toInt) : ms_Mi l yX11_goBack wsX11_goBack ({ frames := 1, cells := 0, slots := 0, locals := 25 } : Room) D cA [.ref q0, .int a0] [(q0, .inr (11, [.ref q1, .ref q2, .ref q3, .ref q4, .int 0, .ref q5, .ref q6, .long 0, .ref q7, .int 0, .int (-1), .ref q8, .ref q9, .int 0, .ref q10, .int 0, .int 0, .int 0, .int 0, .int 0, .int 0, .int 0, .ref q11, .ref q12, .ref q13, .int 0, .ref q14, .ref q15, .ref q16, .ref q17, .int 0, .ref q18]))] (fun (r : Int32) (_ : Unit) => r = (-1000000001)) (fun (_ : Unit) => [(q0, .inr (11, [.ref q1, .ref q2, .ref q3, .ref q4, .int 0, .ref q5, .ref q6, .long 0, .ref q7, .int 0, .int (-1), .ref q8, .ref q9, .int 0, .ref q10, .int 0, .int 0, .int 0, .int 0, .int 0, .int 0, .int 0, .ref q11, .ref q12, .ref q13, .int 0, .ref q14, .ref q15, .ref q16, .ref q17, .int 0, .ref q18]))]) := by
  refine ms_Mi_of (cc := cX11_goBack) (maxL := 2) (ret := (some .int)) (by decide) rfl (by decide) ?_
  intro p e s m args below meth c A ls hB hE hA hP hD hS hl
  obtain ⟨hx, hb, hr, hml, hown, hts, hlk, hnm⟩ := hB
  have hl : lv_has ls 2 [(0, .ref q0), (1, .int a0)] := hl
  refine lv_iload_n hx hb dX11_goBack_0 rfl (lv_at hl 1 rfl) ?_
  refine lv_i2l (v := a0.toInt64) hx hb dX11_goBack_1 rfl ?_
  refine lv_lconst (v := 0) hx hb dX11_goBack_2 (by decide) ?_
  refine lv_lconst (v := 1) hx hb dX11_goBack_3 (by decide) ?_
  refine ms_cSi (wc := []) (wr := [(q0, .inr (11, [.ref q1, .ref q2, .ref q3, .ref q4, .int 0, .ref q5, .ref q6, .long 0, .ref q7, .int 0, .int (-1), .ref q8, .ref q9, .int 0, .ref q10, .int 0, .int 0, .int 0, .int 0, .int 0, .int 0, .int 0, .ref q11, .ref q12, .ref q13, .int 0, .ref q14, .ref q15, .ref q16, .ref q17, .int 0, .ref q18]))]) ⟨hx, hb, hml, hown, hts⟩ hE (c_in l D cA a0.toInt64 0 1) (va_cwS 3 hts gX11_goBack_X11_in rfl rfl rfl (by decide +kernel) ⟨Nat.le_of_ble_eq_true rfl, Nat.le_of_ble_eq_true rfl⟩) hP hD hS hA [] [0] rfl rfl rfl rfl (by decide) rfl hl.1 rfl (Nat.le_of_ble_eq_true rfl) dX11_goBack_4 ⟨Nat.le_of_ble_eq_true rfl, Nat.le_of_ble_eq_true rfl⟩ (fun r1 u2 H locs hp hP hD hS => ?_)
  have hp : r1 = 0 := by rw [hp]; have z3 : (0 : Int64).toInt = 0 := by decide; have z4 : (1 : Int64).toInt = 1 := by decide; have z5 : (a0.toInt64).toInt = a0.toInt := Int32.toInt_toInt64 _; exact if_neg (by omega)
  subst hp
  have hP : va_P D vwCl [(q0, .inr (11, [.ref q1, .ref q2, .ref q3, .ref q4, .int 0, .ref q5, .ref q6, .long 0, .ref q7, .int 0, .int (-1), .ref q8, .ref q9, .int 0, .ref q10, .int 0, .int 0, .int 0, .int 0, .int 0, .int 0, .int 0, .ref q11, .ref q12, .ref q13, .int 0, .ref q14, .ref q15, .ref q16, .ref q17, .int 0, .ref q18]))] H := hP
  have hD : va_D A [(q0, .inr (11, [.ref q1, .ref q2, .ref q3, .ref q4, .int 0, .ref q5, .ref q6, .long 0, .ref q7, .int 0, .int (-1), .ref q8, .ref q9, .int 0, .ref q10, .int 0, .int 0, .int 0, .int 0, .int 0, .int 0, .int 0, .ref q11, .ref q12, .ref q13, .int 0, .ref q14, .ref q15, .ref q16, .ref q17, .int 0, .ref q18]))] := hD
  refine lv_if_ne (tgt := 13) hx hb dX11_goBack_7 (by decide) (fun c => absurd (by decide) c) (fun _ => ?_)
  refine lv_ldc (v := (-1000000001)) hx hb hown (hts (.constant RX11 173 (-1000000001)) (List.mem_cons_of_mem _ (List.mem_append_left _ (List.mem_of_getElem? (i := 0) rfl)))) dX11_goBack_10 ?_
  exact ms_iret hx hb hr hlk () rfl hP hD hS (Nat.le_of_ble_eq_true rfl) (Nat.le_of_ble_eq_true rfl) dX11_goBack_12
