set_option maxHeartbeats 4000000 in
set_option maxRecDepth 100000 in
theorem cX11_round_1 (l : Launch) (D : va_G) (cA : Nat → ClassId) (q0 q1 q2 q3 q4 q5 q6 q7 q8 q9 q10 q11 q12 q13 q14 q15 q16 q17 q18 : Nat) (a0 : Int32) (g0 : a0.toInt ≤ -1) : ms_Mi l yX11_round wsX11_round ({ frames := 1, cells := 0, slots := 0, locals := 25 } : Room) D cA [.ref q0, .int a0] [(q0, .inr (11, [.ref q1, .ref q2, .ref q3, .ref q4, .int 0, .ref q5, .ref q6, .long 0, .ref q7, .int 0, .int (-1), .ref q8, .ref q9, .int 0, .ref q10, .int 0, .int 0, .int 0, .int 0, .int 0, .int 0, .int 0, .ref q11, .ref q12, .ref q13, .int 0, .ref q14, .ref q15, .ref q16, .ref q17, .int 0, .ref q18]))] (fun (r : Int32) (_ : Unit) => r = (-1000000002)) (fun (_ : Unit) => [(q0, .inr (11, [.ref q1, .ref q2, .ref q3, .ref q4, .int 0, .ref q5, .ref q6, .long 0, .ref q7, .int 0, .int (-1), .ref q8, .ref q9, .int 0, .ref q10, .int 0, .int 0, .int 0, .int 0, .int 0, .int 0, .int 0, .ref q11, .ref q12, .ref q13, .int 0, .ref q14, .ref q15, .ref q16, .ref q17, .int 0, .ref q18]))]) := by
  refine ms_Mi_of (cc := cX11_round) (maxL := 9) (ret := (some .int)) (by decide) rfl (Nat.le_of_ble_eq_true rfl) ?_
  intro p e s m args below meth c A ls hB hE hA hP hD hS hl
  obtain ⟨hx, hb, hr, hml, hown, hts, hlk, hnm⟩ := hB
  have hown : s.vm.findClass RX11 = some m.cls := hown
  have hl : lv_has ls 9 [(0, .ref q0), (1, .int a0)] := hl
  refine lv_iload_n hx hb dX11_round_0 rfl (lv_at hl 1 rfl) ?_
  refine lv_i2l (v := a0.toInt64) hx hb dX11_round_1 rfl ?_
  refine lv_lconst (v := 0) hx hb dX11_round_2 (by decide) ?_
  refine lv_ldc2 (v := 2) hx hb hown (hts (.constantLong RX11 264 (2)) (List.mem_cons_of_mem _ (List.mem_append_left _ (List.mem_of_getElem? (i := 0) rfl)))) dX11_round_3 ?_
  refine ms_cSi (wc := []) (wr := [(q0, .inr (11, [.ref q1, .ref q2, .ref q3, .ref q4, .int 0, .ref q5, .ref q6, .long 0, .ref q7, .int 0, .int (-1), .ref q8, .ref q9, .int 0, .ref q10, .int 0, .int 0, .int 0, .int 0, .int 0, .int 0, .int 0, .ref q11, .ref q12, .ref q13, .int 0, .ref q14, .ref q15, .ref q16, .ref q17, .int 0, .ref q18]))]) ⟨hx, hb, hml, hown, hts⟩ hE (c_in l D cA a0.toInt64 0 2) (va_cwS 3 hts gX11_round_X11_in rfl rfl rfl (by decide +kernel) ⟨Nat.le_of_ble_eq_true rfl, Nat.le_of_ble_eq_true rfl⟩) hP hD hS hA [] [0] rfl rfl rfl rfl (by decide) rfl hl.1 rfl (Nat.le_of_ble_eq_true rfl) dX11_round_6 ⟨Nat.le_of_ble_eq_true rfl, Nat.le_of_ble_eq_true rfl⟩ (fun r1 u2 H locs hp hP hD hS => ?_)
  have hp : r1 = 0 := by rw [hp]; have z3 : (0 : Int64).toInt = 0 := (by decide); have z4 : (2 : Int64).toInt = 2 := (by decide); have z5 : (a0.toInt64).toInt = a0.toInt := Int32.toInt_toInt64 _; exact if_neg (by omega)
  subst hp
  have hP : va_P D vwCl [(q0, .inr (11, [.ref q1, .ref q2, .ref q3, .ref q4, .int 0, .ref q5, .ref q6, .long 0, .ref q7, .int 0, .int (-1), .ref q8, .ref q9, .int 0, .ref q10, .int 0, .int 0, .int 0, .int 0, .int 0, .int 0, .int 0, .ref q11, .ref q12, .ref q13, .int 0, .ref q14, .ref q15, .ref q16, .ref q17, .int 0, .ref q18]))] H := hP
  have hD : va_D A [(q0, .inr (11, [.ref q1, .ref q2, .ref q3, .ref q4, .int 0, .ref q5, .ref q6, .long 0, .ref q7, .int 0, .int (-1), .ref q8, .ref q9, .int 0, .ref q10, .int 0, .int 0, .int 0, .int 0, .int 0, .int 0, .int 0, .ref q11, .ref q12, .ref q13, .int 0, .ref q14, .ref q15, .ref q16, .ref q17, .int 0, .ref q18]))] := hD
  refine lv_if_ne (tgt := 15) hx hb dX11_round_9 (by decide) (fun c => absurd (by decide) c) (fun _ => ?_)
  refine lv_ldc (v := (-1000000002)) hx hb hown (hts (.constant RX11 87 (-1000000002)) (List.mem_cons_of_mem _ (List.mem_append_left _ (List.mem_of_getElem? (i := 1) rfl)))) dX11_round_12 ?_
  exact ms_iret hx hb hr hlk () rfl hP hD hS (Nat.le_of_ble_eq_true rfl) (Nat.le_of_ble_eq_true rfl) dX11_round_14
set_option maxHeartbeats 4000000 in
set_option maxRecDepth 100000 in
theorem cX7_seek_1 (l : Launch) (D : va_G) (cA : Nat → ClassId) (q0 q1 q2 q3 q4 q5 q6 q7 q8 q9 q10 : Nat) : ms_Mi l yX7_seek wsX7_seek ({ frames := 0, cells := 0, slots := 0, locals := 0 } : Room) D cA [.ref q0, .ref q1, .ref q2] [(q0, .inr (7, [.int 0, .int 0, .int 0, .int 0])), (q1, .inr (2, [.int 0, .int 0, .int 0, .int 0, .int 0, .ref q3, .ref q4, .ref q5, .ref q6, .ref q7, .ref q8, .ref q9, .ref q10]))] (fun (r : Int32) (_ : Unit) => r = 0) (fun (_ : Unit) => [(q0, .inr (7, [.int 0, .int 0, .int 0, .int 0])), (q1, .inr (2, [.int 0, .int 0, .int 0, .int 0, .int 0, .ref q3, .ref q4, .ref q5, .ref q6, .ref q7, .ref q8, .ref q9, .ref q10]))]) := by
  refine ms_Mi_of (cc := cX7_seek) (maxL := 4) (ret := (some .boolean)) (by decide) rfl (Nat.le_of_ble_eq_true rfl) ?_
  intro p e s m args below meth c A ls hB hE hA hP hD hS hl
  obtain ⟨hx, hb, hr, hml, hown, hts, hlk, hnm⟩ := hB
  have hown : s.vm.findClass RX7 = some m.cls := hown
  have hnX2 : ∀ w ∈ u_ws RX2 TX2 13, w ∈ wsX7_seek := fun _ h => List.mem_cons_of_mem _ (List.mem_append_right _ (h))
  have hnX7 : ∀ w ∈ u_ws RX7 TX7 4, w ∈ wsX7_seek := fun _ h => List.mem_cons_of_mem _ (List.mem_append_left _ (List.mem_append_right _ (h)))
  have hl : lv_has ls 4 [(0, .ref q0), (1, .ref q1), (2, .ref q2)] := hl
  refine lv_aload_n hx hb dX7_seek_0 rfl (lv_at hl 0 rfl) ?_
  refine lv_iconst (v := 0) hx hb dX7_seek_1 (by decide) ?_
  refine va_put (D := D) (ci := 7) (v := .int 0) (ty := tyX7 1) (C := RX7) (T := TX7) (N := 4) hx hb hts hnX7 tyX7 tyX7_ok nmX7 hown hE.1 hP hD hS 0 rfl rfl 1 (by decide) (hts (.fieldLink RX7 9 "MovedStones$Rounds" "townSet" "I") (List.mem_cons_of_mem _ (List.mem_append_left _ (List.mem_append_left _ (List.mem_append_left _ (List.mem_of_getElem? (i := 0) rfl)))))) (fun _ h9 => h9) rfl (tyX7_ok 1 (by decide)) rfl rfl (Nat.le_of_ble_eq_true rfl) dX7_seek_2 (fun H locs hP hD hS => ?_)
  have hP : va_P D vwCl [(q0, .inr (7, [.int 0, .int 0, .int 0, .int 0])), (q1, .inr (2, [.int 0, .int 0, .int 0, .int 0, .int 0, .ref q3, .ref q4, .ref q5, .ref q6, .ref q7, .ref q8, .ref q9, .ref q10]))] H := hP
  have hD : va_D A [(q0, .inr (7, [.int 0, .int 0, .int 0, .int 0])), (q1, .inr (2, [.int 0, .int 0, .int 0, .int 0, .int 0, .ref q3, .ref q4, .ref q5, .ref q6, .ref q7, .ref q8, .ref q9, .ref q10]))] := hD
  refine lv_aload_n hx hb dX7_seek_5 rfl (lv_at hl 0 rfl) ?_
  refine lv_iconst (v := 0) hx hb dX7_seek_6 (by decide) ?_
  refine va_put (D := D) (ci := 7) (v := .int 0) (ty := tyX7 2) (C := RX7) (T := TX7) (N := 4) hx hb hts hnX7 tyX7 tyX7_ok nmX7 hown hE.1 hP hD hS 0 rfl rfl 2 (by decide) (hts (.fieldLink RX7 15 "MovedStones$Rounds" "roadSet" "I") (List.mem_cons_of_mem _ (List.mem_append_left _ (List.mem_append_left _ (List.mem_append_left _ (List.mem_of_getElem? (i := 1) rfl)))))) (fun _ h9 => h9) rfl (tyX7_ok 2 (by decide)) rfl rfl (Nat.le_of_ble_eq_true rfl) dX7_seek_7 (fun H locs hP hD hS => ?_)
  have hP : va_P D vwCl [(q0, .inr (7, [.int 0, .int 0, .int 0, .int 0])), (q1, .inr (2, [.int 0, .int 0, .int 0, .int 0, .int 0, .ref q3, .ref q4, .ref q5, .ref q6, .ref q7, .ref q8, .ref q9, .ref q10]))] H := hP
  have hD : va_D A [(q0, .inr (7, [.int 0, .int 0, .int 0, .int 0])), (q1, .inr (2, [.int 0, .int 0, .int 0, .int 0, .int 0, .ref q3, .ref q4, .ref q5, .ref q6, .ref q7, .ref q8, .ref q9, .ref q10]))] := hD
  refine lv_aload_n hx hb dX7_seek_10 rfl (lv_at hl 0 rfl) ?_
  refine lv_iconst (v := 0) hx hb dX7_seek_11 (by decide) ?_
  refine va_put (D := D) (ci := 7) (v := .int 0) (ty := tyX7 0) (C := RX7) (T := TX7) (N := 4) hx hb hts hnX7 tyX7 tyX7_ok nmX7 hown hE.1 hP hD hS 0 rfl rfl 0 (by decide) (hts (.fieldLink RX7 18 "MovedStones$Rounds" "gain" "I") (List.mem_cons_of_mem _ (List.mem_append_left _ (List.mem_append_left _ (List.mem_append_left _ (List.mem_of_getElem? (i := 2) rfl)))))) (fun _ h9 => h9) rfl (tyX7_ok 0 (by decide)) rfl rfl (Nat.le_of_ble_eq_true rfl) dX7_seek_12 (fun H locs hP hD hS => ?_)
  have hP : va_P D vwCl [(q0, .inr (7, [.int 0, .int 0, .int 0, .int 0])), (q1, .inr (2, [.int 0, .int 0, .int 0, .int 0, .int 0, .ref q3, .ref q4, .ref q5, .ref q6, .ref q7, .ref q8, .ref q9, .ref q10]))] H := hP
  have hD : va_D A [(q0, .inr (7, [.int 0, .int 0, .int 0, .int 0])), (q1, .inr (2, [.int 0, .int 0, .int 0, .int 0, .int 0, .ref q3, .ref q4, .ref q5, .ref q6, .ref q7, .ref q8, .ref q9, .ref q10]))] := hD
  refine lv_iconst (v := 0) hx hb dX7_seek_15 (by decide) ?_
  refine lv_istore_n (lv' := [(3, .int 0), (0, .ref q0), (1, .ref q1), (2, .ref q2)]) hx hb dX7_seek_16 rfl hl (by decide) rfl (fun ls hl => ?_)
  refine lv_iload_n hx hb dX7_seek_17 rfl (lv_at hl 0 rfl) ?_
  refine lv_aload_n hx hb dX7_seek_18 rfl (lv_at hl 2 rfl) ?_
  refine va_get (D := D) (ci := 2) (v := .int 0) (C := RX2) (T := TX2) (N := 13) hx hb hts hnX2 hown hE.1 hP 1 rfl rfl 0 (by decide) (hts (.fieldLink RX7 21 "MovedStones$Land" "towns" "I") (List.mem_cons_of_mem _ (List.mem_append_left _ (List.mem_append_left _ (List.mem_append_left _ (List.mem_of_getElem? (i := 3) rfl)))))) (fun _ h9 => h9) rfl dX7_seek_19 ?_
  refine lv_icmp_ge (tgt := 48) hx hb dX7_seek_22 (by decide) (fun _ => ?_) (fun c => absurd (by decide) c)
  refine lv_aload_n hx hb dX7_seek_48 rfl (lv_at hl 1 rfl) ?_
  refine va_get (D := D) (ci := 7) (v := .int 0) (C := RX7) (T := TX7) (N := 4) hx hb hts hnX7 hown hE.1 hP 0 rfl rfl 2 (by decide) (hts (.fieldLink RX7 15 "MovedStones$Rounds" "roadSet" "I") (List.mem_cons_of_mem _ (List.mem_append_left _ (List.mem_append_left _ (List.mem_append_left _ (List.mem_of_getElem? (i := 1) rfl)))))) (fun _ h9 => h9) rfl dX7_seek_49 ?_
  refine lv_if_eq (tgt := 59) hx hb dX7_seek_52 (by decide) (fun _ => ?_) (fun c => absurd (by decide) c)
  refine lv_iconst (v := 0) hx hb dX7_seek_59 (by decide) ?_
  exact ms_zret hx hb hr rfl hlk () rfl hP hD hS (Nat.le_of_ble_eq_true rfl) (Nat.le_of_ble_eq_true rfl) dX7_seek_60
set_option maxHeartbeats 4000000 in
set_option maxRecDepth 100000 in
theorem cX10_round_2 (l : Launch) (D : va_G) (cA : Nat → ClassId) (q0 q1 q2 q3 q4 q5 q6 q7 q8 q9 q10 q11 q12 q13 q14 q15 q16 q17 q18 q19 q20 : Nat) (a0 : Int32) (g0 : 0 ≤ a0.toInt) (g1 : a0.toInt ≤ 2) : ms_Mi l yX10_round wsX10_round ({ frames := 1, cells := 0, slots := 0, locals := 23 } : Room) D cA [.ref q0, .int a0] [(q0, .inr (10, [.ref q4, .ref q3, .ref q1, .ref q5, .ref q6, .int 0, .ref q7, .ref q8, .ref q9, .ref q10, .ref q2, .ref q11])), (q1, .inr (8, [.ref q12, .int 0, .int 0, .int 0, .int (-1), .int (-1)])), (q2, .inr (7, [.int 0, .int 0, .int 0, .int 0])), (q3, .inr (2, [.int 0, .int 0, .int 0, .int 0, .int 0, .ref q13, .ref q14, .ref q15, .ref q16, .ref q17, .ref q18, .ref q19, .ref q20]))] (fun (r : Int32) (_ : Unit) => r = (-1)) (fun (_ : Unit) => [(q0, .inr (10, [.ref q4, .ref q3, .ref q1, .ref q5, .ref q6, .int 0, .ref q7, .ref q8, .ref q9, .ref q10, .ref q2, .ref q11])), (q1, .inr (8, [.ref q12, .int 0, .int 0, .int 0, .int (-1), .int (-1)])), (q2, .inr (7, [.int 0, .int 0, .int 0, .int 0])), (q3, .inr (2, [.int 0, .int 0, .int 0, .int 0, .int 0, .ref q13, .ref q14, .ref q15, .ref q16, .ref q17, .ref q18, .ref q19, .ref q20]))]) := by
  refine ms_Mi_of (cc := cX10_round) (maxL := 2) (ret := (some .int)) (by decide) rfl (Nat.le_of_ble_eq_true rfl) ?_
  intro p e s m args below meth c A ls hB hE hA hP hD hS hl
  obtain ⟨hx, hb, hr, hml, hown, hts, hlk, hnm⟩ := hB
  have hown : s.vm.findClass RX10 = some m.cls := hown
  have hnX8 : ∀ w ∈ u_ws RX8 TX8 6, w ∈ wsX10_round := fun _ h => List.mem_cons_of_mem _ (List.mem_append_left _ (List.mem_append_left _ (List.mem_append_right _ (h))))
  have hnX10 : ∀ w ∈ u_ws RX10 TX10 12, w ∈ wsX10_round := fun _ h => List.mem_cons_of_mem _ (List.mem_append_left _ (List.mem_append_left _ (List.mem_append_left _ (List.mem_append_right _ (h)))))
  have hl : lv_has ls 2 [(0, .ref q0), (1, .int a0)] := hl
  refine lv_iload_n hx hb dX10_round_0 rfl (lv_at hl 1 rfl) ?_
  refine lv_if_lt (tgt := 9) hx hb dX10_round_1 (by decide) (fun c => by exfalso; have hc1 := Int32.lt_iff_toInt_lt.mp c; have z2 : (0 : Int32).toInt = 0 := (by decide); omega) (fun _ => ?_)
  refine lv_iload_n hx hb dX10_round_4 rfl (lv_at hl 1 rfl) ?_
  refine lv_iconst (v := 2) hx hb dX10_round_5 (by decide) ?_
  refine lv_icmp_le (tgt := 12) hx hb dX10_round_6 (by decide) (fun _ => ?_) (fun c => by exfalso; have hc3 := mt Int32.le_iff_toInt_le.mpr c; have z4 : (2 : Int32).toInt = 2 := (by decide); omega)
  refine lv_aload_n hx hb dX10_round_12 rfl (lv_at hl 0 rfl) ?_
  refine va_get (D := D) (ci := 10) (v := .ref q2) (C := RX10) (T := TX10) (N := 12) hx hb hts hnX10 hown hE.1 hP 0 rfl rfl 10 (by decide) (hts (.fieldLink RX10 75 "MovedStones" "rounds" "LMovedStones$Rounds;") (List.mem_cons_of_mem _ (List.mem_append_left _ (List.mem_append_left _ (List.mem_append_left _ (List.mem_append_left _ (List.mem_append_left _ (List.mem_of_getElem? (i := 1) rfl)))))))) (fun _ h9 => h9) rfl dX10_round_13 ?_
  refine lv_aload_n hx hb dX10_round_16 rfl (lv_at hl 0 rfl) ?_
  refine va_get (D := D) (ci := 10) (v := .ref q3) (C := RX10) (T := TX10) (N := 12) hx hb hts hnX10 hown hE.1 hP 0 rfl rfl 1 (by decide) (hts (.fieldLink RX10 19 "MovedStones" "land" "LMovedStones$Land;") (List.mem_cons_of_mem _ (List.mem_append_left _ (List.mem_append_left _ (List.mem_append_left _ (List.mem_append_left _ (List.mem_append_left _ (List.mem_of_getElem? (i := 2) rfl)))))))) (fun _ h9 => h9) rfl dX10_round_17 ?_
  refine lv_aload_n hx hb dX10_round_20 rfl (lv_at hl 0 rfl) ?_
  refine va_get (D := D) (ci := 10) (v := .ref q1) (C := RX10) (T := TX10) (N := 12) hx hb hts hnX10 hown hE.1 hP 0 rfl rfl 2 (by decide) (hts (.fieldLink RX10 26 "MovedStones" "now" "LMovedStones$State;") (List.mem_cons_of_mem _ (List.mem_append_left _ (List.mem_append_left _ (List.mem_append_left _ (List.mem_append_left _ (List.mem_append_left _ (List.mem_of_getElem? (i := 3) rfl)))))))) (fun _ h9 => h9) rfl dX10_round_21 ?_
  refine va_get (D := D) (ci := 8) (v := .ref q12) (C := RX8) (T := TX8) (N := 6) hx hb hts hnX8 hown hE.1 hP 1 rfl rfl 0 (by decide) (hts (.fieldLink RX10 140 "MovedStones$State" "miles" "[I") (List.mem_cons_of_mem _ (List.mem_append_left _ (List.mem_append_left _ (List.mem_append_left _ (List.mem_append_left _ (List.mem_append_left _ (List.mem_of_getElem? (i := 4) rfl)))))))) (fun _ h9 => h9) rfl dX10_round_24 ?_
  refine ms_cVi (qc := (RX7, TX7, 4)) (wc := [(q2, .inr (7, [.int 0, .int 0, .int 0, .int 0])), (q3, .inr (2, [.int 0, .int 0, .int 0, .int 0, .int 0, .ref q13, .ref q14, .ref q15, .ref q16, .ref q17, .ref q18, .ref q19, .ref q20]))]) (wr := [(q0, .inr (10, [.ref q4, .ref q3, .ref q1, .ref q5, .ref q6, .int 0, .ref q7, .ref q8, .ref q9, .ref q10, .ref q2, .ref q11])), (q1, .inr (8, [.ref q12, .int 0, .int 0, .int 0, .int (-1), .int (-1)]))]) ⟨hx, hb, hml, hown, hts⟩ hE (cX7_seek_1 l D cA q2 q3 q12 q13 q14 q15 q16 q17 q18 q19 q20) (cwV 2 hts gX10_round_X7_seek rfl rfl rfl (by decide +kernel) ⟨Nat.le_of_ble_eq_true rfl, Nat.le_of_ble_eq_true rfl⟩) hP hD hS hA [2, 3] [0, 1] rfl rfl rfl rfl (by decide) 0 7 rfl rfl rfl hl.1 rfl (Nat.le_of_ble_eq_true rfl) dX10_round_27 ⟨Nat.le_of_ble_eq_true rfl, Nat.le_of_ble_eq_true rfl⟩ (fun r6 u5 H locs hp hP hD hS => ?_)
  subst hp
  have hP : va_P D vwCl [(q0, .inr (10, [.ref q4, .ref q3, .ref q1, .ref q5, .ref q6, .int 0, .ref q7, .ref q8, .ref q9, .ref q10, .ref q2, .ref q11])), (q1, .inr (8, [.ref q12, .int 0, .int 0, .int 0, .int (-1), .int (-1)])), (q2, .inr (7, [.int 0, .int 0, .int 0, .int 0])), (q3, .inr (2, [.int 0, .int 0, .int 0, .int 0, .int 0, .ref q13, .ref q14, .ref q15, .ref q16, .ref q17, .ref q18, .ref q19, .ref q20]))] H := hP
  have hD : va_D A [(q0, .inr (10, [.ref q4, .ref q3, .ref q1, .ref q5, .ref q6, .int 0, .ref q7, .ref q8, .ref q9, .ref q10, .ref q2, .ref q11])), (q1, .inr (8, [.ref q12, .int 0, .int 0, .int 0, .int (-1), .int (-1)])), (q2, .inr (7, [.int 0, .int 0, .int 0, .int 0])), (q3, .inr (2, [.int 0, .int 0, .int 0, .int 0, .int 0, .ref q13, .ref q14, .ref q15, .ref q16, .ref q17, .ref q18, .ref q19, .ref q20]))] := hD
  refine lv_if_ne (tgt := 35) hx hb dX10_round_30 (by decide) (fun c => absurd (by decide) c) (fun _ => ?_)
  refine lv_iconst (v := (-1)) hx hb dX10_round_33 (by decide) ?_
  exact ms_iret hx hb hr hlk () rfl hP hD hS (Nat.le_of_ble_eq_true rfl) (Nat.le_of_ble_eq_true rfl) dX10_round_34
set_option maxHeartbeats 4000000 in
set_option maxRecDepth 100000 in
theorem cX11_round_2 (l : Launch) (D : va_G) (cA : Nat → ClassId) (q0 q1 q2 q3 q4 q5 q6 q7 q8 q9 q10 q11 q12 q13 q14 q15 q16 q17 q18 : Nat) (a0 : Int32) (g0 : 0 ≤ a0.toInt) (g1 : a0.toInt ≤ 2) : ms_Mi l yX11_round wsX11_round ({ frames := 1, cells := 0, slots := 0, locals := 25 } : Room) D cA [.ref q0, .int a0] [(q0, .inr (11, [.ref q1, .ref q2, .ref q3, .ref q4, .int 0, .ref q5, .ref q6, .long 0, .ref q7, .int 0, .int (-1), .ref q8, .ref q9, .int 0, .ref q10, .int 0, .int 0, .int 0, .int 0, .int 0, .int 0, .int 0, .ref q11, .ref q12, .ref q13, .int 0, .ref q14, .ref q15, .ref q16, .ref q17, .int 0, .ref q18])), (q1, .inl (cA 0, 68, .inl ms_z))] (fun (r : Int32) (_ : Unit) => r = (-1)) (fun (_ : Unit) => [(q0, .inr (11, [.ref q1, .ref q2, .ref q3, .ref q4, .int 0, .ref q5, .ref q6, .long 0, .ref q7, .int 0, .int (-1), .ref q8, .ref q9, .int 0, .ref q10, .int 0, .int 0, .int 0, .int 0, .int 0, .int 0, .int 0, .ref q11, .ref q12, .ref q13, .int 0, .ref q14, .ref q15, .ref q16, .ref q17, .int 0, .ref q18])), (q1, .inl (cA 0, 68, .inl ms_z))]) := by
  refine ms_Mi_of (cc := cX11_round) (maxL := 9) (ret := (some .int)) (by decide) rfl (Nat.le_of_ble_eq_true rfl) ?_
  intro p e s m args below meth c A ls hB hE hA hP hD hS hl
  obtain ⟨hx, hb, hr, hml, hown, hts, hlk, hnm⟩ := hB
  have hown : s.vm.findClass RX11 = some m.cls := hown
  have hnX11 : ∀ w ∈ u_ws RX11 TX11 32, w ∈ wsX11_round := fun _ h => List.mem_cons_of_mem _ (List.mem_append_right _ (h))
  have hl : lv_has ls 9 [(0, .ref q0), (1, .int a0)] := hl
  refine lv_iload_n hx hb dX11_round_0 rfl (lv_at hl 1 rfl) ?_
  refine lv_i2l (v := a0.toInt64) hx hb dX11_round_1 rfl ?_
  refine lv_lconst (v := 0) hx hb dX11_round_2 (by decide) ?_
  refine lv_ldc2 (v := 2) hx hb hown (hts (.constantLong RX11 264 (2)) (List.mem_cons_of_mem _ (List.mem_append_left _ (List.mem_of_getElem? (i := 0) rfl)))) dX11_round_3 ?_
  refine ms_cSi (wc := []) (wr := [(q0, .inr (11, [.ref q1, .ref q2, .ref q3, .ref q4, .int 0, .ref q5, .ref q6, .long 0, .ref q7, .int 0, .int (-1), .ref q8, .ref q9, .int 0, .ref q10, .int 0, .int 0, .int 0, .int 0, .int 0, .int 0, .int 0, .ref q11, .ref q12, .ref q13, .int 0, .ref q14, .ref q15, .ref q16, .ref q17, .int 0, .ref q18])), (q1, .inl (cA 0, 68, .inl ms_z))]) ⟨hx, hb, hml, hown, hts⟩ hE (c_in l D cA a0.toInt64 0 2) (va_cwS 3 hts gX11_round_X11_in rfl rfl rfl (by decide +kernel) ⟨Nat.le_of_ble_eq_true rfl, Nat.le_of_ble_eq_true rfl⟩) hP hD hS hA [] [0, 1] rfl rfl rfl rfl (by decide) rfl hl.1 rfl (Nat.le_of_ble_eq_true rfl) dX11_round_6 ⟨Nat.le_of_ble_eq_true rfl, Nat.le_of_ble_eq_true rfl⟩ (fun r1 u2 H locs hp hP hD hS => ?_)
  have hp : r1 = 1 := by rw [hp]; have z3 : (0 : Int64).toInt = 0 := (by decide); have z4 : (2 : Int64).toInt = 2 := (by decide); have z5 : (a0.toInt64).toInt = a0.toInt := Int32.toInt_toInt64 _; exact if_pos (by omega)
  subst hp
  have hP : va_P D vwCl [(q0, .inr (11, [.ref q1, .ref q2, .ref q3, .ref q4, .int 0, .ref q5, .ref q6, .long 0, .ref q7, .int 0, .int (-1), .ref q8, .ref q9, .int 0, .ref q10, .int 0, .int 0, .int 0, .int 0, .int 0, .int 0, .int 0, .ref q11, .ref q12, .ref q13, .int 0, .ref q14, .ref q15, .ref q16, .ref q17, .int 0, .ref q18])), (q1, .inl (cA 0, 68, .inl ms_z))] H := hP
  have hD : va_D A [(q0, .inr (11, [.ref q1, .ref q2, .ref q3, .ref q4, .int 0, .ref q5, .ref q6, .long 0, .ref q7, .int 0, .int (-1), .ref q8, .ref q9, .int 0, .ref q10, .int 0, .int 0, .int 0, .int 0, .int 0, .int 0, .int 0, .ref q11, .ref q12, .ref q13, .int 0, .ref q14, .ref q15, .ref q16, .ref q17, .int 0, .ref q18])), (q1, .inl (cA 0, 68, .inl ms_z))] := hD
  refine lv_if_ne (tgt := 15) hx hb dX11_round_9 (by decide) (fun _ => ?_) (fun c => absurd c (by decide))
  refine lv_iconst (v := 0) hx hb dX11_round_15 (by decide) ?_
  refine lv_istore_n (lv' := [(2, .int 0), (0, .ref q0), (1, .int a0)]) hx hb dX11_round_16 rfl hl (by decide) rfl (fun ls hl => ?_)
  refine lv_iconst (v := 0) hx hb dX11_round_17 (by decide) ?_
  refine lv_istore_n (lv' := [(3, .int 0), (2, .int 0), (0, .ref q0), (1, .int a0)]) hx hb dX11_round_18 rfl hl (by decide) rfl (fun ls hl => ?_)
  refine lv_ldcw (v := (-1000000)) hx hb hown (hts (.constant RX11 266 (-1000000)) (List.mem_cons_of_mem _ (List.mem_append_left _ (List.mem_of_getElem? (i := 2) rfl)))) dX11_round_19 ?_
  refine lv_istore (lv' := [(4, .int (-1000000)), (3, .int 0), (2, .int 0), (0, .ref q0), (1, .int a0)]) hx hb dX11_round_22 hl (by decide) rfl (fun ls hl => ?_)
  refine lv_iconst (v := 1) hx hb dX11_round_24 (by decide) ?_
  refine lv_istore (lv' := [(5, .int 1), (4, .int (-1000000)), (3, .int 0), (2, .int 0), (0, .ref q0), (1, .int a0)]) hx hb dX11_round_25 hl (by decide) rfl (fun ls hl => ?_)
  refine lv_iload hx hb dX11_round_27 (lv_at hl 0 rfl) ?_
  refine lv_iconst (v := 1) hx hb dX11_round_29 (by decide) ?_
  refine lv_aload_n hx hb dX11_round_30 rfl (lv_at hl 4 rfl) ?_
  refine va_get (D := D) (ci := 11) (v := .ref q1) (C := RX11) (T := TX11) (N := 32) hx hb hts hnX11 hown hE.1 hP 0 rfl rfl 0 (by decide) (hts (.fieldLink RX11 7 "MovedStonesModel" "march" "[I") (List.mem_cons_of_mem _ (List.mem_append_left _ (List.mem_of_getElem? (i := 3) rfl)))) (fun _ h9 => h9) rfl dX11_round_31 ?_
  refine lv_iconst (v := 3) hx hb dX11_round_34 (by decide) ?_
  refine ms_iald (x := 0) hx hb hE hP 1 rfl 3 rfl (by omega) (by decide) (rfl) dX11_round_35 ?_
  refine lv_ishl hx hb dX11_round_36 ?_
  refine ms_eqi (y := 1) (by decide) ?_
  refine lv_icmp_ge (tgt := 184) hx hb dX11_round_37 (by decide) (fun _ => ?_) (fun c => absurd (by decide) c)
  refine lv_iload_n hx hb dX11_round_184 rfl (lv_at hl 3 rfl) ?_
  refine lv_if_ne (tgt := 192) hx hb dX11_round_185 (by decide) (fun c => absurd (by decide) c) (fun _ => ?_)
  refine lv_iconst (v := (-1)) hx hb dX11_round_188 (by decide) ?_
  refine lv_goto (tgt := 215) hx hb dX11_round_189 (by decide) ?_
  exact ms_iret hx hb hr hlk () rfl hP hD hS (Nat.le_of_ble_eq_true rfl) (Nat.le_of_ble_eq_true rfl) dX11_round_215
set_option maxHeartbeats 4000000 in
set_option maxRecDepth 100000 in
theorem cX10_round_3 (l : Launch) (D : va_G) (cA : Nat → ClassId) (q0 q1 q2 q3 q4 q5 q6 q7 q8 q9 q10 q11 : Nat) (a0 : Int32) (g0 : 3 ≤ a0.toInt) : ms_Mi l yX10_round wsX10_round ({ frames := 0, cells := 0, slots := 0, locals := 0 } : Room) D cA [.ref q0, .int a0] [(q0, .inr (10, [.ref q1, .ref q2, .ref q3, .ref q4, .ref q5, .int 0, .ref q6, .ref q7, .ref q8, .ref q9, .ref q10, .ref q11]))] (fun (r : Int32) (_ : Unit) => r = (-1000000002)) (fun (_ : Unit) => [(q0, .inr (10, [.ref q1, .ref q2, .ref q3, .ref q4, .ref q5, .int 0, .ref q6, .ref q7, .ref q8, .ref q9, .ref q10, .ref q11]))]) := by
  refine ms_Mi_of (cc := cX10_round) (maxL := 2) (ret := (some .int)) (by decide) rfl (Nat.le_of_ble_eq_true rfl) ?_
  intro p e s m args below meth c A ls hB hE hA hP hD hS hl
  obtain ⟨hx, hb, hr, hml, hown, hts, hlk, hnm⟩ := hB
  have hown : s.vm.findClass RX10 = some m.cls := hown
  have hl : lv_has ls 2 [(0, .ref q0), (1, .int a0)] := hl
  refine lv_iload_n hx hb dX10_round_0 rfl (lv_at hl 1 rfl) ?_
  refine lv_if_lt (tgt := 9) hx hb dX10_round_1 (by decide) (fun c => by exfalso; have hc1 := Int32.lt_iff_toInt_lt.mp c; have z2 : (0 : Int32).toInt = 0 := (by decide); omega) (fun _ => ?_)
  refine lv_iload_n hx hb dX10_round_4 rfl (lv_at hl 1 rfl) ?_
  refine lv_iconst (v := 2) hx hb dX10_round_5 (by decide) ?_
  refine lv_icmp_le (tgt := 12) hx hb dX10_round_6 (by decide) (fun c => by exfalso; have hc3 := Int32.le_iff_toInt_le.mp c; have z4 : (2 : Int32).toInt = 2 := (by decide); omega) (fun _ => ?_)
  refine lv_ldc (v := (-1000000002)) hx hb hown (hts (.constant RX10 83 (-1000000002)) (List.mem_cons_of_mem _ (List.mem_append_left _ (List.mem_append_left _ (List.mem_append_left _ (List.mem_append_left _ (List.mem_append_left _ (List.mem_of_getElem? (i := 0) rfl)))))))) dX10_round_9 ?_
  exact ms_iret hx hb hr hlk () rfl hP hD hS (Nat.le_of_ble_eq_true rfl) (Nat.le_of_ble_eq_true rfl) dX10_round_11
set_option maxHeartbeats 4000000 in
set_option maxRecDepth 100000 in
theorem cX11_round_3 (l : Launch) (D : va_G) (cA : Nat → ClassId) (q0 q1 q2 q3 q4 q5 q6 q7 q8 q9 q10 q11 q12 q13 q14 q15 q16 q17 q18 : Nat) (a0 : Int32) (g0 : 3 ≤ a0.toInt) : ms_Mi l yX11_round wsX11_round ({ frames := 1, cells := 0, slots := 0, locals := 25 } : Room) D cA [.ref q0, .int a0] [(q0, .inr (11, [.ref q1, .ref q2, .ref q3, .ref q4, .int 0, .ref q5, .ref q6, .long 0, .ref q7, .int 0, .int (-1), .ref q8, .ref q9, .int 0, .ref q10, .int 0, .int 0, .int 0, .int 0, .int 0, .int 0, .int 0, .ref q11, .ref q12, .ref q13, .int 0, .ref q14, .ref q15, .ref q16, .ref q17, .int 0, .ref q18]))] (fun (r : Int32) (_ : Unit) => r = (-1000000002)) (fun (_ : Unit) => [(q0, .inr (11, [.ref q1, .ref q2, .ref q3, .ref q4, .int 0, .ref q5, .ref q6, .long 0, .ref q7, .int 0, .int (-1), .ref q8, .ref q9, .int 0, .ref q10, .int 0, .int 0, .int 0, .int 0, .int 0, .int 0, .int 0, .ref q11, .ref q12, .ref q13, .int 0, .ref q14, .ref q15, .ref q16, .ref q17, .int 0, .ref q18]))]) := by
  refine ms_Mi_of (cc := cX11_round) (maxL := 9) (ret := (some .int)) (by decide) rfl (Nat.le_of_ble_eq_true rfl) ?_
  intro p e s m args below meth c A ls hB hE hA hP hD hS hl
  obtain ⟨hx, hb, hr, hml, hown, hts, hlk, hnm⟩ := hB
  have hown : s.vm.findClass RX11 = some m.cls := hown
  have hl : lv_has ls 9 [(0, .ref q0), (1, .int a0)] := hl
  refine lv_iload_n hx hb dX11_round_0 rfl (lv_at hl 1 rfl) ?_
  refine lv_i2l (v := a0.toInt64) hx hb dX11_round_1 rfl ?_
  refine lv_lconst (v := 0) hx hb dX11_round_2 (by decide) ?_
  refine lv_ldc2 (v := 2) hx hb hown (hts (.constantLong RX11 264 (2)) (List.mem_cons_of_mem _ (List.mem_append_left _ (List.mem_of_getElem? (i := 0) rfl)))) dX11_round_3 ?_
  refine ms_cSi (wc := []) (wr := [(q0, .inr (11, [.ref q1, .ref q2, .ref q3, .ref q4, .int 0, .ref q5, .ref q6, .long 0, .ref q7, .int 0, .int (-1), .ref q8, .ref q9, .int 0, .ref q10, .int 0, .int 0, .int 0, .int 0, .int 0, .int 0, .int 0, .ref q11, .ref q12, .ref q13, .int 0, .ref q14, .ref q15, .ref q16, .ref q17, .int 0, .ref q18]))]) ⟨hx, hb, hml, hown, hts⟩ hE (c_in l D cA a0.toInt64 0 2) (va_cwS 3 hts gX11_round_X11_in rfl rfl rfl (by decide +kernel) ⟨Nat.le_of_ble_eq_true rfl, Nat.le_of_ble_eq_true rfl⟩) hP hD hS hA [] [0] rfl rfl rfl rfl (by decide) rfl hl.1 rfl (Nat.le_of_ble_eq_true rfl) dX11_round_6 ⟨Nat.le_of_ble_eq_true rfl, Nat.le_of_ble_eq_true rfl⟩ (fun r1 u2 H locs hp hP hD hS => ?_)
  have hp : r1 = 0 := by rw [hp]; have z3 : (0 : Int64).toInt = 0 := (by decide); have z4 : (2 : Int64).toInt = 2 := (by decide); have z5 : (a0.toInt64).toInt = a0.toInt := Int32.toInt_toInt64 _; exact if_neg (by omega)
  subst hp
  have hP : va_P D vwCl [(q0, .inr (11, [.ref q1, .ref q2, .ref q3, .ref q4, .int 0, .ref q5, .ref q6, .long 0, .ref q7, .int 0, .int (-1), .ref q8, .ref q9, .int 0, .ref q10, .int 0, .int 0, .int 0, .int 0, .int 0, .int 0, .int 0, .ref q11, .ref q12, .ref q13, .int 0, .ref q14, .ref q15, .ref q16, .ref q17, .int 0, .ref q18]))] H := hP
  have hD : va_D A [(q0, .inr (11, [.ref q1, .ref q2, .ref q3, .ref q4, .int 0, .ref q5, .ref q6, .long 0, .ref q7, .int 0, .int (-1), .ref q8, .ref q9, .int 0, .ref q10, .int 0, .int 0, .int 0, .int 0, .int 0, .int 0, .int 0, .ref q11, .ref q12, .ref q13, .int 0, .ref q14, .ref q15, .ref q16, .ref q17, .int 0, .ref q18]))] := hD
  refine lv_if_ne (tgt := 15) hx hb dX11_round_9 (by decide) (fun c => absurd (by decide) c) (fun _ => ?_)
  refine lv_ldc (v := (-1000000002)) hx hb hown (hts (.constant RX11 87 (-1000000002)) (List.mem_cons_of_mem _ (List.mem_append_left _ (List.mem_of_getElem? (i := 1) rfl)))) dX11_round_12 ?_
  exact ms_iret hx hb hr hlk () rfl hP hD hS (Nat.le_of_ble_eq_true rfl) (Nat.le_of_ble_eq_true rfl) dX11_round_14
set_option maxHeartbeats 4000000 in
set_option maxRecDepth 100000 in
theorem cX10_deceive_1 (l : Launch) (D : va_G) (cA : Nat → ClassId) (q0 q1 q2 q3 q4 q5 q6 q7 q8 q9 q10 q11 q12 q13 q14 q15 q16 q17 q18 q19 : Nat) (a0 : Int32) (a1 : Int32) : ms_Mi l yX10_deceive wsX10_deceive ({ frames := 2, cells := 0, slots := 0, locals := 43 } : Room) D cA [.ref q0, .int a0, .int a1] [(q0, .inr (10, [.ref q2, .ref q1, .ref q3, .ref q4, .ref q5, .int 0, .ref q6, .ref q7, .ref q8, .ref q9, .ref q10, .ref q11])), (q1, .inr (2, [.int 0, .int 0, .int 0, .int 0, .int 0, .ref q12, .ref q13, .ref q14, .ref q15, .ref q16, .ref q17, .ref q18, .ref q19]))] (fun (r : Int32) (_ : Unit) => r = (-1000000001)) (fun (_ : Unit) => [(q0, .inr (10, [.ref q2, .ref q1, .ref q3, .ref q4, .ref q5, .int 0, .ref q6, .ref q7, .ref q8, .ref q9, .ref q10, .ref q11])), (q1, .inr (2, [.int 0, .int 0, .int 0, .int 0, .int 0, .ref q12, .ref q13, .ref q14, .ref q15, .ref q16, .ref q17, .ref q18, .ref q19]))]) := by
  refine ms_Mi_of (cc := cX10_deceive) (maxL := 8) (ret := (some .int)) (by decide) rfl (Nat.le_of_ble_eq_true rfl) ?_
  intro p e s m args below meth c A ls hB hE hA hP hD hS hl
  obtain ⟨hx, hb, hr, hml, hown, hts, hlk, hnm⟩ := hB
  have hown : s.vm.findClass RX10 = some m.cls := hown
  have hl : lv_has ls 8 [(0, .ref q0), (1, .int a0), (2, .int a1)] := hl
  refine lv_aload_n hx hb dX10_deceive_0 rfl (lv_at hl 0 rfl) ?_
  refine lv_iload_n hx hb dX10_deceive_1 rfl (lv_at hl 1 rfl) ?_
  refine lv_iload_n hx hb dX10_deceive_2 rfl (lv_at hl 2 rfl) ?_
  refine ms_cVi (qc := (RX10, TX10, 12)) (wc := [(q0, .inr (10, [.ref q2, .ref q1, .ref q3, .ref q4, .ref q5, .int 0, .ref q6, .ref q7, .ref q8, .ref q9, .ref q10, .ref q11])), (q1, .inr (2, [.int 0, .int 0, .int 0, .int 0, .int 0, .ref q12, .ref q13, .ref q14, .ref q15, .ref q16, .ref q17, .ref q18, .ref q19]))]) (wr := []) ⟨hx, hb, hml, hown, hts⟩ hE (cX10_areTowns_1 l D cA q0 q1 q2 q3 q4 q5 q6 q7 q8 q9 q10 q11 q12 q13 q14 q15 q16 q17 q18 q19 a0 a1) (cwV 2 hts gX10_deceive_X10_areTowns rfl rfl rfl (by decide +kernel) ⟨Nat.le_of_ble_eq_true rfl, Nat.le_of_ble_eq_true rfl⟩) hP hD hS hA [0, 1] [] rfl rfl rfl rfl (by decide) 0 10 rfl rfl rfl hl.1 rfl (Nat.le_of_ble_eq_true rfl) dX10_deceive_3 ⟨Nat.le_of_ble_eq_true rfl, Nat.le_of_ble_eq_true rfl⟩ (fun r2 u1 H locs hp hP hD hS => ?_)
  subst hp
  have hP : va_P D vwCl [(q0, .inr (10, [.ref q2, .ref q1, .ref q3, .ref q4, .ref q5, .int 0, .ref q6, .ref q7, .ref q8, .ref q9, .ref q10, .ref q11])), (q1, .inr (2, [.int 0, .int 0, .int 0, .int 0, .int 0, .ref q12, .ref q13, .ref q14, .ref q15, .ref q16, .ref q17, .ref q18, .ref q19]))] H := hP
  have hD : va_D A [(q0, .inr (10, [.ref q2, .ref q1, .ref q3, .ref q4, .ref q5, .int 0, .ref q6, .ref q7, .ref q8, .ref q9, .ref q10, .ref q11])), (q1, .inr (2, [.int 0, .int 0, .int 0, .int 0, .int 0, .ref q12, .ref q13, .ref q14, .ref q15, .ref q16, .ref q17, .ref q18, .ref q19]))] := hD
  refine lv_if_ne (tgt := 12) hx hb dX10_deceive_6 (by decide) (fun c => absurd (by decide) c) (fun _ => ?_)
  refine lv_ldc (v := (-1000000001)) hx hb hown (hts (.constant RX10 178 (-1000000001)) (List.mem_cons_of_mem _ (List.mem_append_left _ (List.mem_append_left _ (List.mem_append_left _ (List.mem_append_left _ (List.mem_append_left _ (List.mem_of_getElem? (i := 0) rfl)))))))) dX10_deceive_9 ?_
  exact ms_iret hx hb hr hlk () rfl hP hD hS (Nat.le_of_ble_eq_true rfl) (Nat.le_of_ble_eq_true rfl) dX10_deceive_11
set_option maxHeartbeats 4000000 in
set_option maxRecDepth 100000 in
theorem cX11_deceive_1 (l : Launch) (D : va_G) (cA : Nat → ClassId) (q0 q1 q2 q3 q4 q5 q6 q7 q8 q9 q10 q11 q12 q13 q14 q15 q16 q17 q18 : Nat) (a0 : Int32) (a1 : Int32) : ms_Mi l yX11_deceive wsX11_deceive ({ frames := 3, cells := 0, slots := 0, locals := 68 } : Room) D cA [.ref q0, .int a0, .int a1] [(q0, .inr (11, [.ref q1, .ref q2, .ref q3, .ref q4, .int 0, .ref q5, .ref q6, .long 0, .ref q7, .int 0, .int (-1), .ref q8, .ref q9, .int 0, .ref q10, .int 0, .int 0, .int 0, .int 0, .int 0, .int 0, .int 0, .ref q11, .ref q12, .ref q13, .int 0, .ref q14, .ref q15, .ref q16, .ref q17, .int 0, .ref q18])), (q1, .inl (cA 0, 68, .inl ms_z))] (fun (r : Int32) (_ : Unit) => r = (-1000000001)) (fun (_ : Unit) => [(q0, .inr (11, [.ref q1, .ref q2, .ref q3, .ref q4, .int 0, .ref q5, .ref q6, .long 0, .ref q7, .int 0, .int (-1), .ref q8, .ref q9, .int 0, .ref q10, .int 0, .int 0, .int 0, .int 0, .int 0, .int 0, .int 0, .ref q11, .ref q12, .ref q13, .int 0, .ref q14, .ref q15, .ref q16, .ref q17, .int 0, .ref q18])), (q1, .inl (cA 0, 68, .inl ms_z))]) := by
  refine ms_Mi_of (cc := cX11_deceive) (maxL := 8) (ret := (some .int)) (by decide) rfl (Nat.le_of_ble_eq_true rfl) ?_
  intro p e s m args below meth c A ls hB hE hA hP hD hS hl
  obtain ⟨hx, hb, hr, hml, hown, hts, hlk, hnm⟩ := hB
  have hown : s.vm.findClass RX11 = some m.cls := hown
  have hl : lv_has ls 8 [(0, .ref q0), (1, .int a0), (2, .int a1)] := hl
  refine lv_aload_n hx hb dX11_deceive_0 rfl (lv_at hl 0 rfl) ?_
  refine lv_iload_n hx hb dX11_deceive_1 rfl (lv_at hl 1 rfl) ?_
  refine lv_iload_n hx hb dX11_deceive_2 rfl (lv_at hl 2 rfl) ?_
  refine ms_cVi (qc := (RX11, TX11, 32)) (wc := [(q0, .inr (11, [.ref q1, .ref q2, .ref q3, .ref q4, .int 0, .ref q5, .ref q6, .long 0, .ref q7, .int 0, .int (-1), .ref q8, .ref q9, .int 0, .ref q10, .int 0, .int 0, .int 0, .int 0, .int 0, .int 0, .int 0, .ref q11, .ref q12, .ref q13, .int 0, .ref q14, .ref q15, .ref q16, .ref q17, .int 0, .ref q18])), (q1, .inl (cA 0, 68, .inl ms_z))]) (wr := []) ⟨hx, hb, hml, hown, hts⟩ hE (cX11_areTowns_1 l D cA q0 q1 q2 q3 q4 q5 q6 q7 q8 q9 q10 q11 q12 q13 q14 q15 q16 q17 q18 a0 a1) (cwV 2 hts gX11_deceive_X11_areTowns rfl rfl rfl (by decide +kernel) ⟨Nat.le_of_ble_eq_true rfl, Nat.le_of_ble_eq_true rfl⟩) hP hD hS hA [0, 1] [] rfl rfl rfl rfl (by decide) 0 11 rfl rfl rfl hl.1 rfl (Nat.le_of_ble_eq_true rfl) dX11_deceive_3 ⟨Nat.le_of_ble_eq_true rfl, Nat.le_of_ble_eq_true rfl⟩ (fun r2 u1 H locs hp hP hD hS => ?_)
  subst hp
  have hP : va_P D vwCl [(q0, .inr (11, [.ref q1, .ref q2, .ref q3, .ref q4, .int 0, .ref q5, .ref q6, .long 0, .ref q7, .int 0, .int (-1), .ref q8, .ref q9, .int 0, .ref q10, .int 0, .int 0, .int 0, .int 0, .int 0, .int 0, .int 0, .ref q11, .ref q12, .ref q13, .int 0, .ref q14, .ref q15, .ref q16, .ref q17, .int 0, .ref q18])), (q1, .inl (cA 0, 68, .inl ms_z))] H := hP
  have hD : va_D A [(q0, .inr (11, [.ref q1, .ref q2, .ref q3, .ref q4, .int 0, .ref q5, .ref q6, .long 0, .ref q7, .int 0, .int (-1), .ref q8, .ref q9, .int 0, .ref q10, .int 0, .int 0, .int 0, .int 0, .int 0, .int 0, .int 0, .ref q11, .ref q12, .ref q13, .int 0, .ref q14, .ref q15, .ref q16, .ref q17, .int 0, .ref q18])), (q1, .inl (cA 0, 68, .inl ms_z))] := hD
  refine lv_if_ne (tgt := 12) hx hb dX11_deceive_6 (by decide) (fun c => absurd (by decide) c) (fun _ => ?_)
  refine lv_ldc (v := (-1000000001)) hx hb hown (hts (.constant RX11 173 (-1000000001)) (List.mem_cons_of_mem _ (List.mem_append_left _ (List.mem_append_left _ (List.mem_of_getElem? (i := 0) rfl))))) dX11_deceive_9 ?_
  exact ms_iret hx hb hr hlk () rfl hP hD hS (Nat.le_of_ble_eq_true rfl) (Nat.le_of_ble_eq_true rfl) dX11_deceive_11
set_option maxHeartbeats 4000000 in
set_option maxRecDepth 100000 in
theorem cX10_fee_1 (l : Launch) (D : va_G) (cA : Nat → ClassId) (q0 q1 q2 q3 q4 q5 q6 q7 q8 q9 q10 q11 q12 q13 q14 q15 q16 q17 q18 q19 : Nat) (a0 : Int32) (a1 : Int32) (a2 : Int32) : ms_Mi l yX10_fee wsX10_fee ({ frames := 2, cells := 0, slots := 0, locals := 43 } : Room) D cA [.ref q0, .int a0, .int a1, .int a2] [(q0, .inr (10, [.ref q2, .ref q1, .ref q3, .ref q4, .ref q5, .int 0, .ref q6, .ref q7, .ref q8, .ref q9, .ref q10, .ref q11])), (q1, .inr (2, [.int 0, .int 0, .int 0, .int 0, .int 0, .ref q12, .ref q13, .ref q14, .ref q15, .ref q16, .ref q17, .ref q18, .ref q19]))] (fun (r : Int32) (_ : Unit) => r = (-1000000001)) (fun (_ : Unit) => [(q0, .inr (10, [.ref q2, .ref q1, .ref q3, .ref q4, .ref q5, .int 0, .ref q6, .ref q7, .ref q8, .ref q9, .ref q10, .ref q11])), (q1, .inr (2, [.int 0, .int 0, .int 0, .int 0, .int 0, .ref q12, .ref q13, .ref q14, .ref q15, .ref q16, .ref q17, .ref q18, .ref q19]))]) := by
  refine ms_Mi_of (cc := cX10_fee) (maxL := 5) (ret := (some .int)) (by decide) rfl (Nat.le_of_ble_eq_true rfl) ?_
  intro p e s m args below meth c A ls hB hE hA hP hD hS hl
  obtain ⟨hx, hb, hr, hml, hown, hts, hlk, hnm⟩ := hB
  have hown : s.vm.findClass RX10 = some m.cls := hown
  have hl : lv_has ls 5 [(0, .ref q0), (1, .int a0), (2, .int a1), (3, .int a2)] := hl
  refine lv_aload_n hx hb dX10_fee_0 rfl (lv_at hl 0 rfl) ?_
  refine lv_iload_n hx hb dX10_fee_1 rfl (lv_at hl 1 rfl) ?_
  refine lv_iload_n hx hb dX10_fee_2 rfl (lv_at hl 2 rfl) ?_
  refine ms_cVi (qc := (RX10, TX10, 12)) (wc := [(q0, .inr (10, [.ref q2, .ref q1, .ref q3, .ref q4, .ref q5, .int 0, .ref q6, .ref q7, .ref q8, .ref q9, .ref q10, .ref q11])), (q1, .inr (2, [.int 0, .int 0, .int 0, .int 0, .int 0, .ref q12, .ref q13, .ref q14, .ref q15, .ref q16, .ref q17, .ref q18, .ref q19]))]) (wr := []) ⟨hx, hb, hml, hown, hts⟩ hE (cX10_areTowns_1 l D cA q0 q1 q2 q3 q4 q5 q6 q7 q8 q9 q10 q11 q12 q13 q14 q15 q16 q17 q18 q19 a0 a1) (cwV 2 hts gX10_fee_X10_areTowns rfl rfl rfl (by decide +kernel) ⟨Nat.le_of_ble_eq_true rfl, Nat.le_of_ble_eq_true rfl⟩) hP hD hS hA [0, 1] [] rfl rfl rfl rfl (by decide) 0 10 rfl rfl rfl hl.1 rfl (Nat.le_of_ble_eq_true rfl) dX10_fee_3 ⟨Nat.le_of_ble_eq_true rfl, Nat.le_of_ble_eq_true rfl⟩ (fun r2 u1 H locs hp hP hD hS => ?_)
  subst hp
  have hP : va_P D vwCl [(q0, .inr (10, [.ref q2, .ref q1, .ref q3, .ref q4, .ref q5, .int 0, .ref q6, .ref q7, .ref q8, .ref q9, .ref q10, .ref q11])), (q1, .inr (2, [.int 0, .int 0, .int 0, .int 0, .int 0, .ref q12, .ref q13, .ref q14, .ref q15, .ref q16, .ref q17, .ref q18, .ref q19]))] H := hP
  have hD : va_D A [(q0, .inr (10, [.ref q2, .ref q1, .ref q3, .ref q4, .ref q5, .int 0, .ref q6, .ref q7, .ref q8, .ref q9, .ref q10, .ref q11])), (q1, .inr (2, [.int 0, .int 0, .int 0, .int 0, .int 0, .ref q12, .ref q13, .ref q14, .ref q15, .ref q16, .ref q17, .ref q18, .ref q19]))] := hD
  refine lv_if_eq (tgt := 20) hx hb dX10_fee_6 (by decide) (fun _ => ?_) (fun c => absurd (by decide) c)
  refine lv_ldc (v := (-1000000001)) hx hb hown (hts (.constant RX10 178 (-1000000001)) (List.mem_cons_of_mem _ (List.mem_append_left _ (List.mem_append_left _ (List.mem_append_left _ (List.mem_append_left _ (List.mem_append_left _ (List.mem_of_getElem? (i := 1) rfl)))))))) dX10_fee_20 ?_
  exact ms_iret hx hb hr hlk () rfl hP hD hS (Nat.le_of_ble_eq_true rfl) (Nat.le_of_ble_eq_true rfl) dX10_fee_22
set_option maxHeartbeats 4000000 in
set_option maxRecDepth 100000 in
theorem cX11_fee_1 (l : Launch) (D : va_G) (cA : Nat → ClassId) (q0 q1 q2 q3 q4 q5 q6 q7 q8 q9 q10 q11 q12 q13 q14 q15 q16 q17 q18 : Nat) (a0 : Int32) (a1 : Int32) (a2 : Int32) : ms_Mi l yX11_fee wsX11_fee ({ frames := 3, cells := 0, slots := 0, locals := 68 } : Room) D cA [.ref q0, .int a0, .int a1, .int a2] [(q0, .inr (11, [.ref q1, .ref q2, .ref q3, .ref q4, .int 0, .ref q5, .ref q6, .long 0, .ref q7, .int 0, .int (-1), .ref q8, .ref q9, .int 0, .ref q10, .int 0, .int 0, .int 0, .int 0, .int 0, .int 0, .int 0, .ref q11, .ref q12, .ref q13, .int 0, .ref q14, .ref q15, .ref q16, .ref q17, .int 0, .ref q18])), (q1, .inl (cA 0, 68, .inl ms_z))] (fun (r : Int32) (_ : Unit) => r = (-1000000001)) (fun (_ : Unit) => [(q0, .inr (11, [.ref q1, .ref q2, .ref q3, .ref q4, .int 0, .ref q5, .ref q6, .long 0, .ref q7, .int 0, .int (-1), .ref q8, .ref q9, .int 0, .ref q10, .int 0, .int 0, .int 0, .int 0, .int 0, .int 0, .int 0, .ref q11, .ref q12, .ref q13, .int 0, .ref q14, .ref q15, .ref q16, .ref q17, .int 0, .ref q18])), (q1, .inl (cA 0, 68, .inl ms_z))]) := by
  refine ms_Mi_of (cc := cX11_fee) (maxL := 7) (ret := (some .int)) (by decide) rfl (Nat.le_of_ble_eq_true rfl) ?_
  intro p e s m args below meth c A ls hB hE hA hP hD hS hl
  obtain ⟨hx, hb, hr, hml, hown, hts, hlk, hnm⟩ := hB
  have hown : s.vm.findClass RX11 = some m.cls := hown
  have hl : lv_has ls 7 [(0, .ref q0), (1, .int a0), (2, .int a1), (3, .int a2)] := hl
  refine lv_aload_n hx hb dX11_fee_0 rfl (lv_at hl 0 rfl) ?_
  refine lv_iload_n hx hb dX11_fee_1 rfl (lv_at hl 1 rfl) ?_
  refine lv_iload_n hx hb dX11_fee_2 rfl (lv_at hl 2 rfl) ?_
  refine ms_cVi (qc := (RX11, TX11, 32)) (wc := [(q0, .inr (11, [.ref q1, .ref q2, .ref q3, .ref q4, .int 0, .ref q5, .ref q6, .long 0, .ref q7, .int 0, .int (-1), .ref q8, .ref q9, .int 0, .ref q10, .int 0, .int 0, .int 0, .int 0, .int 0, .int 0, .int 0, .ref q11, .ref q12, .ref q13, .int 0, .ref q14, .ref q15, .ref q16, .ref q17, .int 0, .ref q18])), (q1, .inl (cA 0, 68, .inl ms_z))]) (wr := []) ⟨hx, hb, hml, hown, hts⟩ hE (cX11_areTowns_1 l D cA q0 q1 q2 q3 q4 q5 q6 q7 q8 q9 q10 q11 q12 q13 q14 q15 q16 q17 q18 a0 a1) (cwV 2 hts gX11_fee_X11_areTowns rfl rfl rfl (by decide +kernel) ⟨Nat.le_of_ble_eq_true rfl, Nat.le_of_ble_eq_true rfl⟩) hP hD hS hA [0, 1] [] rfl rfl rfl rfl (by decide) 0 11 rfl rfl rfl hl.1 rfl (Nat.le_of_ble_eq_true rfl) dX11_fee_3 ⟨Nat.le_of_ble_eq_true rfl, Nat.le_of_ble_eq_true rfl⟩ (fun r2 u1 H locs hp hP hD hS => ?_)
  subst hp
  have hP : va_P D vwCl [(q0, .inr (11, [.ref q1, .ref q2, .ref q3, .ref q4, .int 0, .ref q5, .ref q6, .long 0, .ref q7, .int 0, .int (-1), .ref q8, .ref q9, .int 0, .ref q10, .int 0, .int 0, .int 0, .int 0, .int 0, .int 0, .int 0, .ref q11, .ref q12, .ref q13, .int 0, .ref q14, .ref q15, .ref q16, .ref q17, .int 0, .ref q18])), (q1, .inl (cA 0, 68, .inl ms_z))] H := hP
  have hD : va_D A [(q0, .inr (11, [.ref q1, .ref q2, .ref q3, .ref q4, .int 0, .ref q5, .ref q6, .long 0, .ref q7, .int 0, .int (-1), .ref q8, .ref q9, .int 0, .ref q10, .int 0, .int 0, .int 0, .int 0, .int 0, .int 0, .int 0, .ref q11, .ref q12, .ref q13, .int 0, .ref q14, .ref q15, .ref q16, .ref q17, .int 0, .ref q18])), (q1, .inl (cA 0, 68, .inl ms_z))] := hD
  refine lv_if_eq (tgt := 17) hx hb dX11_fee_6 (by decide) (fun _ => ?_) (fun c => absurd (by decide) c)
  refine lv_ldc (v := (-1000000001)) hx hb hown (hts (.constant RX11 173 (-1000000001)) (List.mem_cons_of_mem _ (List.mem_append_left _ (List.mem_append_left _ (List.mem_of_getElem? (i := 0) rfl))))) dX11_fee_17 ?_
  exact ms_iret hx hb hr hlk () rfl hP hD hS (Nat.le_of_ble_eq_true rfl) (Nat.le_of_ble_eq_true rfl) dX11_fee_19
set_option maxHeartbeats 4000000 in
set_option maxRecDepth 100000 in
theorem cX2_hasCounty_1 (l : Launch) (D : va_G) (cA : Nat → ClassId) (q0 q1 q2 q3 q4 q5 q6 q7 q8 : Nat) (a0 : Int32) : ms_Mi l yX2_hasCounty wsX2_hasCounty ({ frames := 0, cells := 0, slots := 0, locals := 0 } : Room) D cA [.ref q0, .int a0] [(q0, .inr (2, [.int 0, .int 0, .int 0, .int 0, .int 0, .ref q1, .ref q2, .ref q3, .ref q4, .ref q5, .ref q6, .ref q7, .ref q8]))] (fun (r : Int32) (_ : Unit) => r = 0) (fun (_ : Unit) => [(q0, .inr (2, [.int 0, .int 0, .int 0, .int 0, .int 0, .ref q1, .ref q2, .ref q3, .ref q4, .ref q5, .ref q6, .ref q7, .ref q8]))]) := by
  refine ms_Mi_of (cc := cX2_hasCounty) (maxL := 2) (ret := (some .boolean)) (by decide) rfl (Nat.le_of_ble_eq_true rfl) ?_
  intro p e s m args below meth c A ls hB hE hA hP hD hS hl
  obtain ⟨hx, hb, hr, hml, hown, hts, hlk, hnm⟩ := hB
  have hown : s.vm.findClass RX2 = some m.cls := hown
  have hnX2 : ∀ w ∈ u_ws RX2 TX2 13, w ∈ wsX2_hasCounty := fun _ h => List.mem_cons_of_mem _ (List.mem_append_right _ (h))
  have hl : lv_has ls 2 [(0, .ref q0), (1, .int a0)] := hl
  refine lv_iload_n hx hb dX2_hasCounty_0 rfl (lv_at hl 1 rfl) ?_
  refine lv_if_lt (tgt := 16) hx hb dX2_hasCounty_1 (by decide) (fun c1 => ?_) (fun c1 => ?_)
  · have hc2 := Int32.lt_iff_toInt_lt.mp c1
    have z3 : (0 : Int32).toInt = 0 := (by decide)
    refine lv_iconst (v := 0) hx hb dX2_hasCounty_16 (by decide) ?_
    exact ms_zret hx hb hr rfl hlk () rfl hP hD hS (Nat.le_of_ble_eq_true rfl) (Nat.le_of_ble_eq_true rfl) dX2_hasCounty_17
  · have hc4 := mt Int32.lt_iff_toInt_lt.mpr c1
    have z5 : (0 : Int32).toInt = 0 := (by decide)
    refine lv_iload_n hx hb dX2_hasCounty_4 rfl (lv_at hl 1 rfl) ?_
    refine lv_aload_n hx hb dX2_hasCounty_5 rfl (lv_at hl 0 rfl) ?_
    refine va_get (D := D) (ci := 2) (v := .int 0) (C := RX2) (T := TX2) (N := 13) hx hb hts hnX2 hown hE.1 hP 0 rfl rfl 1 (by decide) (hts (.fieldLink RX2 40 "MovedStones$Land" "counties" "I") (List.mem_cons_of_mem _ (List.mem_append_left _ (List.mem_of_getElem? (i := 0) rfl)))) (fun _ h9 => h9) rfl dX2_hasCounty_6 ?_
    refine lv_icmp_ge (tgt := 16) hx hb dX2_hasCounty_9 (by decide) (fun _ => ?_) (fun c => by exfalso; have hc6 := mt Int32.le_iff_toInt_le.mpr c; have z7 : (0 : Int32).toInt = 0 := (by decide); omega)
    refine lv_iconst (v := 0) hx hb dX2_hasCounty_16 (by decide) ?_
    exact ms_zret hx hb hr rfl hlk () rfl hP hD hS (Nat.le_of_ble_eq_true rfl) (Nat.le_of_ble_eq_true rfl) dX2_hasCounty_17
set_option maxHeartbeats 4000000 in
set_option maxRecDepth 100000 in
theorem cX10_owes_1 (l : Launch) (D : va_G) (cA : Nat → ClassId) (q0 q1 q2 q3 q4 q5 q6 q7 q8 q9 q10 q11 q12 q13 q14 q15 q16 q17 q18 q19 : Nat) (a0 : Int32) : ms_Mi l yX10_owes wsX10_owes ({ frames := 1, cells := 0, slots := 0, locals := 21 } : Room) D cA [.ref q0, .int a0] [(q0, .inr (10, [.ref q2, .ref q1, .ref q3, .ref q4, .ref q5, .int 0, .ref q6, .ref q7, .ref q8, .ref q9, .ref q10, .ref q11])), (q1, .inr (2, [.int 0, .int 0, .int 0, .int 0, .int 0, .ref q12, .ref q13, .ref q14, .ref q15, .ref q16, .ref q17, .ref q18, .ref q19]))] (fun (r : Int32) (_ : Unit) => r = (-1000000001)) (fun (_ : Unit) => [(q0, .inr (10, [.ref q2, .ref q1, .ref q3, .ref q4, .ref q5, .int 0, .ref q6, .ref q7, .ref q8, .ref q9, .ref q10, .ref q11])), (q1, .inr (2, [.int 0, .int 0, .int 0, .int 0, .int 0, .ref q12, .ref q13, .ref q14, .ref q15, .ref q16, .ref q17, .ref q18, .ref q19]))]) := by
  refine ms_Mi_of (cc := cX10_owes) (maxL := 4) (ret := (some .int)) (by decide) rfl (Nat.le_of_ble_eq_true rfl) ?_
  intro p e s m args below meth c A ls hB hE hA hP hD hS hl
  obtain ⟨hx, hb, hr, hml, hown, hts, hlk, hnm⟩ := hB
  have hown : s.vm.findClass RX10 = some m.cls := hown
  have hnX10 : ∀ w ∈ u_ws RX10 TX10 12, w ∈ wsX10_owes := fun _ h => List.mem_cons_of_mem _ (List.mem_append_left _ (List.mem_append_left _ (List.mem_append_right _ (h))))
  have hl : lv_has ls 4 [(0, .ref q0), (1, .int a0)] := hl
  refine lv_aload_n hx hb dX10_owes_0 rfl (lv_at hl 0 rfl) ?_
  refine va_get (D := D) (ci := 10) (v := .ref q1) (C := RX10) (T := TX10) (N := 12) hx hb hts hnX10 hown hE.1 hP 0 rfl rfl 1 (by decide) (hts (.fieldLink RX10 19 "MovedStones" "land" "LMovedStones$Land;") (List.mem_cons_of_mem _ (List.mem_append_left _ (List.mem_append_left _ (List.mem_append_left _ (List.mem_of_getElem? (i := 0) rfl)))))) (fun _ h9 => h9) rfl dX10_owes_1 ?_
  refine lv_iload_n hx hb dX10_owes_4 rfl (lv_at hl 1 rfl) ?_
  refine ms_cVi (qc := (RX2, TX2, 13)) (wc := [(q1, .inr (2, [.int 0, .int 0, .int 0, .int 0, .int 0, .ref q12, .ref q13, .ref q14, .ref q15, .ref q16, .ref q17, .ref q18, .ref q19]))]) (wr := [(q0, .inr (10, [.ref q2, .ref q1, .ref q3, .ref q4, .ref q5, .int 0, .ref q6, .ref q7, .ref q8, .ref q9, .ref q10, .ref q11]))]) ⟨hx, hb, hml, hown, hts⟩ hE (cX2_hasCounty_1 l D cA q1 q12 q13 q14 q15 q16 q17 q18 q19 a0) (cwV 1 hts gX10_owes_X2_hasCounty rfl rfl rfl (by decide +kernel) ⟨Nat.le_of_ble_eq_true rfl, Nat.le_of_ble_eq_true rfl⟩) hP hD hS hA [1] [0] rfl rfl rfl rfl (by decide) 0 2 rfl rfl rfl hl.1 rfl (Nat.le_of_ble_eq_true rfl) dX10_owes_5 ⟨Nat.le_of_ble_eq_true rfl, Nat.le_of_ble_eq_true rfl⟩ (fun r2 u1 H locs hp hP hD hS => ?_)
  subst hp
  have hP : va_P D vwCl [(q0, .inr (10, [.ref q2, .ref q1, .ref q3, .ref q4, .ref q5, .int 0, .ref q6, .ref q7, .ref q8, .ref q9, .ref q10, .ref q11])), (q1, .inr (2, [.int 0, .int 0, .int 0, .int 0, .int 0, .ref q12, .ref q13, .ref q14, .ref q15, .ref q16, .ref q17, .ref q18, .ref q19]))] H := hP
  have hD : va_D A [(q0, .inr (10, [.ref q2, .ref q1, .ref q3, .ref q4, .ref q5, .int 0, .ref q6, .ref q7, .ref q8, .ref q9, .ref q10, .ref q11])), (q1, .inr (2, [.int 0, .int 0, .int 0, .int 0, .int 0, .ref q12, .ref q13, .ref q14, .ref q15, .ref q16, .ref q17, .ref q18, .ref q19]))] := hD
  refine lv_if_ne (tgt := 14) hx hb dX10_owes_8 (by decide) (fun c => absurd (by decide) c) (fun _ => ?_)
  refine lv_ldc (v := (-1000000001)) hx hb hown (hts (.constant RX10 178 (-1000000001)) (List.mem_cons_of_mem _ (List.mem_append_left _ (List.mem_append_left _ (List.mem_append_left _ (List.mem_of_getElem? (i := 1) rfl)))))) dX10_owes_11 ?_
  exact ms_iret hx hb hr hlk () rfl hP hD hS (Nat.le_of_ble_eq_true rfl) (Nat.le_of_ble_eq_true rfl) dX10_owes_13
set_option maxHeartbeats 4000000 in
set_option maxRecDepth 100000 in
theorem cX11_isCounty_1 (l : Launch) (D : va_G) (cA : Nat → ClassId) (q0 q1 q2 q3 q4 q5 q6 q7 q8 q9 q10 q11 q12 q13 q14 q15 q16 q17 q18 : Nat) (a0 : Int32) : ms_Mi l yX11_isCounty wsX11_isCounty ({ frames := 1, cells := 0, slots := 0, locals := 25 } : Room) D cA [.ref q0, .int a0] [(q0, .inr (11, [.ref q1, .ref q2, .ref q3, .ref q4, .int 0, .ref q5, .ref q6, .long 0, .ref q7, .int 0, .int (-1), .ref q8, .ref q9, .int 0, .ref q10, .int 0, .int 0, .int 0, .int 0, .int 0, .int 0, .int 0, .ref q11, .ref q12, .ref q13, .int 0, .ref q14, .ref q15, .ref q16, .ref q17, .int 0, .ref q18])), (q1, .inl (cA 0, 68, .inl ms_z))] (fun (r : Int32) (_ : Unit) => r = 0) (fun (_ : Unit) => [(q0, .inr (11, [.ref q1, .ref q2, .ref q3, .ref q4, .int 0, .ref q5, .ref q6, .long 0, .ref q7, .int 0, .int (-1), .ref q8, .ref q9, .int 0, .ref q10, .int 0, .int 0, .int 0, .int 0, .int 0, .int 0, .int 0, .ref q11, .ref q12, .ref q13, .int 0, .ref q14, .ref q15, .ref q16, .ref q17, .int 0, .ref q18])), (q1, .inl (cA 0, 68, .inl ms_z))]) := by
  refine ms_Mi_of (cc := cX11_isCounty) (maxL := 2) (ret := (some .boolean)) (by decide) rfl (Nat.le_of_ble_eq_true rfl) ?_
  intro p e s m args below meth c A ls hB hE hA hP hD hS hl
  obtain ⟨hx, hb, hr, hml, hown, hts, hlk, hnm⟩ := hB
  have hown : s.vm.findClass RX11 = some m.cls := hown
  have hnX11 : ∀ w ∈ u_ws RX11 TX11 32, w ∈ wsX11_isCounty := fun _ h => List.mem_cons_of_mem _ (List.mem_append_right _ (h))
  have hl : lv_has ls 2 [(0, .ref q0), (1, .int a0)] := hl
  refine lv_iload_n hx hb dX11_isCounty_0 rfl (lv_at hl 1 rfl) ?_
  refine lv_i2l (v := a0.toInt64) hx hb dX11_isCounty_1 rfl ?_
  refine lv_lconst (v := 0) hx hb dX11_isCounty_2 (by decide) ?_
  refine lv_aload_n hx hb dX11_isCounty_3 rfl (lv_at hl 0 rfl) ?_
  refine va_get (D := D) (ci := 11) (v := .ref q1) (C := RX11) (T := TX11) (N := 32) hx hb hts hnX11 hown hE.1 hP 0 rfl rfl 0 (by decide) (hts (.fieldLink RX11 7 "MovedStonesModel" "march" "[I") (List.mem_cons_of_mem _ (List.mem_append_left _ (List.mem_of_getElem? (i := 0) rfl)))) (fun _ h9 => h9) rfl dX11_isCounty_4 ?_
  refine lv_iconst (v := 1) hx hb dX11_isCounty_7 (by decide) ?_
  refine ms_iald (x := 0) hx hb hE hP 1 rfl 1 rfl (by omega) (by decide) (rfl) dX11_isCounty_8 ?_
  refine lv_iconst (v := 1) hx hb dX11_isCounty_9 (by decide) ?_
  refine lv_isub hx hb dX11_isCounty_10 ?_
  refine ms_eqi (y := (-1)) (by decide) ?_
  refine lv_i2l (v := (-1)) hx hb dX11_isCounty_11 (by decide) ?_
  refine ms_cSi (wc := []) (wr := [(q0, .inr (11, [.ref q1, .ref q2, .ref q3, .ref q4, .int 0, .ref q5, .ref q6, .long 0, .ref q7, .int 0, .int (-1), .ref q8, .ref q9, .int 0, .ref q10, .int 0, .int 0, .int 0, .int 0, .int 0, .int 0, .int 0, .ref q11, .ref q12, .ref q13, .int 0, .ref q14, .ref q15, .ref q16, .ref q17, .int 0, .ref q18])), (q1, .inl (cA 0, 68, .inl ms_z))]) ⟨hx, hb, hml, hown, hts⟩ hE (c_in l D cA a0.toInt64 0 (-1)) (va_cwS 3 hts gX11_isCounty_X11_in rfl rfl rfl (by decide +kernel) ⟨Nat.le_of_ble_eq_true rfl, Nat.le_of_ble_eq_true rfl⟩) hP hD hS hA [] [0, 1] rfl rfl rfl rfl (by decide) rfl hl.1 rfl (Nat.le_of_ble_eq_true rfl) dX11_isCounty_12 ⟨Nat.le_of_ble_eq_true rfl, Nat.le_of_ble_eq_true rfl⟩ (fun r1 u2 H locs hp hP hD hS => ?_)
  have hp : r1 = 0 := by rw [hp]; have z3 : (0 : Int64).toInt = 0 := (by decide); have z4 : ((-1) : Int64).toInt = -1 := (by decide); have z5 : (a0.toInt64).toInt = a0.toInt := Int32.toInt_toInt64 _; exact if_neg (by omega)
  subst hp
  have hP : va_P D vwCl [(q0, .inr (11, [.ref q1, .ref q2, .ref q3, .ref q4, .int 0, .ref q5, .ref q6, .long 0, .ref q7, .int 0, .int (-1), .ref q8, .ref q9, .int 0, .ref q10, .int 0, .int 0, .int 0, .int 0, .int 0, .int 0, .int 0, .ref q11, .ref q12, .ref q13, .int 0, .ref q14, .ref q15, .ref q16, .ref q17, .int 0, .ref q18])), (q1, .inl (cA 0, 68, .inl ms_z))] H := hP
  have hD : va_D A [(q0, .inr (11, [.ref q1, .ref q2, .ref q3, .ref q4, .int 0, .ref q5, .ref q6, .long 0, .ref q7, .int 0, .int (-1), .ref q8, .ref q9, .int 0, .ref q10, .int 0, .int 0, .int 0, .int 0, .int 0, .int 0, .int 0, .ref q11, .ref q12, .ref q13, .int 0, .ref q14, .ref q15, .ref q16, .ref q17, .int 0, .ref q18])), (q1, .inl (cA 0, 68, .inl ms_z))] := hD
  exact ms_zret hx hb hr rfl hlk () rfl hP hD hS (Nat.le_of_ble_eq_true rfl) (Nat.le_of_ble_eq_true rfl) dX11_isCounty_15
set_option maxHeartbeats 4000000 in
set_option maxRecDepth 100000 in
theorem cX11_owes_1 (l : Launch) (D : va_G) (cA : Nat → ClassId) (q0 q1 q2 q3 q4 q5 q6 q7 q8 q9 q10 q11 q12 q13 q14 q15 q16 q17 q18 : Nat) (a0 : Int32) : ms_Mi l yX11_owes wsX11_owes ({ frames := 2, cells := 0, slots := 0, locals := 46 } : Room) D cA [.ref q0, .int a0] [(q0, .inr (11, [.ref q1, .ref q2, .ref q3, .ref q4, .int 0, .ref q5, .ref q6, .long 0, .ref q7, .int 0, .int (-1), .ref q8, .ref q9, .int 0, .ref q10, .int 0, .int 0, .int 0, .int 0, .int 0, .int 0, .int 0, .ref q11, .ref q12, .ref q13, .int 0, .ref q14, .ref q15, .ref q16, .ref q17, .int 0, .ref q18])), (q1, .inl (cA 0, 68, .inl ms_z))] (fun (r : Int32) (_ : Unit) => r = (-1000000001)) (fun (_ : Unit) => [(q0, .inr (11, [.ref q1, .ref q2, .ref q3, .ref q4, .int 0, .ref q5, .ref q6, .long 0, .ref q7, .int 0, .int (-1), .ref q8, .ref q9, .int 0, .ref q10, .int 0, .int 0, .int 0, .int 0, .int 0, .int 0, .int 0, .ref q11, .ref q12, .ref q13, .int 0, .ref q14, .ref q15, .ref q16, .ref q17, .int 0, .ref q18])), (q1, .inl (cA 0, 68, .inl ms_z))]) := by
  refine ms_Mi_of (cc := cX11_owes) (maxL := 4) (ret := (some .int)) (by decide) rfl (Nat.le_of_ble_eq_true rfl) ?_
  intro p e s m args below meth c A ls hB hE hA hP hD hS hl
  obtain ⟨hx, hb, hr, hml, hown, hts, hlk, hnm⟩ := hB
  have hown : s.vm.findClass RX11 = some m.cls := hown
  have hl : lv_has ls 4 [(0, .ref q0), (1, .int a0)] := hl
  refine lv_aload_n hx hb dX11_owes_0 rfl (lv_at hl 0 rfl) ?_
  refine lv_iload_n hx hb dX11_owes_1 rfl (lv_at hl 1 rfl) ?_
  refine ms_cVi (qc := (RX11, TX11, 32)) (wc := [(q0, .inr (11, [.ref q1, .ref q2, .ref q3, .ref q4, .int 0, .ref q5, .ref q6, .long 0, .ref q7, .int 0, .int (-1), .ref q8, .ref q9, .int 0, .ref q10, .int 0, .int 0, .int 0, .int 0, .int 0, .int 0, .int 0, .ref q11, .ref q12, .ref q13, .int 0, .ref q14, .ref q15, .ref q16, .ref q17, .int 0, .ref q18])), (q1, .inl (cA 0, 68, .inl ms_z))]) (wr := []) ⟨hx, hb, hml, hown, hts⟩ hE (cX11_isCounty_1 l D cA q0 q1 q2 q3 q4 q5 q6 q7 q8 q9 q10 q11 q12 q13 q14 q15 q16 q17 q18 a0) (cwV 1 hts gX11_owes_X11_isCounty rfl rfl rfl (by decide +kernel) ⟨Nat.le_of_ble_eq_true rfl, Nat.le_of_ble_eq_true rfl⟩) hP hD hS hA [0, 1] [] rfl rfl rfl rfl (by decide) 0 11 rfl rfl rfl hl.1 rfl (Nat.le_of_ble_eq_true rfl) dX11_owes_2 ⟨Nat.le_of_ble_eq_true rfl, Nat.le_of_ble_eq_true rfl⟩ (fun r2 u1 H locs hp hP hD hS => ?_)
  subst hp
  have hP : va_P D vwCl [(q0, .inr (11, [.ref q1, .ref q2, .ref q3, .ref q4, .int 0, .ref q5, .ref q6, .long 0, .ref q7, .int 0, .int (-1), .ref q8, .ref q9, .int 0, .ref q10, .int 0, .int 0, .int 0, .int 0, .int 0, .int 0, .int 0, .ref q11, .ref q12, .ref q13, .int 0, .ref q14, .ref q15, .ref q16, .ref q17, .int 0, .ref q18])), (q1, .inl (cA 0, 68, .inl ms_z))] H := hP
  have hD : va_D A [(q0, .inr (11, [.ref q1, .ref q2, .ref q3, .ref q4, .int 0, .ref q5, .ref q6, .long 0, .ref q7, .int 0, .int (-1), .ref q8, .ref q9, .int 0, .ref q10, .int 0, .int 0, .int 0, .int 0, .int 0, .int 0, .int 0, .ref q11, .ref q12, .ref q13, .int 0, .ref q14, .ref q15, .ref q16, .ref q17, .int 0, .ref q18])), (q1, .inl (cA 0, 68, .inl ms_z))] := hD
  refine lv_if_ne (tgt := 11) hx hb dX11_owes_5 (by decide) (fun c => absurd (by decide) c) (fun _ => ?_)
  refine lv_ldc (v := (-1000000001)) hx hb hown (hts (.constant RX11 173 (-1000000001)) (List.mem_cons_of_mem _ (List.mem_append_left _ (List.mem_of_getElem? (i := 0) rfl)))) dX11_owes_8 ?_
  exact ms_iret hx hb hr hlk () rfl hP hD hS (Nat.le_of_ble_eq_true rfl) (Nat.le_of_ble_eq_true rfl) dX11_owes_10
set_option maxHeartbeats 4000000 in
set_option maxRecDepth 100000 in
theorem cX10_clash_1 (l : Launch) (D : va_G) (cA : Nat → ClassId) (q0 q1 q2 q3 q4 q5 q6 q7 q8 q9 q10 q11 q12 q13 q14 q15 q16 q17 q18 q19 : Nat) : ms_Mi l yX10_clash wsX10_clash ({ frames := 0, cells := 0, slots := 0, locals := 0 } : Room) D cA [.ref q0] [(q0, .inr (10, [.ref q2, .ref q1, .ref q3, .ref q4, .ref q5, .int 0, .ref q6, .ref q7, .ref q8, .ref q9, .ref q10, .ref q11])), (q1, .inr (2, [.int 0, .int 0, .int 0, .int 0, .int 0, .ref q12, .ref q13, .ref q14, .ref q15, .ref q16, .ref q17, .ref q18, .ref q19]))] (fun (r : Int32) (_ : Unit) => r = (-1)) (fun (_ : Unit) => [(q0, .inr (10, [.ref q2, .ref q1, .ref q3, .ref q4, .ref q5, .int 0, .ref q6, .ref q7, .ref q8, .ref q9, .ref q10, .ref q11])), (q1, .inr (2, [.int 0, .int 0, .int 0, .int 0, .int 0, .ref q12, .ref q13, .ref q14, .ref q15, .ref q16, .ref q17, .ref q18, .ref q19]))]) := by
  refine ms_Mi_of (cc := cX10_clash) (maxL := 3) (ret := (some .int)) (by decide) rfl (Nat.le_of_ble_eq_true rfl) ?_
  intro p e s m args below meth c A ls hB hE hA hP hD hS hl
  obtain ⟨hx, hb, hr, hml, hown, hts, hlk, hnm⟩ := hB
  have hown : s.vm.findClass RX10 = some m.cls := hown
  have hnX2 : ∀ w ∈ u_ws RX2 TX2 13, w ∈ wsX10_clash := fun _ h => List.mem_cons_of_mem _ (List.mem_append_right _ (h))
  have hnX10 : ∀ w ∈ u_ws RX10 TX10 12, w ∈ wsX10_clash := fun _ h => List.mem_cons_of_mem _ (List.mem_append_left _ (List.mem_append_right _ (h)))
  have hl : lv_has ls 3 [(0, .ref q0)] := hl
  refine lv_iconst (v := 0) hx hb dX10_clash_0 (by decide) ?_
  refine lv_istore_n (lv' := [(1, .int 0), (0, .ref q0)]) hx hb dX10_clash_1 rfl hl (by decide) rfl (fun ls hl => ?_)
  refine lv_iload_n hx hb dX10_clash_2 rfl (lv_at hl 0 rfl) ?_
  refine lv_aload_n hx hb dX10_clash_3 rfl (lv_at hl 1 rfl) ?_
  refine va_get (D := D) (ci := 10) (v := .ref q1) (C := RX10) (T := TX10) (N := 12) hx hb hts hnX10 hown hE.1 hP 0 rfl rfl 1 (by decide) (hts (.fieldLink RX10 19 "MovedStones" "land" "LMovedStones$Land;") (List.mem_cons_of_mem _ (List.mem_append_left _ (List.mem_append_left _ (List.mem_append_left _ (List.mem_of_getElem? (i := 0) rfl)))))) (fun _ h9 => h9) rfl dX10_clash_4 ?_
  refine va_get (D := D) (ci := 2) (v := .int 0) (C := RX2) (T := TX2) (N := 13) hx hb hts hnX2 hown hE.1 hP 1 rfl rfl 4 (by decide) (hts (.fieldLink RX10 128 "MovedStones$Land" "treaties" "I") (List.mem_cons_of_mem _ (List.mem_append_left _ (List.mem_append_left _ (List.mem_append_left _ (List.mem_of_getElem? (i := 1) rfl)))))) (fun _ h9 => h9) rfl dX10_clash_7 ?_
  refine lv_icmp_ge (tgt := 80) hx hb dX10_clash_10 (by decide) (fun _ => ?_) (fun c => absurd (by decide) c)
  refine lv_iconst (v := (-1)) hx hb dX10_clash_80 (by decide) ?_
  exact ms_iret hx hb hr hlk () rfl hP hD hS (Nat.le_of_ble_eq_true rfl) (Nat.le_of_ble_eq_true rfl) dX10_clash_81
set_option maxHeartbeats 4000000 in
set_option maxRecDepth 100000 in
theorem cX11_clash_1 (l : Launch) (D : va_G) (cA : Nat → ClassId) (q0 q1 q2 q3 q4 q5 q6 q7 q8 q9 q10 q11 q12 q13 q14 q15 q16 q17 q18 : Nat) : ms_Mi l yX11_clash wsX11_clash ({ frames := 0, cells := 0, slots := 0, locals := 0 } : Room) D cA [.ref q0] [(q0, .inr (11, [.ref q1, .ref q2, .ref q3, .ref q4, .int 0, .ref q5, .ref q6, .long 0, .ref q7, .int 0, .int (-1), .ref q8, .ref q9, .int 0, .ref q10, .int 0, .int 0, .int 0, .int 0, .int 0, .int 0, .int 0, .ref q11, .ref q12, .ref q13, .int 0, .ref q14, .ref q15, .ref q16, .ref q17, .int 0, .ref q18])), (q1, .inl (cA 0, 68, .inl ms_z))] (fun (r : Int32) (_ : Unit) => r = (-1)) (fun (_ : Unit) => [(q0, .inr (11, [.ref q1, .ref q2, .ref q3, .ref q4, .int 0, .ref q5, .ref q6, .long 0, .ref q7, .int 0, .int (-1), .ref q8, .ref q9, .int 0, .ref q10, .int 0, .int 0, .int 0, .int 0, .int 0, .int 0, .int 0, .ref q11, .ref q12, .ref q13, .int 0, .ref q14, .ref q15, .ref q16, .ref q17, .int 0, .ref q18])), (q1, .inl (cA 0, 68, .inl ms_z))]) := by
  refine ms_Mi_of (cc := cX11_clash) (maxL := 8) (ret := (some .int)) (by decide) rfl (Nat.le_of_ble_eq_true rfl) ?_
  intro p e s m args below meth c A ls hB hE hA hP hD hS hl
  obtain ⟨hx, hb, hr, hml, hown, hts, hlk, hnm⟩ := hB
  have hown : s.vm.findClass RX11 = some m.cls := hown
  have hnX11 : ∀ w ∈ u_ws RX11 TX11 32, w ∈ wsX11_clash := fun _ h => List.mem_cons_of_mem _ (List.mem_append_right _ (h))
  have hl : lv_has ls 8 [(0, .ref q0)] := hl
  refine lv_iconst (v := 0) hx hb dX11_clash_0 (by decide) ?_
  refine lv_istore_n (lv' := [(1, .int 0), (0, .ref q0)]) hx hb dX11_clash_1 rfl hl (by decide) rfl (fun ls hl => ?_)
  refine lv_iload_n hx hb dX11_clash_2 rfl (lv_at hl 0 rfl) ?_
  refine lv_aload_n hx hb dX11_clash_3 rfl (lv_at hl 1 rfl) ?_
  refine va_get (D := D) (ci := 11) (v := .ref q1) (C := RX11) (T := TX11) (N := 32) hx hb hts hnX11 hown hE.1 hP 0 rfl rfl 0 (by decide) (hts (.fieldLink RX11 7 "MovedStonesModel" "march" "[I") (List.mem_cons_of_mem _ (List.mem_append_left _ (List.mem_of_getElem? (i := 0) rfl)))) (fun _ h9 => h9) rfl dX11_clash_4 ?_
  refine lv_iconst (v := 4) hx hb dX11_clash_7 (by decide) ?_
  refine ms_iald (x := 0) hx hb hE hP 1 rfl 4 rfl (by omega) (by decide) (rfl) dX11_clash_8 ?_
  refine lv_icmp_ge (tgt := 185) hx hb dX11_clash_9 (by decide) (fun _ => ?_) (fun c => absurd (by decide) c)
  refine lv_iconst (v := (-1)) hx hb dX11_clash_185 (by decide) ?_
  exact ms_iret hx hb hr hlk () rfl hP hD hS (Nat.le_of_ble_eq_true rfl) (Nat.le_of_ble_eq_true rfl) dX11_clash_186
