set_option maxHeartbeats 4000000 in
set_option maxRecDepth 100000 in
theorem cX3_canHold_1 (l : Launch) (D : va_G) (cA : Nat → ClassId) (q0 q1 q2 q3 q4 q5 q6 q7 q8 q9 q10 q11 : Nat) : ms_Mi l yX3_canHold wsX3_canHold ({ frames := 0, cells := 0, slots := 0, locals := 0 } : Room) D cA [.ref q0, .ref q1, .int 0, .int 0] [(q0, .inr (3, [.ref q2, .ref q3])), (q1, .inr (2, [.int 0, .int 0, .int 0, .int 0, .int 0, .ref q4, .ref q5, .ref q6, .ref q7, .ref q8, .ref q9, .ref q10, .ref q11]))] (fun (r : Int32) (_ : Unit) => r = 1) (fun (_ : Unit) => [(q0, .inr (3, [.ref q2, .ref q3])), (q1, .inr (2, [.int 0, .int 0, .int 0, .int 0, .int 0, .ref q4, .ref q5, .ref q6, .ref q7, .ref q8, .ref q9, .ref q10, .ref q11]))]) := by
  refine ms_Mi_of (cc := cX3_canHold) (maxL := 6) (ret := (some .boolean)) (by decide) rfl (Nat.le_of_ble_eq_true rfl) ?_
  intro p e s m args below meth c A ls hB hE hA hP hD hS hl
  obtain ⟨hx, hb, hr, hml, hown, hts, hlk, hnm⟩ := hB
  have hown : s.vm.findClass RX3 = some m.cls := hown
  have hnX2 : ∀ w ∈ u_ws RX2 TX2 13, w ∈ wsX3_canHold := fun _ h => List.mem_cons_of_mem _ (List.mem_append_left _ (List.mem_append_right _ (h)))
  have hl : lv_has ls 6 [(0, .ref q0), (1, .ref q1), (2, .int 0), (3, .int 0)] := hl
  refine lv_iconst (v := 0) hx hb dX3_canHold_0 (by decide) ?_
  refine lv_istore (lv' := [(4, .int 0), (0, .ref q0), (1, .ref q1), (2, .int 0), (3, .int 0)]) hx hb dX3_canHold_1 hl (by decide) rfl (fun ls hl => ?_)
  refine lv_iload hx hb dX3_canHold_3 (lv_at hl 0 rfl) ?_
  refine lv_aload_n hx hb dX3_canHold_5 rfl (lv_at hl 2 rfl) ?_
  refine va_get (D := D) (ci := 2) (v := .int 0) (C := RX2) (T := TX2) (N := 13) hx hb hts hnX2 hown hE.1 hP 1 rfl rfl 4 (by decide) (hts (.fieldLink RX3 18 "MovedStones$Land" "treaties" "I") (List.mem_cons_of_mem _ (List.mem_append_left _ (List.mem_append_left _ (List.mem_of_getElem? (i := 0) rfl))))) (fun _ h9 => h9) rfl dX3_canHold_6 ?_
  refine lv_icmp_ge (tgt := 57) hx hb dX3_canHold_9 (by decide) (fun _ => ?_) (fun c => absurd (by decide) c)
  refine lv_iconst (v := 1) hx hb dX3_canHold_57 (by decide) ?_
  exact ms_zret hx hb hr rfl hlk () rfl hP hD hS (Nat.le_of_ble_eq_true rfl) (Nat.le_of_ble_eq_true rfl) dX3_canHold_58
set_option maxHeartbeats 4000000 in
set_option maxRecDepth 100000 in
theorem cX3_spread_1 (l : Launch) (D : va_G) (cA : Nat → ClassId) (q0 q1 q2 q3 q4 q5 q6 q7 q8 q9 q10 q11 q12 : Nat) : ms_Mi l yX3_spread wsX3_spread ({ frames := 1, cells := 0, slots := 0, locals := 25 } : Room) D cA [.ref q0, .ref q1, .ref q2, .int 0, .int 0] [(q0, .inr (3, [.ref q3, .ref q4])), (q1, .inr (2, [.int 0, .int 0, .int 0, .int 0, .int 0, .ref q5, .ref q6, .ref q7, .ref q8, .ref q9, .ref q10, .ref q11, .ref q12]))] (fun (r : Int32) (_ : Unit) => r = 1) (fun (_ : Unit) => [(q0, .inr (3, [.ref q3, .ref q4])), (q1, .inr (2, [.int 0, .int 0, .int 0, .int 0, .int 0, .ref q5, .ref q6, .ref q7, .ref q8, .ref q9, .ref q10, .ref q11, .ref q12]))]) := by
  refine ms_Mi_of (cc := cX3_spread) (maxL := 6) (ret := (some .boolean)) (by decide) rfl (Nat.le_of_ble_eq_true rfl) ?_
  intro p e s m args below meth c A ls hB hE hA hP hD hS hl
  obtain ⟨hx, hb, hr, hml, hown, hts, hlk, hnm⟩ := hB
  have hown : s.vm.findClass RX3 = some m.cls := hown
  have hnX2 : ∀ w ∈ u_ws RX2 TX2 13, w ∈ wsX3_spread := fun _ h => List.mem_cons_of_mem _ (List.mem_append_left _ (List.mem_append_right _ (h)))
  have hl : lv_has ls 6 [(0, .ref q0), (1, .ref q1), (2, .ref q2), (3, .int 0), (4, .int 0)] := hl
  refine lv_aload_n hx hb dX3_spread_0 rfl (lv_at hl 0 rfl) ?_
  refine lv_aload_n hx hb dX3_spread_1 rfl (lv_at hl 1 rfl) ?_
  refine lv_iload_n hx hb dX3_spread_2 rfl (lv_at hl 3 rfl) ?_
  refine lv_iload hx hb dX3_spread_3 (lv_at hl 4 rfl) ?_
  refine ms_cVi (qc := (RX3, TX3, 2)) (wc := [(q0, .inr (3, [.ref q3, .ref q4])), (q1, .inr (2, [.int 0, .int 0, .int 0, .int 0, .int 0, .ref q5, .ref q6, .ref q7, .ref q8, .ref q9, .ref q10, .ref q11, .ref q12]))]) (wr := []) ⟨hx, hb, hml, hown, hts⟩ hE (cX3_canHold_1 l D cA q0 q1 q3 q4 q5 q6 q7 q8 q9 q10 q11 q12) (cwV 3 hts gX3_spread_X3_canHold rfl rfl rfl (by decide +kernel) ⟨Nat.le_of_ble_eq_true rfl, Nat.le_of_ble_eq_true rfl⟩) hP hD hS hA [0, 1] [] rfl rfl rfl rfl (by decide) 0 3 rfl rfl rfl hl.1 rfl (Nat.le_of_ble_eq_true rfl) dX3_spread_5 ⟨Nat.le_of_ble_eq_true rfl, Nat.le_of_ble_eq_true rfl⟩ (fun r2 u1 H locs hp hP hD hS => ?_)
  subst hp
  have hP : va_P D vwCl [(q0, .inr (3, [.ref q3, .ref q4])), (q1, .inr (2, [.int 0, .int 0, .int 0, .int 0, .int 0, .ref q5, .ref q6, .ref q7, .ref q8, .ref q9, .ref q10, .ref q11, .ref q12]))] H := hP
  have hD : va_D A [(q0, .inr (3, [.ref q3, .ref q4])), (q1, .inr (2, [.int 0, .int 0, .int 0, .int 0, .int 0, .ref q5, .ref q6, .ref q7, .ref q8, .ref q9, .ref q10, .ref q11, .ref q12]))] := hD
  refine lv_if_ne (tgt := 13) hx hb dX3_spread_8 (by decide) (fun _ => ?_) (fun c => absurd c (by decide))
  refine lv_iload_n hx hb dX3_spread_13 rfl (lv_at hl 3 rfl) ?_
  refine lv_aload_n hx hb dX3_spread_14 rfl (lv_at hl 1 rfl) ?_
  refine va_get (D := D) (ci := 2) (v := .int 0) (C := RX2) (T := TX2) (N := 13) hx hb hts hnX2 hown hE.1 hP 1 rfl rfl 3 (by decide) (hts (.fieldLink RX3 39 "MovedStones$Land" "roads" "I") (List.mem_cons_of_mem _ (List.mem_append_left _ (List.mem_append_left _ (List.mem_append_left _ (List.mem_of_getElem? (i := 0) rfl)))))) (fun _ h9 => h9) rfl dX3_spread_15 ?_
  refine lv_icmp_lt (tgt := 32) hx hb dX3_spread_18 (by decide) (fun c => absurd c (by decide)) (fun _ => ?_)
  refine lv_iload hx hb dX3_spread_21 (lv_at hl 4 rfl) ?_
  refine lv_if_ne (tgt := 30) hx hb dX3_spread_23 (by decide) (fun c => absurd (by decide) c) (fun _ => ?_)
  refine lv_iconst (v := 1) hx hb dX3_spread_26 (by decide) ?_
  refine lv_goto (tgt := 31) hx hb dX3_spread_27 (by decide) ?_
  exact ms_zret hx hb hr rfl hlk () rfl hP hD hS (Nat.le_of_ble_eq_true rfl) (Nat.le_of_ble_eq_true rfl) dX3_spread_31
set_option maxHeartbeats 4000000 in
set_option maxRecDepth 100000 in
theorem cX3_fewest_1 (l : Launch) (D : va_G) (cA : Nat → ClassId) (q0 q1 q2 q3 q4 q5 q6 q7 q8 q9 q10 q11 q12 : Nat) : ms_Mi l yX3_fewest wsX3_fewest ({ frames := 2, cells := 0, slots := 0, locals := 50 } : Room) D cA [.ref q0, .ref q1, .ref q2] [(q0, .inr (3, [.ref q3, .ref q4])), (q1, .inr (2, [.int 0, .int 0, .int 0, .int 0, .int 0, .ref q5, .ref q6, .ref q7, .ref q8, .ref q9, .ref q10, .ref q11, .ref q12]))] (fun (r : Int32) (_ : Unit) => r = 0) (fun (_ : Unit) => [(q0, .inr (3, [.ref q3, .ref q4])), (q1, .inr (2, [.int 0, .int 0, .int 0, .int 0, .int 0, .ref q5, .ref q6, .ref q7, .ref q8, .ref q9, .ref q10, .ref q11, .ref q12]))]) := by
  refine ms_Mi_of (cc := cX3_fewest) (maxL := 5) (ret := (some .int)) (by decide) rfl (Nat.le_of_ble_eq_true rfl) ?_
  intro p e s m args below meth c A ls hB hE hA hP hD hS hl
  obtain ⟨hx, hb, hr, hml, hown, hts, hlk, hnm⟩ := hB
  have hown : s.vm.findClass RX3 = some m.cls := hown
  have hnX2 : ∀ w ∈ u_ws RX2 TX2 13, w ∈ wsX3_fewest := fun _ h => List.mem_cons_of_mem _ (List.mem_append_left _ (List.mem_append_right _ (h)))
  have hl : lv_has ls 5 [(0, .ref q0), (1, .ref q1), (2, .ref q2)] := hl
  refine lv_iconst (v := 0) hx hb dX3_fewest_0 (by decide) ?_
  refine lv_istore_n (lv' := [(3, .int 0), (0, .ref q0), (1, .ref q1), (2, .ref q2)]) hx hb dX3_fewest_1 rfl hl (by decide) rfl (fun ls hl => ?_)
  refine lv_iload_n hx hb dX3_fewest_2 rfl (lv_at hl 0 rfl) ?_
  refine lv_iconst (v := 4) hx hb dX3_fewest_3 (by decide) ?_
  refine lv_icmp_gt (tgt := 63) hx hb dX3_fewest_4 (by decide) (fun c => absurd c (by decide)) (fun _ => ?_)
  refine lv_iconst (v := 0) hx hb dX3_fewest_7 (by decide) ?_
  refine lv_istore (lv' := [(4, .int 0), (3, .int 0), (0, .ref q0), (1, .ref q1), (2, .ref q2)]) hx hb dX3_fewest_8 hl (by decide) rfl (fun ls hl => ?_)
  refine lv_iload hx hb dX3_fewest_10 (lv_at hl 0 rfl) ?_
  refine lv_aload_n hx hb dX3_fewest_12 rfl (lv_at hl 3 rfl) ?_
  refine va_get (D := D) (ci := 2) (v := .int 0) (C := RX2) (T := TX2) (N := 13) hx hb hts hnX2 hown hE.1 hP 1 rfl rfl 4 (by decide) (hts (.fieldLink RX3 18 "MovedStones$Land" "treaties" "I") (List.mem_cons_of_mem _ (List.mem_append_left _ (List.mem_append_left _ (List.mem_append_left _ (List.mem_of_getElem? (i := 0) rfl)))))) (fun _ h9 => h9) rfl dX3_fewest_13 ?_
  refine lv_icmp_ge (tgt := 44) hx hb dX3_fewest_16 (by decide) (fun _ => ?_) (fun c => absurd (by decide) c)
  refine lv_aload_n hx hb dX3_fewest_44 rfl (lv_at hl 2 rfl) ?_
  refine lv_aload_n hx hb dX3_fewest_45 rfl (lv_at hl 3 rfl) ?_
  refine lv_aload_n hx hb dX3_fewest_46 rfl (lv_at hl 4 rfl) ?_
  refine lv_iconst (v := 0) hx hb dX3_fewest_47 (by decide) ?_
  refine lv_iload_n hx hb dX3_fewest_48 rfl (lv_at hl 1 rfl) ?_
  refine ms_cVi (qc := (RX3, TX3, 2)) (wc := [(q0, .inr (3, [.ref q3, .ref q4])), (q1, .inr (2, [.int 0, .int 0, .int 0, .int 0, .int 0, .ref q5, .ref q6, .ref q7, .ref q8, .ref q9, .ref q10, .ref q11, .ref q12]))]) (wr := []) ⟨hx, hb, hml, hown, hts⟩ hE (cX3_spread_1 l D cA q0 q1 q2 q3 q4 q5 q6 q7 q8 q9 q10 q11 q12) (cwV 4 hts gX3_fewest_X3_spread rfl rfl rfl (by decide +kernel) ⟨Nat.le_of_ble_eq_true rfl, Nat.le_of_ble_eq_true rfl⟩) hP hD hS hA [0, 1] [] rfl rfl rfl rfl (by decide) 0 3 rfl rfl rfl hl.1 rfl (Nat.le_of_ble_eq_true rfl) dX3_fewest_49 ⟨Nat.le_of_ble_eq_true rfl, Nat.le_of_ble_eq_true rfl⟩ (fun r2 u1 H locs hp hP hD hS => ?_)
  subst hp
  have hP : va_P D vwCl [(q0, .inr (3, [.ref q3, .ref q4])), (q1, .inr (2, [.int 0, .int 0, .int 0, .int 0, .int 0, .ref q5, .ref q6, .ref q7, .ref q8, .ref q9, .ref q10, .ref q11, .ref q12]))] H := hP
  have hD : va_D A [(q0, .inr (3, [.ref q3, .ref q4])), (q1, .inr (2, [.int 0, .int 0, .int 0, .int 0, .int 0, .ref q5, .ref q6, .ref q7, .ref q8, .ref q9, .ref q10, .ref q11, .ref q12]))] := hD
  refine lv_if_eq (tgt := 57) hx hb dX3_fewest_52 (by decide) (fun c => absurd c (by decide)) (fun _ => ?_)
  refine lv_iload_n hx hb dX3_fewest_55 rfl (lv_at hl 1 rfl) ?_
  exact ms_iret hx hb hr hlk () rfl hP hD hS (Nat.le_of_ble_eq_true rfl) (Nat.le_of_ble_eq_true rfl) dX3_fewest_56
set_option maxHeartbeats 4000000 in
set_option maxRecDepth 100000 in
theorem cX10_mend_2 (l : Launch) (D : va_G) (cA : Nat → ClassId) (q0 q1 q2 q3 q4 q5 q6 q7 q8 q9 q10 q11 q12 q13 q14 q15 q16 q17 q18 q19 q20 q21 q22 : Nat) : ms_Mi l yX10_mend wsX10_mend ({ frames := 3, cells := 0, slots := 0, locals := 74 } : Room) D cA [.ref q0, .int (-1)] [(q0, .inr (10, [.ref q4, .ref q3, .ref q1, .ref q5, .ref q6, .int 0, .ref q7, .ref q8, .ref q2, .ref q9, .ref q10, .ref q11])), (q1, .inr (8, [.ref q12, .int 0, .int 0, .int 0, .int (-1), .int (-1)])), (q2, .inr (3, [.ref q13, .ref q14])), (q3, .inr (2, [.int 0, .int 0, .int 0, .int 0, .int 0, .ref q15, .ref q16, .ref q17, .ref q18, .ref q19, .ref q20, .ref q21, .ref q22]))] (fun (r : Int32) (_ : Unit) => r = 0) (fun (_ : Unit) => [(q0, .inr (10, [.ref q4, .ref q3, .ref q1, .ref q5, .ref q6, .int 0, .ref q7, .ref q8, .ref q2, .ref q9, .ref q10, .ref q11])), (q1, .inr (8, [.ref q12, .int 0, .int 0, .int 0, .int (-1), .int (-1)])), (q2, .inr (3, [.ref q13, .ref q14])), (q3, .inr (2, [.int 0, .int 0, .int 0, .int 0, .int 0, .ref q15, .ref q16, .ref q17, .ref q18, .ref q19, .ref q20, .ref q21, .ref q22]))]) := by
  refine ms_Mi_of (cc := cX10_mend) (maxL := 3) (ret := (some .int)) (by decide) rfl (Nat.le_of_ble_eq_true rfl) ?_
  intro p e s m args below meth c A ls hB hE hA hP hD hS hl
  obtain ⟨hx, hb, hr, hml, hown, hts, hlk, hnm⟩ := hB
  have hown : s.vm.findClass RX10 = some m.cls := hown
  have hnX8 : ∀ w ∈ u_ws RX8 TX8 6, w ∈ wsX10_mend := fun _ h => List.mem_cons_of_mem _ (List.mem_append_left _ (List.mem_append_left _ (List.mem_append_right _ (h))))
  have hnX10 : ∀ w ∈ u_ws RX10 TX10 12, w ∈ wsX10_mend := fun _ h => List.mem_cons_of_mem _ (List.mem_append_left _ (List.mem_append_left _ (List.mem_append_left _ (List.mem_append_right _ (h)))))
  have hl : lv_has ls 3 [(0, .ref q0), (1, .int (-1))] := hl
  refine lv_iload_n hx hb dX10_mend_0 rfl (lv_at hl 1 rfl) ?_
  refine lv_iconst (v := (-1)) hx hb dX10_mend_1 (by decide) ?_
  refine lv_icmp_eq (tgt := 19) hx hb dX10_mend_2 (by decide) (fun _ => ?_) (fun c => absurd (by decide) c)
  refine lv_aload_n hx hb dX10_mend_19 rfl (lv_at hl 0 rfl) ?_
  refine va_get (D := D) (ci := 10) (v := .ref q2) (C := RX10) (T := TX10) (N := 12) hx hb hts hnX10 hown hE.1 hP 0 rfl rfl 8 (by decide) (hts (.fieldLink RX10 61 "MovedStones" "mender" "LMovedStones$Mender;") (List.mem_cons_of_mem _ (List.mem_append_left _ (List.mem_append_left _ (List.mem_append_left _ (List.mem_append_left _ (List.mem_append_left _ (List.mem_of_getElem? (i := 2) rfl)))))))) (fun _ h9 => h9) rfl dX10_mend_20 ?_
  refine lv_aload_n hx hb dX10_mend_23 rfl (lv_at hl 0 rfl) ?_
  refine va_get (D := D) (ci := 10) (v := .ref q3) (C := RX10) (T := TX10) (N := 12) hx hb hts hnX10 hown hE.1 hP 0 rfl rfl 1 (by decide) (hts (.fieldLink RX10 19 "MovedStones" "land" "LMovedStones$Land;") (List.mem_cons_of_mem _ (List.mem_append_left _ (List.mem_append_left _ (List.mem_append_left _ (List.mem_append_left _ (List.mem_append_left _ (List.mem_of_getElem? (i := 0) rfl)))))))) (fun _ h9 => h9) rfl dX10_mend_24 ?_
  refine lv_aload_n hx hb dX10_mend_27 rfl (lv_at hl 0 rfl) ?_
  refine va_get (D := D) (ci := 10) (v := .ref q1) (C := RX10) (T := TX10) (N := 12) hx hb hts hnX10 hown hE.1 hP 0 rfl rfl 2 (by decide) (hts (.fieldLink RX10 26 "MovedStones" "now" "LMovedStones$State;") (List.mem_cons_of_mem _ (List.mem_append_left _ (List.mem_append_left _ (List.mem_append_left _ (List.mem_append_left _ (List.mem_append_left _ (List.mem_of_getElem? (i := 3) rfl)))))))) (fun _ h9 => h9) rfl dX10_mend_28 ?_
  refine va_get (D := D) (ci := 8) (v := .ref q12) (C := RX8) (T := TX8) (N := 6) hx hb hts hnX8 hown hE.1 hP 1 rfl rfl 0 (by decide) (hts (.fieldLink RX10 140 "MovedStones$State" "miles" "[I") (List.mem_cons_of_mem _ (List.mem_append_left _ (List.mem_append_left _ (List.mem_append_left _ (List.mem_append_left _ (List.mem_append_left _ (List.mem_of_getElem? (i := 4) rfl)))))))) (fun _ h9 => h9) rfl dX10_mend_31 ?_
  refine ms_cVi (qc := (RX3, TX3, 2)) (wc := [(q2, .inr (3, [.ref q13, .ref q14])), (q3, .inr (2, [.int 0, .int 0, .int 0, .int 0, .int 0, .ref q15, .ref q16, .ref q17, .ref q18, .ref q19, .ref q20, .ref q21, .ref q22]))]) (wr := [(q0, .inr (10, [.ref q4, .ref q3, .ref q1, .ref q5, .ref q6, .int 0, .ref q7, .ref q8, .ref q2, .ref q9, .ref q10, .ref q11])), (q1, .inr (8, [.ref q12, .int 0, .int 0, .int 0, .int (-1), .int (-1)]))]) ⟨hx, hb, hml, hown, hts⟩ hE (cX3_fewest_1 l D cA q2 q3 q12 q13 q14 q15 q16 q17 q18 q19 q20 q21 q22) (cwV 2 hts gX10_mend_X3_fewest rfl rfl rfl (by decide +kernel) ⟨Nat.le_of_ble_eq_true rfl, Nat.le_of_ble_eq_true rfl⟩) hP hD hS hA [2, 3] [0, 1] rfl rfl rfl rfl (by decide) 0 3 rfl rfl rfl hl.1 rfl (Nat.le_of_ble_eq_true rfl) dX10_mend_34 ⟨Nat.le_of_ble_eq_true rfl, Nat.le_of_ble_eq_true rfl⟩ (fun r2 u1 H locs hp hP hD hS => ?_)
  subst hp
  have hP : va_P D vwCl [(q0, .inr (10, [.ref q4, .ref q3, .ref q1, .ref q5, .ref q6, .int 0, .ref q7, .ref q8, .ref q2, .ref q9, .ref q10, .ref q11])), (q1, .inr (8, [.ref q12, .int 0, .int 0, .int 0, .int (-1), .int (-1)])), (q2, .inr (3, [.ref q13, .ref q14])), (q3, .inr (2, [.int 0, .int 0, .int 0, .int 0, .int 0, .ref q15, .ref q16, .ref q17, .ref q18, .ref q19, .ref q20, .ref q21, .ref q22]))] H := hP
  have hD : va_D A [(q0, .inr (10, [.ref q4, .ref q3, .ref q1, .ref q5, .ref q6, .int 0, .ref q7, .ref q8, .ref q2, .ref q9, .ref q10, .ref q11])), (q1, .inr (8, [.ref q12, .int 0, .int 0, .int 0, .int (-1), .int (-1)])), (q2, .inr (3, [.ref q13, .ref q14])), (q3, .inr (2, [.int 0, .int 0, .int 0, .int 0, .int 0, .ref q15, .ref q16, .ref q17, .ref q18, .ref q19, .ref q20, .ref q21, .ref q22]))] := hD
  refine lv_istore_n (lv' := [(2, .int 0), (0, .ref q0), (1, .int (-1))]) hx hb dX10_mend_37 rfl hl (by decide) rfl (fun ls hl => ?_)
  refine lv_iload_n hx hb dX10_mend_38 rfl (lv_at hl 0 rfl) ?_
  refine lv_iconst (v := (-1)) hx hb dX10_mend_39 (by decide) ?_
  refine lv_icmp_eq (tgt := 48) hx hb dX10_mend_40 (by decide) (fun c => absurd c (by decide)) (fun _ => ?_)
  refine lv_iload_n hx hb dX10_mend_43 rfl (lv_at hl 2 rfl) ?_
  refine lv_iconst (v := (-1)) hx hb dX10_mend_44 (by decide) ?_
  refine lv_icmp_ne (tgt := 50) hx hb dX10_mend_45 (by decide) (fun c => absurd (by decide) c) (fun _ => ?_)
  refine lv_iload_n hx hb dX10_mend_48 rfl (lv_at hl 0 rfl) ?_
  exact ms_iret hx hb hr hlk () rfl hP hD hS (Nat.le_of_ble_eq_true rfl) (Nat.le_of_ble_eq_true rfl) dX10_mend_49
set_option maxHeartbeats 4000000 in
set_option maxRecDepth 100000 in
theorem cX11_mend_2 (l : Launch) (D : va_G) (cA : Nat → ClassId) (q0 q1 q2 q3 q4 q5 q6 q7 q8 q9 q10 q11 q12 q13 q14 q15 q16 q17 q18 : Nat) : ms_Mi l yX11_mend wsX11_mend ({ frames := 0, cells := 0, slots := 0, locals := 0 } : Room) D cA [.ref q0, .int (-1)] [(q0, .inr (11, [.ref q1, .ref q2, .ref q3, .ref q4, .int 0, .ref q5, .ref q6, .long 0, .ref q7, .int 0, .int (-1), .ref q8, .ref q9, .int 0, .ref q10, .int 0, .int 0, .int 0, .int 0, .int 0, .int 0, .int 0, .ref q11, .ref q12, .ref q13, .int 0, .ref q14, .ref q15, .ref q16, .ref q17, .int 0, .ref q18])), (q1, .inl (cA 0, 68, .inl ms_z))] (fun (r : Int32) (_ : Unit) => r = 0) (fun (_ : Unit) => [(q0, .inr (11, [.ref q1, .ref q2, .ref q3, .ref q4, .int 0, .ref q5, .ref q6, .long 0, .ref q7, .int 0, .int (-1), .ref q8, .ref q9, .int 0, .ref q10, .int 0, .int 0, .int 0, .int 0, .int 0, .int 0, .int 0, .ref q11, .ref q12, .ref q13, .int 0, .ref q14, .ref q15, .ref q16, .ref q17, .int 0, .ref q18])), (q1, .inl (cA 0, 68, .inl ms_z))]) := by
  refine ms_Mi_of (cc := cX11_mend) (maxL := 3) (ret := (some .int)) (by decide) rfl (Nat.le_of_ble_eq_true rfl) ?_
  intro p e s m args below meth c A ls hB hE hA hP hD hS hl
  obtain ⟨hx, hb, hr, hml, hown, hts, hlk, hnm⟩ := hB
  have hown : s.vm.findClass RX11 = some m.cls := hown
  have hnX11 : ∀ w ∈ u_ws RX11 TX11 32, w ∈ wsX11_mend := fun _ h => List.mem_cons_of_mem _ (List.mem_append_right _ (h))
  have hl : lv_has ls 3 [(0, .ref q0), (1, .int (-1))] := hl
  refine lv_iload_n hx hb dX11_mend_0 rfl (lv_at hl 1 rfl) ?_
  refine lv_iconst (v := (-1)) hx hb dX11_mend_1 (by decide) ?_
  refine lv_icmp_eq (tgt := 16) hx hb dX11_mend_2 (by decide) (fun _ => ?_) (fun c => absurd (by decide) c)
  refine lv_aload_n hx hb dX11_mend_16 rfl (lv_at hl 0 rfl) ?_
  refine va_get (D := D) (ci := 11) (v := .ref q1) (C := RX11) (T := TX11) (N := 32) hx hb hts hnX11 hown hE.1 hP 0 rfl rfl 0 (by decide) (hts (.fieldLink RX11 7 "MovedStonesModel" "march" "[I") (List.mem_cons_of_mem _ (List.mem_append_left _ (List.mem_append_left _ (List.mem_of_getElem? (i := 1) rfl))))) (fun _ h9 => h9) rfl dX11_mend_17 ?_
  refine lv_iconst (v := 3) hx hb dX11_mend_20 (by decide) ?_
  refine ms_iald (x := 0) hx hb hE hP 1 rfl 3 rfl (by omega) (by decide) (rfl) dX11_mend_21 ?_
  refine lv_if_ne (tgt := 27) hx hb dX11_mend_22 (by decide) (fun c => absurd (by decide) c) (fun _ => ?_)
  refine lv_iconst (v := 0) hx hb dX11_mend_25 (by decide) ?_
  exact ms_iret hx hb hr hlk () rfl hP hD hS (Nat.le_of_ble_eq_true rfl) (Nat.le_of_ble_eq_true rfl) dX11_mend_26
set_option maxHeartbeats 4000000 in
set_option maxRecDepth 100000 in
theorem cX2_hasRoad_3 (l : Launch) (D : va_G) (cA : Nat → ClassId) (q0 q1 q2 q3 q4 q5 q6 q7 q8 : Nat) (a0 : Int32) (g0 : 0 ≤ a0.toInt) : ms_Mi l yX2_hasRoad wsX2_hasRoad ({ frames := 0, cells := 0, slots := 0, locals := 0 } : Room) D cA [.ref q0, .int a0] [(q0, .inr (2, [.int 0, .int 0, .int 0, .int 0, .int 0, .ref q1, .ref q2, .ref q3, .ref q4, .ref q5, .ref q6, .ref q7, .ref q8]))] (fun (r : Int32) (_ : Unit) => r = 0) (fun (_ : Unit) => [(q0, .inr (2, [.int 0, .int 0, .int 0, .int 0, .int 0, .ref q1, .ref q2, .ref q3, .ref q4, .ref q5, .ref q6, .ref q7, .ref q8]))]) := by
  refine ms_Mi_of (cc := cX2_hasRoad) (maxL := 2) (ret := (some .boolean)) (by decide) rfl (Nat.le_of_ble_eq_true rfl) ?_
  intro p e s m args below meth c A ls hB hE hA hP hD hS hl
  obtain ⟨hx, hb, hr, hml, hown, hts, hlk, hnm⟩ := hB
  have hown : s.vm.findClass RX2 = some m.cls := hown
  have hnX2 : ∀ w ∈ u_ws RX2 TX2 13, w ∈ wsX2_hasRoad := fun _ h => List.mem_cons_of_mem _ (List.mem_append_right _ (h))
  have hl : lv_has ls 2 [(0, .ref q0), (1, .int a0)] := hl
  refine lv_iload_n hx hb dX2_hasRoad_0 rfl (lv_at hl 1 rfl) ?_
  refine lv_if_lt (tgt := 16) hx hb dX2_hasRoad_1 (by decide) (fun c => by exfalso; have hc1 := Int32.lt_iff_toInt_lt.mp c; have z2 : (0 : Int32).toInt = 0 := (by decide); omega) (fun _ => ?_)
  refine lv_iload_n hx hb dX2_hasRoad_4 rfl (lv_at hl 1 rfl) ?_
  refine lv_aload_n hx hb dX2_hasRoad_5 rfl (lv_at hl 0 rfl) ?_
  refine va_get (D := D) (ci := 2) (v := .int 0) (C := RX2) (T := TX2) (N := 13) hx hb hts hnX2 hown hE.1 hP 0 rfl rfl 3 (by decide) (hts (.fieldLink RX2 46 "MovedStones$Land" "roads" "I") (List.mem_cons_of_mem _ (List.mem_append_left _ (List.mem_of_getElem? (i := 0) rfl)))) (fun _ h9 => h9) rfl dX2_hasRoad_6 ?_
  refine lv_icmp_ge (tgt := 16) hx hb dX2_hasRoad_9 (by decide) (fun _ => ?_) (fun c => by exfalso; have hc3 := mt Int32.le_iff_toInt_le.mpr c; have z4 : (0 : Int32).toInt = 0 := (by decide); omega)
  refine lv_iconst (v := 0) hx hb dX2_hasRoad_16 (by decide) ?_
  exact ms_zret hx hb hr rfl hlk () rfl hP hD hS (Nat.le_of_ble_eq_true rfl) (Nat.le_of_ble_eq_true rfl) dX2_hasRoad_17
set_option maxHeartbeats 4000000 in
set_option maxRecDepth 100000 in
theorem cX10_mend_3 (l : Launch) (D : va_G) (cA : Nat → ClassId) (q0 q1 q2 q3 q4 q5 q6 q7 q8 q9 q10 q11 q12 q13 q14 q15 q16 q17 q18 q19 : Nat) (a0 : Int32) (g0 : 0 ≤ a0.toInt) : ms_Mi l yX10_mend wsX10_mend ({ frames := 1, cells := 0, slots := 0, locals := 21 } : Room) D cA [.ref q0, .int a0] [(q0, .inr (10, [.ref q2, .ref q1, .ref q3, .ref q4, .ref q5, .int 0, .ref q6, .ref q7, .ref q8, .ref q9, .ref q10, .ref q11])), (q1, .inr (2, [.int 0, .int 0, .int 0, .int 0, .int 0, .ref q12, .ref q13, .ref q14, .ref q15, .ref q16, .ref q17, .ref q18, .ref q19]))] (fun (r : Int32) (_ : Unit) => r = (-1000000001)) (fun (_ : Unit) => [(q0, .inr (10, [.ref q2, .ref q1, .ref q3, .ref q4, .ref q5, .int 0, .ref q6, .ref q7, .ref q8, .ref q9, .ref q10, .ref q11])), (q1, .inr (2, [.int 0, .int 0, .int 0, .int 0, .int 0, .ref q12, .ref q13, .ref q14, .ref q15, .ref q16, .ref q17, .ref q18, .ref q19]))]) := by
  refine ms_Mi_of (cc := cX10_mend) (maxL := 3) (ret := (some .int)) (by decide) rfl (Nat.le_of_ble_eq_true rfl) ?_
  intro p e s m args below meth c A ls hB hE hA hP hD hS hl
  obtain ⟨hx, hb, hr, hml, hown, hts, hlk, hnm⟩ := hB
  have hown : s.vm.findClass RX10 = some m.cls := hown
  have hnX10 : ∀ w ∈ u_ws RX10 TX10 12, w ∈ wsX10_mend := fun _ h => List.mem_cons_of_mem _ (List.mem_append_left _ (List.mem_append_left _ (List.mem_append_left _ (List.mem_append_right _ (h)))))
  have hl : lv_has ls 3 [(0, .ref q0), (1, .int a0)] := hl
  refine lv_iload_n hx hb dX10_mend_0 rfl (lv_at hl 1 rfl) ?_
  refine lv_iconst (v := (-1)) hx hb dX10_mend_1 (by decide) ?_
  refine lv_icmp_eq (tgt := 19) hx hb dX10_mend_2 (by decide) (fun c => by exfalso; have hc1 := congrArg Int32.toInt c; have z2 : ((-1) : Int32).toInt = -1 := (by decide); omega) (fun _ => ?_)
  refine lv_aload_n hx hb dX10_mend_5 rfl (lv_at hl 0 rfl) ?_
  refine va_get (D := D) (ci := 10) (v := .ref q1) (C := RX10) (T := TX10) (N := 12) hx hb hts hnX10 hown hE.1 hP 0 rfl rfl 1 (by decide) (hts (.fieldLink RX10 19 "MovedStones" "land" "LMovedStones$Land;") (List.mem_cons_of_mem _ (List.mem_append_left _ (List.mem_append_left _ (List.mem_append_left _ (List.mem_append_left _ (List.mem_append_left _ (List.mem_of_getElem? (i := 0) rfl)))))))) (fun _ h9 => h9) rfl dX10_mend_6 ?_
  refine lv_iload_n hx hb dX10_mend_9 rfl (lv_at hl 1 rfl) ?_
  refine ms_cVi (qc := (RX2, TX2, 13)) (wc := [(q1, .inr (2, [.int 0, .int 0, .int 0, .int 0, .int 0, .ref q12, .ref q13, .ref q14, .ref q15, .ref q16, .ref q17, .ref q18, .ref q19]))]) (wr := [(q0, .inr (10, [.ref q2, .ref q1, .ref q3, .ref q4, .ref q5, .int 0, .ref q6, .ref q7, .ref q8, .ref q9, .ref q10, .ref q11]))]) ⟨hx, hb, hml, hown, hts⟩ hE (cX2_hasRoad_3 l D cA q1 q12 q13 q14 q15 q16 q17 q18 q19 a0 (by omega)) (cwV 1 hts gX10_mend_X2_hasRoad rfl rfl rfl (by decide +kernel) ⟨Nat.le_of_ble_eq_true rfl, Nat.le_of_ble_eq_true rfl⟩) hP hD hS hA [1] [0] rfl rfl rfl rfl (by decide) 0 2 rfl rfl rfl hl.1 rfl (Nat.le_of_ble_eq_true rfl) dX10_mend_10 ⟨Nat.le_of_ble_eq_true rfl, Nat.le_of_ble_eq_true rfl⟩ (fun r4 u3 H locs hp hP hD hS => ?_)
  subst hp
  have hP : va_P D vwCl [(q0, .inr (10, [.ref q2, .ref q1, .ref q3, .ref q4, .ref q5, .int 0, .ref q6, .ref q7, .ref q8, .ref q9, .ref q10, .ref q11])), (q1, .inr (2, [.int 0, .int 0, .int 0, .int 0, .int 0, .ref q12, .ref q13, .ref q14, .ref q15, .ref q16, .ref q17, .ref q18, .ref q19]))] H := hP
  have hD : va_D A [(q0, .inr (10, [.ref q2, .ref q1, .ref q3, .ref q4, .ref q5, .int 0, .ref q6, .ref q7, .ref q8, .ref q9, .ref q10, .ref q11])), (q1, .inr (2, [.int 0, .int 0, .int 0, .int 0, .int 0, .ref q12, .ref q13, .ref q14, .ref q15, .ref q16, .ref q17, .ref q18, .ref q19]))] := hD
  refine lv_if_ne (tgt := 19) hx hb dX10_mend_13 (by decide) (fun c => absurd (by decide) c) (fun _ => ?_)
  refine lv_ldc (v := (-1000000001)) hx hb hown (hts (.constant RX10 178 (-1000000001)) (List.mem_cons_of_mem _ (List.mem_append_left _ (List.mem_append_left _ (List.mem_append_left _ (List.mem_append_left _ (List.mem_append_left _ (List.mem_of_getElem? (i := 1) rfl)))))))) dX10_mend_16 ?_
  exact ms_iret hx hb hr hlk () rfl hP hD hS (Nat.le_of_ble_eq_true rfl) (Nat.le_of_ble_eq_true rfl) dX10_mend_18
set_option maxHeartbeats 4000000 in
set_option maxRecDepth 100000 in
theorem cX11_isRoad_3 (l : Launch) (D : va_G) (cA : Nat → ClassId) (q0 q1 q2 q3 q4 q5 q6 q7 q8 q9 q10 q11 q12 q13 q14 q15 q16 q17 q18 : Nat) (a0 : Int32) (g0 : 0 ≤ a0.toInt) : ms_Mi l yX11_isRoad wsX11_isRoad ({ frames := 1, cells := 0, slots := 0, locals := 25 } : Room) D cA [.ref q0, .int a0] [(q0, .inr (11, [.ref q1, .ref q2, .ref q3, .ref q4, .int 0, .ref q5, .ref q6, .long 0, .ref q7, .int 0, .int (-1), .ref q8, .ref q9, .int 0, .ref q10, .int 0, .int 0, .int 0, .int 0, .int 0, .int 0, .int 0, .ref q11, .ref q12, .ref q13, .int 0, .ref q14, .ref q15, .ref q16, .ref q17, .int 0, .ref q18])), (q1, .inl (cA 0, 68, .inl ms_z))] (fun (r : Int32) (_ : Unit) => r = 0) (fun (_ : Unit) => [(q0, .inr (11, [.ref q1, .ref q2, .ref q3, .ref q4, .int 0, .ref q5, .ref q6, .long 0, .ref q7, .int 0, .int (-1), .ref q8, .ref q9, .int 0, .ref q10, .int 0, .int 0, .int 0, .int 0, .int 0, .int 0, .int 0, .ref q11, .ref q12, .ref q13, .int 0, .ref q14, .ref q15, .ref q16, .ref q17, .int 0, .ref q18])), (q1, .inl (cA 0, 68, .inl ms_z))]) := by
  refine ms_Mi_of (cc := cX11_isRoad) (maxL := 2) (ret := (some .boolean)) (by decide) rfl (Nat.le_of_ble_eq_true rfl) ?_
  intro p e s m args below meth c A ls hB hE hA hP hD hS hl
  obtain ⟨hx, hb, hr, hml, hown, hts, hlk, hnm⟩ := hB
  have hown : s.vm.findClass RX11 = some m.cls := hown
  have hnX11 : ∀ w ∈ u_ws RX11 TX11 32, w ∈ wsX11_isRoad := fun _ h => List.mem_cons_of_mem _ (List.mem_append_right _ (h))
  have hl : lv_has ls 2 [(0, .ref q0), (1, .int a0)] := hl
  refine lv_iload_n hx hb dX11_isRoad_0 rfl (lv_at hl 1 rfl) ?_
  refine lv_i2l (v := a0.toInt64) hx hb dX11_isRoad_1 rfl ?_
  refine lv_lconst (v := 0) hx hb dX11_isRoad_2 (by decide) ?_
  refine lv_aload_n hx hb dX11_isRoad_3 rfl (lv_at hl 0 rfl) ?_
  refine va_get (D := D) (ci := 11) (v := .ref q1) (C := RX11) (T := TX11) (N := 32) hx hb hts hnX11 hown hE.1 hP 0 rfl rfl 0 (by decide) (hts (.fieldLink RX11 7 "MovedStonesModel" "march" "[I") (List.mem_cons_of_mem _ (List.mem_append_left _ (List.mem_of_getElem? (i := 0) rfl)))) (fun _ h9 => h9) rfl dX11_isRoad_4 ?_
  refine lv_iconst (v := 3) hx hb dX11_isRoad_7 (by decide) ?_
  refine ms_iald (x := 0) hx hb hE hP 1 rfl 3 rfl (by omega) (by decide) (rfl) dX11_isRoad_8 ?_
  refine lv_iconst (v := 1) hx hb dX11_isRoad_9 (by decide) ?_
  refine lv_isub hx hb dX11_isRoad_10 ?_
  refine ms_eqi (y := (-1)) (by decide) ?_
  refine lv_i2l (v := (-1)) hx hb dX11_isRoad_11 (by decide) ?_
  refine ms_cSi (wc := []) (wr := [(q0, .inr (11, [.ref q1, .ref q2, .ref q3, .ref q4, .int 0, .ref q5, .ref q6, .long 0, .ref q7, .int 0, .int (-1), .ref q8, .ref q9, .int 0, .ref q10, .int 0, .int 0, .int 0, .int 0, .int 0, .int 0, .int 0, .ref q11, .ref q12, .ref q13, .int 0, .ref q14, .ref q15, .ref q16, .ref q17, .int 0, .ref q18])), (q1, .inl (cA 0, 68, .inl ms_z))]) ⟨hx, hb, hml, hown, hts⟩ hE (c_in l D cA a0.toInt64 0 (-1)) (va_cwS 3 hts gX11_isRoad_X11_in rfl rfl rfl (by decide +kernel) ⟨Nat.le_of_ble_eq_true rfl, Nat.le_of_ble_eq_true rfl⟩) hP hD hS hA [] [0, 1] rfl rfl rfl rfl (by decide) rfl hl.1 rfl (Nat.le_of_ble_eq_true rfl) dX11_isRoad_12 ⟨Nat.le_of_ble_eq_true rfl, Nat.le_of_ble_eq_true rfl⟩ (fun r1 u2 H locs hp hP hD hS => ?_)
  have hp : r1 = 0 := by rw [hp]; have z3 : (0 : Int64).toInt = 0 := (by decide); have z4 : ((-1) : Int64).toInt = -1 := (by decide); have z5 : (a0.toInt64).toInt = a0.toInt := Int32.toInt_toInt64 _; exact if_neg (by omega)
  subst hp
  have hP : va_P D vwCl [(q0, .inr (11, [.ref q1, .ref q2, .ref q3, .ref q4, .int 0, .ref q5, .ref q6, .long 0, .ref q7, .int 0, .int (-1), .ref q8, .ref q9, .int 0, .ref q10, .int 0, .int 0, .int 0, .int 0, .int 0, .int 0, .int 0, .ref q11, .ref q12, .ref q13, .int 0, .ref q14, .ref q15, .ref q16, .ref q17, .int 0, .ref q18])), (q1, .inl (cA 0, 68, .inl ms_z))] H := hP
  have hD : va_D A [(q0, .inr (11, [.ref q1, .ref q2, .ref q3, .ref q4, .int 0, .ref q5, .ref q6, .long 0, .ref q7, .int 0, .int (-1), .ref q8, .ref q9, .int 0, .ref q10, .int 0, .int 0, .int 0, .int 0, .int 0, .int 0, .int 0, .ref q11, .ref q12, .ref q13, .int 0, .ref q14, .ref q15, .ref q16, .ref q17, .int 0, .ref q18])), (q1, .inl (cA 0, 68, .inl ms_z))] := hD
  exact ms_zret hx hb hr rfl hlk () rfl hP hD hS (Nat.le_of_ble_eq_true rfl) (Nat.le_of_ble_eq_true rfl) dX11_isRoad_15
set_option maxHeartbeats 4000000 in
set_option maxRecDepth 100000 in
theorem cX11_mend_3 (l : Launch) (D : va_G) (cA : Nat → ClassId) (q0 q1 q2 q3 q4 q5 q6 q7 q8 q9 q10 q11 q12 q13 q14 q15 q16 q17 q18 : Nat) (a0 : Int32) (g0 : 0 ≤ a0.toInt) : ms_Mi l yX11_mend wsX11_mend ({ frames := 2, cells := 0, slots := 0, locals := 46 } : Room) D cA [.ref q0, .int a0] [(q0, .inr (11, [.ref q1, .ref q2, .ref q3, .ref q4, .int 0, .ref q5, .ref q6, .long 0, .ref q7, .int 0, .int (-1), .ref q8, .ref q9, .int 0, .ref q10, .int 0, .int 0, .int 0, .int 0, .int 0, .int 0, .int 0, .ref q11, .ref q12, .ref q13, .int 0, .ref q14, .ref q15, .ref q16, .ref q17, .int 0, .ref q18])), (q1, .inl (cA 0, 68, .inl ms_z))] (fun (r : Int32) (_ : Unit) => r = (-1000000001)) (fun (_ : Unit) => [(q0, .inr (11, [.ref q1, .ref q2, .ref q3, .ref q4, .int 0, .ref q5, .ref q6, .long 0, .ref q7, .int 0, .int (-1), .ref q8, .ref q9, .int 0, .ref q10, .int 0, .int 0, .int 0, .int 0, .int 0, .int 0, .int 0, .ref q11, .ref q12, .ref q13, .int 0, .ref q14, .ref q15, .ref q16, .ref q17, .int 0, .ref q18])), (q1, .inl (cA 0, 68, .inl ms_z))]) := by
  refine ms_Mi_of (cc := cX11_mend) (maxL := 3) (ret := (some .int)) (by decide) rfl (Nat.le_of_ble_eq_true rfl) ?_
  intro p e s m args below meth c A ls hB hE hA hP hD hS hl
  obtain ⟨hx, hb, hr, hml, hown, hts, hlk, hnm⟩ := hB
  have hown : s.vm.findClass RX11 = some m.cls := hown
  have hl : lv_has ls 3 [(0, .ref q0), (1, .int a0)] := hl
  refine lv_iload_n hx hb dX11_mend_0 rfl (lv_at hl 1 rfl) ?_
  refine lv_iconst (v := (-1)) hx hb dX11_mend_1 (by decide) ?_
  refine lv_icmp_eq (tgt := 16) hx hb dX11_mend_2 (by decide) (fun c => by exfalso; have hc1 := congrArg Int32.toInt c; have z2 : ((-1) : Int32).toInt = -1 := (by decide); omega) (fun _ => ?_)
  refine lv_aload_n hx hb dX11_mend_5 rfl (lv_at hl 0 rfl) ?_
  refine lv_iload_n hx hb dX11_mend_6 rfl (lv_at hl 1 rfl) ?_
  refine ms_cVi (qc := (RX11, TX11, 32)) (wc := [(q0, .inr (11, [.ref q1, .ref q2, .ref q3, .ref q4, .int 0, .ref q5, .ref q6, .long 0, .ref q7, .int 0, .int (-1), .ref q8, .ref q9, .int 0, .ref q10, .int 0, .int 0, .int 0, .int 0, .int 0, .int 0, .int 0, .ref q11, .ref q12, .ref q13, .int 0, .ref q14, .ref q15, .ref q16, .ref q17, .int 0, .ref q18])), (q1, .inl (cA 0, 68, .inl ms_z))]) (wr := []) ⟨hx, hb, hml, hown, hts⟩ hE (cX11_isRoad_3 l D cA q0 q1 q2 q3 q4 q5 q6 q7 q8 q9 q10 q11 q12 q13 q14 q15 q16 q17 q18 a0 (by omega)) (cwV 1 hts gX11_mend_X11_isRoad rfl rfl rfl (by decide +kernel) ⟨Nat.le_of_ble_eq_true rfl, Nat.le_of_ble_eq_true rfl⟩) hP hD hS hA [0, 1] [] rfl rfl rfl rfl (by decide) 0 11 rfl rfl rfl hl.1 rfl (Nat.le_of_ble_eq_true rfl) dX11_mend_7 ⟨Nat.le_of_ble_eq_true rfl, Nat.le_of_ble_eq_true rfl⟩ (fun r4 u3 H locs hp hP hD hS => ?_)
  subst hp
  have hP : va_P D vwCl [(q0, .inr (11, [.ref q1, .ref q2, .ref q3, .ref q4, .int 0, .ref q5, .ref q6, .long 0, .ref q7, .int 0, .int (-1), .ref q8, .ref q9, .int 0, .ref q10, .int 0, .int 0, .int 0, .int 0, .int 0, .int 0, .int 0, .ref q11, .ref q12, .ref q13, .int 0, .ref q14, .ref q15, .ref q16, .ref q17, .int 0, .ref q18])), (q1, .inl (cA 0, 68, .inl ms_z))] H := hP
  have hD : va_D A [(q0, .inr (11, [.ref q1, .ref q2, .ref q3, .ref q4, .int 0, .ref q5, .ref q6, .long 0, .ref q7, .int 0, .int (-1), .ref q8, .ref q9, .int 0, .ref q10, .int 0, .int 0, .int 0, .int 0, .int 0, .int 0, .int 0, .ref q11, .ref q12, .ref q13, .int 0, .ref q14, .ref q15, .ref q16, .ref q17, .int 0, .ref q18])), (q1, .inl (cA 0, 68, .inl ms_z))] := hD
  refine lv_if_ne (tgt := 16) hx hb dX11_mend_10 (by decide) (fun c => absurd (by decide) c) (fun _ => ?_)
  refine lv_ldc (v := (-1000000001)) hx hb hown (hts (.constant RX11 173 (-1000000001)) (List.mem_cons_of_mem _ (List.mem_append_left _ (List.mem_append_left _ (List.mem_of_getElem? (i := 0) rfl))))) dX11_mend_13 ?_
  exact ms_iret hx hb hr hlk () rfl hP hD hS (Nat.le_of_ble_eq_true rfl) (Nat.le_of_ble_eq_true rfl) dX11_mend_15
set_option maxHeartbeats 4000000 in
set_option maxRecDepth 100000 in
theorem cX10_want_1 (l : Launch) (D : va_G) (cA : Nat → ClassId) (q0 q1 q2 q3 q4 q5 q6 q7 q8 q9 q10 q11 q12 q13 q14 q15 q16 q17 q18 q19 : Nat) (a0 : Int32) (a1 : Int32) : ms_Mi l yX10_want wsX10_want ({ frames := 1, cells := 0, slots := 0, locals := 21 } : Room) D cA [.ref q0, .int a0, .int a1] [(q0, .inr (10, [.ref q2, .ref q1, .ref q3, .ref q4, .ref q5, .int 0, .ref q6, .ref q7, .ref q8, .ref q9, .ref q10, .ref q11])), (q1, .inr (2, [.int 0, .int 0, .int 0, .int 0, .int 0, .ref q12, .ref q13, .ref q14, .ref q15, .ref q16, .ref q17, .ref q18, .ref q19]))] (fun (r : Int32) (_ : Unit) => r = (-1000000001)) (fun (_ : Unit) => [(q0, .inr (10, [.ref q2, .ref q1, .ref q3, .ref q4, .ref q5, .int 0, .ref q6, .ref q7, .ref q8, .ref q9, .ref q10, .ref q11])), (q1, .inr (2, [.int 0, .int 0, .int 0, .int 0, .int 0, .ref q12, .ref q13, .ref q14, .ref q15, .ref q16, .ref q17, .ref q18, .ref q19]))]) := by
  refine ms_Mi_of (cc := cX10_want) (maxL := 4) (ret := (some .int)) (by decide) rfl (Nat.le_of_ble_eq_true rfl) ?_
  intro p e s m args below meth c A ls hB hE hA hP hD hS hl
  obtain ⟨hx, hb, hr, hml, hown, hts, hlk, hnm⟩ := hB
  have hown : s.vm.findClass RX10 = some m.cls := hown
  have hnX10 : ∀ w ∈ u_ws RX10 TX10 12, w ∈ wsX10_want := fun _ h => List.mem_cons_of_mem _ (List.mem_append_left _ (List.mem_append_left _ (List.mem_append_right _ (h))))
  have hl : lv_has ls 4 [(0, .ref q0), (1, .int a0), (2, .int a1)] := hl
  refine lv_aload_n hx hb dX10_want_0 rfl (lv_at hl 0 rfl) ?_
  refine va_get (D := D) (ci := 10) (v := .ref q1) (C := RX10) (T := TX10) (N := 12) hx hb hts hnX10 hown hE.1 hP 0 rfl rfl 1 (by decide) (hts (.fieldLink RX10 19 "MovedStones" "land" "LMovedStones$Land;") (List.mem_cons_of_mem _ (List.mem_append_left _ (List.mem_append_left _ (List.mem_append_left _ (List.mem_append_left _ (List.mem_of_getElem? (i := 0) rfl))))))) (fun _ h9 => h9) rfl dX10_want_1 ?_
  refine lv_iload_n hx hb dX10_want_4 rfl (lv_at hl 1 rfl) ?_
  refine ms_cVi (qc := (RX2, TX2, 13)) (wc := [(q1, .inr (2, [.int 0, .int 0, .int 0, .int 0, .int 0, .ref q12, .ref q13, .ref q14, .ref q15, .ref q16, .ref q17, .ref q18, .ref q19]))]) (wr := [(q0, .inr (10, [.ref q2, .ref q1, .ref q3, .ref q4, .ref q5, .int 0, .ref q6, .ref q7, .ref q8, .ref q9, .ref q10, .ref q11]))]) ⟨hx, hb, hml, hown, hts⟩ hE (cX2_hasRoad_1 l D cA q1 q12 q13 q14 q15 q16 q17 q18 q19 a0) (cwV 1 hts gX10_want_X2_hasRoad rfl rfl rfl (by decide +kernel) ⟨Nat.le_of_ble_eq_true rfl, Nat.le_of_ble_eq_true rfl⟩) hP hD hS hA [1] [0] rfl rfl rfl rfl (by decide) 0 2 rfl rfl rfl hl.1 rfl (Nat.le_of_ble_eq_true rfl) dX10_want_5 ⟨Nat.le_of_ble_eq_true rfl, Nat.le_of_ble_eq_true rfl⟩ (fun r2 u1 H locs hp hP hD hS => ?_)
  subst hp
  have hP : va_P D vwCl [(q0, .inr (10, [.ref q2, .ref q1, .ref q3, .ref q4, .ref q5, .int 0, .ref q6, .ref q7, .ref q8, .ref q9, .ref q10, .ref q11])), (q1, .inr (2, [.int 0, .int 0, .int 0, .int 0, .int 0, .ref q12, .ref q13, .ref q14, .ref q15, .ref q16, .ref q17, .ref q18, .ref q19]))] H := hP
  have hD : va_D A [(q0, .inr (10, [.ref q2, .ref q1, .ref q3, .ref q4, .ref q5, .int 0, .ref q6, .ref q7, .ref q8, .ref q9, .ref q10, .ref q11])), (q1, .inr (2, [.int 0, .int 0, .int 0, .int 0, .int 0, .ref q12, .ref q13, .ref q14, .ref q15, .ref q16, .ref q17, .ref q18, .ref q19]))] := hD
  refine lv_if_ne (tgt := 14) hx hb dX10_want_8 (by decide) (fun c => absurd (by decide) c) (fun _ => ?_)
  refine lv_ldc (v := (-1000000001)) hx hb hown (hts (.constant RX10 178 (-1000000001)) (List.mem_cons_of_mem _ (List.mem_append_left _ (List.mem_append_left _ (List.mem_append_left _ (List.mem_append_left _ (List.mem_of_getElem? (i := 1) rfl))))))) dX10_want_11 ?_
  exact ms_iret hx hb hr hlk () rfl hP hD hS (Nat.le_of_ble_eq_true rfl) (Nat.le_of_ble_eq_true rfl) dX10_want_13
set_option maxHeartbeats 4000000 in
set_option maxRecDepth 100000 in
theorem cX11_want_1 (l : Launch) (D : va_G) (cA : Nat → ClassId) (q0 q1 q2 q3 q4 q5 q6 q7 q8 q9 q10 q11 q12 q13 q14 q15 q16 q17 q18 : Nat) (a0 : Int32) (a1 : Int32) : ms_Mi l yX11_want wsX11_want ({ frames := 2, cells := 0, slots := 0, locals := 46 } : Room) D cA [.ref q0, .int a0, .int a1] [(q0, .inr (11, [.ref q1, .ref q2, .ref q3, .ref q4, .int 0, .ref q5, .ref q6, .long 0, .ref q7, .int 0, .int (-1), .ref q8, .ref q9, .int 0, .ref q10, .int 0, .int 0, .int 0, .int 0, .int 0, .int 0, .int 0, .ref q11, .ref q12, .ref q13, .int 0, .ref q14, .ref q15, .ref q16, .ref q17, .int 0, .ref q18])), (q1, .inl (cA 0, 68, .inl ms_z))] (fun (r : Int32) (_ : Unit) => r = (-1000000001)) (fun (_ : Unit) => [(q0, .inr (11, [.ref q1, .ref q2, .ref q3, .ref q4, .int 0, .ref q5, .ref q6, .long 0, .ref q7, .int 0, .int (-1), .ref q8, .ref q9, .int 0, .ref q10, .int 0, .int 0, .int 0, .int 0, .int 0, .int 0, .int 0, .ref q11, .ref q12, .ref q13, .int 0, .ref q14, .ref q15, .ref q16, .ref q17, .int 0, .ref q18])), (q1, .inl (cA 0, 68, .inl ms_z))]) := by
  refine ms_Mi_of (cc := cX11_want) (maxL := 3) (ret := (some .int)) (by decide) rfl (Nat.le_of_ble_eq_true rfl) ?_
  intro p e s m args below meth c A ls hB hE hA hP hD hS hl
  obtain ⟨hx, hb, hr, hml, hown, hts, hlk, hnm⟩ := hB
  have hown : s.vm.findClass RX11 = some m.cls := hown
  have hl : lv_has ls 3 [(0, .ref q0), (1, .int a0), (2, .int a1)] := hl
  refine lv_aload_n hx hb dX11_want_0 rfl (lv_at hl 0 rfl) ?_
  refine lv_iload_n hx hb dX11_want_1 rfl (lv_at hl 1 rfl) ?_
  refine ms_cVi (qc := (RX11, TX11, 32)) (wc := [(q0, .inr (11, [.ref q1, .ref q2, .ref q3, .ref q4, .int 0, .ref q5, .ref q6, .long 0, .ref q7, .int 0, .int (-1), .ref q8, .ref q9, .int 0, .ref q10, .int 0, .int 0, .int 0, .int 0, .int 0, .int 0, .int 0, .ref q11, .ref q12, .ref q13, .int 0, .ref q14, .ref q15, .ref q16, .ref q17, .int 0, .ref q18])), (q1, .inl (cA 0, 68, .inl ms_z))]) (wr := []) ⟨hx, hb, hml, hown, hts⟩ hE (cX11_isRoad_1 l D cA q0 q1 q2 q3 q4 q5 q6 q7 q8 q9 q10 q11 q12 q13 q14 q15 q16 q17 q18 a0) (cwV 1 hts gX11_want_X11_isRoad rfl rfl rfl (by decide +kernel) ⟨Nat.le_of_ble_eq_true rfl, Nat.le_of_ble_eq_true rfl⟩) hP hD hS hA [0, 1] [] rfl rfl rfl rfl (by decide) 0 11 rfl rfl rfl hl.1 rfl (Nat.le_of_ble_eq_true rfl) dX11_want_2 ⟨Nat.le_of_ble_eq_true rfl, Nat.le_of_ble_eq_true rfl⟩ (fun r2 u1 H locs hp hP hD hS => ?_)
  subst hp
  have hP : va_P D vwCl [(q0, .inr (11, [.ref q1, .ref q2, .ref q3, .ref q4, .int 0, .ref q5, .ref q6, .long 0, .ref q7, .int 0, .int (-1), .ref q8, .ref q9, .int 0, .ref q10, .int 0, .int 0, .int 0, .int 0, .int 0, .int 0, .int 0, .ref q11, .ref q12, .ref q13, .int 0, .ref q14, .ref q15, .ref q16, .ref q17, .int 0, .ref q18])), (q1, .inl (cA 0, 68, .inl ms_z))] H := hP
  have hD : va_D A [(q0, .inr (11, [.ref q1, .ref q2, .ref q3, .ref q4, .int 0, .ref q5, .ref q6, .long 0, .ref q7, .int 0, .int (-1), .ref q8, .ref q9, .int 0, .ref q10, .int 0, .int 0, .int 0, .int 0, .int 0, .int 0, .int 0, .ref q11, .ref q12, .ref q13, .int 0, .ref q14, .ref q15, .ref q16, .ref q17, .int 0, .ref q18])), (q1, .inl (cA 0, 68, .inl ms_z))] := hD
  refine lv_if_ne (tgt := 11) hx hb dX11_want_5 (by decide) (fun c => absurd (by decide) c) (fun _ => ?_)
  refine lv_ldc (v := (-1000000001)) hx hb hown (hts (.constant RX11 173 (-1000000001)) (List.mem_cons_of_mem _ (List.mem_append_left _ (List.mem_of_getElem? (i := 0) rfl)))) dX11_want_8 ?_
  exact ms_iret hx hb hr hlk () rfl hP hD hS (Nat.le_of_ble_eq_true rfl) (Nat.le_of_ble_eq_true rfl) dX11_want_10
set_option maxHeartbeats 4000000 in
set_option maxRecDepth 100000 in
theorem cJ6_bitCount_0f7a4_1 (l : Launch) (D : va_G) (cA : Nat → ClassId) : ms_Mi l yJ6_bitCount_0f7a4 wsJ6_bitCount_0f7a4 ({ frames := 0, cells := 0, slots := 0, locals := 0 } : Room) D cA [.int 0] [] (fun (r : Int32) (_ : Unit) => r = 0) (fun (_ : Unit) => []) := by
  refine ms_Mi_of (cc := cJ6_bitCount_0f7a4) (maxL := 1) (ret := (some .int)) (by decide) rfl (Nat.le_of_ble_eq_true rfl) ?_
  intro p e s m args below meth c A ls hB hE hA hP hD hS hl
  obtain ⟨hx, hb, hr, hml, hown, hts, hlk, hnm⟩ := hB
  have hown : s.vm.findClass RJ6 = some m.cls := hown
  have hl : lv_has ls 1 [(0, .int 0)] := hl
  refine lv_iload_n hx hb dJ6_bitCount_0f7a4_0 rfl (lv_at hl 0 rfl) ?_
  refine lv_iload_n hx hb dJ6_bitCount_0f7a4_1 rfl (lv_at hl 0 rfl) ?_
  refine lv_iconst (v := 1) hx hb dJ6_bitCount_0f7a4_2 (by decide) ?_
  refine lv_iushr (v := 0) hx hb dJ6_bitCount_0f7a4_3 (by decide) ?_
  refine lv_ldcw (v := 1431655765) hx hb hown (hts (.constant RJ6 265 (1431655765)) (List.mem_cons_of_mem _ (List.mem_of_getElem? (i := 0) rfl))) dJ6_bitCount_0f7a4_4 ?_
  refine lv_iand hx hb dJ6_bitCount_0f7a4_7 ?_
  refine ms_eqi (y := 0) (by decide) ?_
  refine lv_isub hx hb dJ6_bitCount_0f7a4_8 ?_
  refine ms_eqi (y := 0) (by decide) ?_
  refine lv_istore_n (lv' := [(0, .int 0)]) hx hb dJ6_bitCount_0f7a4_9 rfl hl (by decide) rfl (fun ls hl => ?_)
  refine lv_iload_n hx hb dJ6_bitCount_0f7a4_10 rfl (lv_at hl 0 rfl) ?_
  refine lv_ldcw (v := 858993459) hx hb hown (hts (.constant RJ6 266 (858993459)) (List.mem_cons_of_mem _ (List.mem_of_getElem? (i := 1) rfl))) dJ6_bitCount_0f7a4_11 ?_
  refine lv_iand hx hb dJ6_bitCount_0f7a4_14 ?_
  refine ms_eqi (y := 0) (by decide) ?_
  refine lv_iload_n hx hb dJ6_bitCount_0f7a4_15 rfl (lv_at hl 0 rfl) ?_
  refine lv_iconst (v := 2) hx hb dJ6_bitCount_0f7a4_16 (by decide) ?_
  refine lv_iushr (v := 0) hx hb dJ6_bitCount_0f7a4_17 (by decide) ?_
  refine lv_ldcw (v := 858993459) hx hb hown (hts (.constant RJ6 266 (858993459)) (List.mem_cons_of_mem _ (List.mem_of_getElem? (i := 1) rfl))) dJ6_bitCount_0f7a4_18 ?_
  refine lv_iand hx hb dJ6_bitCount_0f7a4_21 ?_
  refine ms_eqi (y := 0) (by decide) ?_
  refine lv_iadd hx hb dJ6_bitCount_0f7a4_22 ?_
  refine ms_eqi (y := 0) (by decide) ?_
  refine lv_istore_n (lv' := [(0, .int 0)]) hx hb dJ6_bitCount_0f7a4_23 rfl hl (by decide) rfl (fun ls hl => ?_)
  refine lv_iload_n hx hb dJ6_bitCount_0f7a4_24 rfl (lv_at hl 0 rfl) ?_
  refine lv_iload_n hx hb dJ6_bitCount_0f7a4_25 rfl (lv_at hl 0 rfl) ?_
  refine lv_iconst (v := 4) hx hb dJ6_bitCount_0f7a4_26 (by decide) ?_
  refine lv_iushr (v := 0) hx hb dJ6_bitCount_0f7a4_27 (by decide) ?_
  refine lv_iadd hx hb dJ6_bitCount_0f7a4_28 ?_
  refine ms_eqi (y := 0) (by decide) ?_
  refine lv_ldcw (v := 252645135) hx hb hown (hts (.constant RJ6 267 (252645135)) (List.mem_cons_of_mem _ (List.mem_of_getElem? (i := 2) rfl))) dJ6_bitCount_0f7a4_29 ?_
  refine lv_iand hx hb dJ6_bitCount_0f7a4_32 ?_
  refine ms_eqi (y := 0) (by decide) ?_
  refine lv_istore_n (lv' := [(0, .int 0)]) hx hb dJ6_bitCount_0f7a4_33 rfl hl (by decide) rfl (fun ls hl => ?_)
  refine lv_iload_n hx hb dJ6_bitCount_0f7a4_34 rfl (lv_at hl 0 rfl) ?_
  refine lv_iload_n hx hb dJ6_bitCount_0f7a4_35 rfl (lv_at hl 0 rfl) ?_
  refine lv_bipush (v := 8) hx hb dJ6_bitCount_0f7a4_36 (by decide) ?_
  refine lv_iushr (v := 0) hx hb dJ6_bitCount_0f7a4_38 (by decide) ?_
  refine lv_iadd hx hb dJ6_bitCount_0f7a4_39 ?_
  refine ms_eqi (y := 0) (by decide) ?_
  refine lv_istore_n (lv' := [(0, .int 0)]) hx hb dJ6_bitCount_0f7a4_40 rfl hl (by decide) rfl (fun ls hl => ?_)
  refine lv_iload_n hx hb dJ6_bitCount_0f7a4_41 rfl (lv_at hl 0 rfl) ?_
  refine lv_iload_n hx hb dJ6_bitCount_0f7a4_42 rfl (lv_at hl 0 rfl) ?_
  refine lv_bipush (v := 16) hx hb dJ6_bitCount_0f7a4_43 (by decide) ?_
  refine lv_iushr (v := 0) hx hb dJ6_bitCount_0f7a4_45 (by decide) ?_
  refine lv_iadd hx hb dJ6_bitCount_0f7a4_46 ?_
  refine ms_eqi (y := 0) (by decide) ?_
  refine lv_istore_n (lv' := [(0, .int 0)]) hx hb dJ6_bitCount_0f7a4_47 rfl hl (by decide) rfl (fun ls hl => ?_)
  refine lv_iload_n hx hb dJ6_bitCount_0f7a4_48 rfl (lv_at hl 0 rfl) ?_
  refine lv_bipush (v := 63) hx hb dJ6_bitCount_0f7a4_49 (by decide) ?_
  refine lv_iand hx hb dJ6_bitCount_0f7a4_51 ?_
  refine ms_eqi (y := 0) (by decide) ?_
  exact ms_iret hx hb hr hlk () rfl hP hD hS (Nat.le_of_ble_eq_true rfl) (Nat.le_of_ble_eq_true rfl) dJ6_bitCount_0f7a4_52
set_option maxHeartbeats 4000000 in
set_option maxRecDepth 100000 in
theorem cX4_place_1 (l : Launch) (D : va_G) (cA : Nat → ClassId) (q0 q1 q2 q3 q4 : Nat) : ms_Mi l yX4_place wsX4_place ({ frames := 0, cells := 0, slots := 0, locals := 0 } : Room) D cA [.ref q0, .ref q1, .ref q2, .int 0, .int 0] [(q0, .inr (4, [.ref q3, .int 0, .ref q4, .int 0]))] (fun (r : Int32) (_ : Unit) => r = 1) (fun (_ : Unit) => [(q0, .inr (4, [.ref q3, .int 0, .ref q4, .int 0]))]) := by
  refine ms_Mi_of (cc := cX4_place) (maxL := 7) (ret := (some .boolean)) (by decide) rfl (Nat.le_of_ble_eq_true rfl) ?_
  intro p e s m args below meth c A ls hB hE hA hP hD hS hl
  obtain ⟨hx, hb, hr, hml, hown, hts, hlk, hnm⟩ := hB
  have hown : s.vm.findClass RX4 = some m.cls := hown
  have hl : lv_has ls 7 [(0, .ref q0), (1, .ref q1), (2, .ref q2), (3, .int 0), (4, .int 0)] := hl
  refine lv_iload_n hx hb dX4_place_0 rfl (lv_at hl 3 rfl) ?_
  refine lv_if_eq (tgt := 10) hx hb dX4_place_1 (by decide) (fun _ => ?_) (fun c => absurd (by decide) c)
  refine lv_iload_n hx hb dX4_place_10 rfl (lv_at hl 3 rfl) ?_
  refine lv_if_ne (tgt := 18) hx hb dX4_place_11 (by decide) (fun c => absurd (by decide) c) (fun _ => ?_)
  refine lv_iconst (v := 1) hx hb dX4_place_14 (by decide) ?_
  refine lv_goto (tgt := 19) hx hb dX4_place_15 (by decide) ?_
  exact ms_zret hx hb hr rfl hlk () rfl hP hD hS (Nat.le_of_ble_eq_true rfl) (Nat.le_of_ble_eq_true rfl) dX4_place_19
set_option maxHeartbeats 4000000 in
set_option maxRecDepth 100000 in
theorem cX4_plan_1 (l : Launch) (D : va_G) (cA : Nat → ClassId) (q0 q1 q2 q3 q4 q5 q6 q7 q8 q9 q10 q11 q12 q13 : Nat) : ms_Mi l yX4_plan wsX4_plan ({ frames := 1, cells := 0, slots := 0, locals := 60 } : Room) D cA [.ref q0, .ref q3, .ref q1, .ref q4] [(q0, .inr (4, [.ref q5, .int 0, .ref q2, .int 0])), (q1, .inl (cA 0, 9, .inl ms_z)), (q2, .inl (cA 0, 9, .inl ms_z)), (q3, .inr (2, [.int 0, .int 0, .int 0, .int 0, .int 0, .ref q6, .ref q7, .ref q8, .ref q9, .ref q10, .ref q11, .ref q12, .ref q13]))] (fun (r : Int32) (_ : Unit) => r = 1) (fun (_ : Unit) => [(q0, .inr (4, [.ref q5, .int 0, .ref q2, .int 0])), (q1, .inl (cA 0, 9, .inl ms_z)), (q2, .inl (cA 0, 9, .inl ms_z)), (q3, .inr (2, [.int 0, .int 0, .int 0, .int 0, .int 0, .ref q6, .ref q7, .ref q8, .ref q9, .ref q10, .ref q11, .ref q12, .ref q13]))]) := by
  refine ms_Mi_of (cc := cX4_plan) (maxL := 6) (ret := (some .boolean)) (by decide) rfl (Nat.le_of_ble_eq_true rfl) ?_
  intro p e s m args below meth c A ls hB hE hA hP hD hS hl
  obtain ⟨hx, hb, hr, hml, hown, hts, hlk, hnm⟩ := hB
  have hown : s.vm.findClass RX4 = some m.cls := hown
  have hnX2 : ∀ w ∈ u_ws RX2 TX2 13, w ∈ wsX4_plan := fun _ h => List.mem_cons_of_mem _ (List.mem_append_right _ (h))
  have hnX4 : ∀ w ∈ u_ws RX4 TX4 4, w ∈ wsX4_plan := fun _ h => List.mem_cons_of_mem _ (List.mem_append_left _ (List.mem_append_right _ (h)))
  have hl : lv_has ls 6 [(0, .ref q0), (1, .ref q3), (2, .ref q1), (3, .ref q4)] := hl
  refine lv_aload_n hx hb dX4_plan_0 rfl (lv_at hl 2 rfl) ?_
  refine lv_iconst (v := 0) hx hb dX4_plan_1 (by decide) ?_
  refine lv_aload_n hx hb dX4_plan_2 rfl (lv_at hl 0 rfl) ?_
  refine va_get (D := D) (ci := 4) (v := .ref q2) (C := RX4) (T := TX4) (N := 4) hx hb hts hnX4 hown hE.1 hP 0 rfl rfl 2 (by decide) (hts (.fieldLink RX4 15 "MovedStones$Nights" "stones" "[I") (List.mem_cons_of_mem _ (List.mem_append_left _ (List.mem_append_left _ (List.mem_append_left _ (List.mem_of_getElem? (i := 0) rfl)))))) (fun _ h9 => h9) rfl dX4_plan_3 ?_
  refine lv_iconst (v := 0) hx hb dX4_plan_6 (by decide) ?_
  refine lv_bipush (v := 9) hx hb dX4_plan_7 (by decide) ?_
  refine ms_copyz hx hb (hml.trans hl.1.symm) hown (hts (.methodLink RX4 18 arraycopyName) (List.mem_cons_of_mem _ (List.mem_append_left _ (List.mem_append_left _ (List.mem_append_left _ (List.mem_of_getElem? (i := 1) rfl)))))) (hts (.native arraycopyName) (List.mem_cons_of_mem _ (List.mem_append_left _ (List.mem_append_left _ (List.mem_append_left _ (List.mem_of_getElem? (i := 2) rfl)))))) (hts (.static arraycopyName) (List.mem_cons_of_mem _ (List.mem_append_left _ (List.mem_append_left _ (List.mem_append_left _ (List.mem_of_getElem? (i := 3) rfl)))))) (hts (.initialized "java/lang/System") (List.mem_cons_of_mem _ (List.mem_append_left _ (List.mem_append_left _ (List.mem_append_left _ (List.mem_of_getElem? (i := 4) rfl)))))) hE hP hD hS 1 2 rfl rfl rfl rfl 9 (by decide) rfl (by decide) (by decide) (Nat.le_of_ble_eq_true rfl) (by decide) dX4_plan_9 (fun H locs hP hD hS => ?_)
  have hP : va_P D vwCl [(q0, .inr (4, [.ref q5, .int 0, .ref q2, .int 0])), (q1, .inl (cA 0, 9, .inl ms_z)), (q2, .inl (cA 0, 9, .inl ms_z)), (q3, .inr (2, [.int 0, .int 0, .int 0, .int 0, .int 0, .ref q6, .ref q7, .ref q8, .ref q9, .ref q10, .ref q11, .ref q12, .ref q13]))] H := hP
  have hD : va_D A [(q0, .inr (4, [.ref q5, .int 0, .ref q2, .int 0])), (q1, .inl (cA 0, 9, .inl ms_z)), (q2, .inl (cA 0, 9, .inl ms_z)), (q3, .inr (2, [.int 0, .int 0, .int 0, .int 0, .int 0, .ref q6, .ref q7, .ref q8, .ref q9, .ref q10, .ref q11, .ref q12, .ref q13]))] := hD
  refine lv_aload_n hx hb dX4_plan_12 rfl (lv_at hl 0 rfl) ?_
  refine lv_aload_n hx hb dX4_plan_13 rfl (lv_at hl 1 rfl) ?_
  refine lv_aload_n hx hb dX4_plan_14 rfl (lv_at hl 2 rfl) ?_
  refine ms_cVi (qc := (RX2, TX2, 13)) (wc := [(q3, .inr (2, [.int 0, .int 0, .int 0, .int 0, .int 0, .ref q6, .ref q7, .ref q8, .ref q9, .ref q10, .ref q11, .ref q12, .ref q13]))]) (wr := [(q0, .inr (4, [.ref q5, .int 0, .ref q2, .int 0])), (q1, .inl (cA 0, 9, .inl ms_z)), (q2, .inl (cA 0, 9, .inl ms_z))]) ⟨hx, hb, hml, hown, hts⟩ hE (cX2_holding_1 l D cA q3 q1 q6 q7 q8 q9 q10 q11 q12 q13) (cwV 1 hts gX4_plan_X2_holding rfl rfl rfl (by decide +kernel) ⟨Nat.le_of_ble_eq_true rfl, Nat.le_of_ble_eq_true rfl⟩) hP hD hS hA [3] [0, 1, 2] rfl rfl rfl rfl (by decide) 0 2 rfl rfl rfl hl.1 rfl (Nat.le_of_ble_eq_true rfl) dX4_plan_15 ⟨Nat.le_of_ble_eq_true rfl, Nat.le_of_ble_eq_true rfl⟩ (fun r2 u1 H locs hp hP hD hS => ?_)
  subst hp
  have hP : va_P D vwCl [(q0, .inr (4, [.ref q5, .int 0, .ref q2, .int 0])), (q1, .inl (cA 0, 9, .inl ms_z)), (q2, .inl (cA 0, 9, .inl ms_z)), (q3, .inr (2, [.int 0, .int 0, .int 0, .int 0, .int 0, .ref q6, .ref q7, .ref q8, .ref q9, .ref q10, .ref q11, .ref q12, .ref q13]))] H := hP
  have hD : va_D A [(q0, .inr (4, [.ref q5, .int 0, .ref q2, .int 0])), (q1, .inl (cA 0, 9, .inl ms_z)), (q2, .inl (cA 0, 9, .inl ms_z)), (q3, .inr (2, [.int 0, .int 0, .int 0, .int 0, .int 0, .ref q6, .ref q7, .ref q8, .ref q9, .ref q10, .ref q11, .ref q12, .ref q13]))] := hD
  refine va_put (D := D) (ci := 4) (v := .int 0) (ty := tyX4 3) (C := RX4) (T := TX4) (N := 4) hx hb hts hnX4 tyX4 tyX4_ok nmX4 hown hE.1 hP hD hS 0 rfl rfl 3 (by decide) (hts (.fieldLink RX4 30 "MovedStones$Nights" "kept" "I") (List.mem_cons_of_mem _ (List.mem_append_left _ (List.mem_append_left _ (List.mem_append_left _ (List.mem_of_getElem? (i := 5) rfl)))))) (fun _ h9 => h9) rfl (tyX4_ok 3 (by decide)) rfl rfl (Nat.le_of_ble_eq_true rfl) dX4_plan_18 (fun H locs hP hD hS => ?_)
  have hP : va_P D vwCl [(q0, .inr (4, [.ref q5, .int 0, .ref q2, .int 0])), (q1, .inl (cA 0, 9, .inl ms_z)), (q2, .inl (cA 0, 9, .inl ms_z)), (q3, .inr (2, [.int 0, .int 0, .int 0, .int 0, .int 0, .ref q6, .ref q7, .ref q8, .ref q9, .ref q10, .ref q11, .ref q12, .ref q13]))] H := hP
  have hD : va_D A [(q0, .inr (4, [.ref q5, .int 0, .ref q2, .int 0])), (q1, .inl (cA 0, 9, .inl ms_z)), (q2, .inl (cA 0, 9, .inl ms_z)), (q3, .inr (2, [.int 0, .int 0, .int 0, .int 0, .int 0, .ref q6, .ref q7, .ref q8, .ref q9, .ref q10, .ref q11, .ref q12, .ref q13]))] := hD
  refine lv_iconst (v := 0) hx hb dX4_plan_21 (by decide) ?_
  refine lv_istore (lv' := [(4, .int 0), (0, .ref q0), (1, .ref q3), (2, .ref q1), (3, .ref q4)]) hx hb dX4_plan_22 hl (by decide) rfl (fun ls hl => ?_)
  refine lv_iconst (v := 0) hx hb dX4_plan_24 (by decide) ?_
  refine lv_istore (lv' := [(5, .int 0), (4, .int 0), (0, .ref q0), (1, .ref q3), (2, .ref q1), (3, .ref q4)]) hx hb dX4_plan_25 hl (by decide) rfl (fun ls hl => ?_)
  refine lv_iload hx hb dX4_plan_27 (lv_at hl 0 rfl) ?_
  refine lv_aload_n hx hb dX4_plan_29 rfl (lv_at hl 3 rfl) ?_
  refine va_get (D := D) (ci := 2) (v := .int 0) (C := RX2) (T := TX2) (N := 13) hx hb hts hnX2 hown hE.1 hP 3 rfl rfl 3 (by decide) (hts (.fieldLink RX4 34 "MovedStones$Land" "roads" "I") (List.mem_cons_of_mem _ (List.mem_append_left _ (List.mem_append_left _ (List.mem_append_left _ (List.mem_of_getElem? (i := 6) rfl)))))) (fun _ h9 => h9) rfl dX4_plan_30 ?_
  refine lv_icmp_ge (tgt := 69) hx hb dX4_plan_33 (by decide) (fun _ => ?_) (fun c => absurd (by decide) c)
  refine lv_aload_n hx hb dX4_plan_69 rfl (lv_at hl 2 rfl) ?_
  refine lv_iload hx hb dX4_plan_70 (lv_at hl 1 rfl) ?_
  refine ms_cSi (wc := []) (wr := [(q0, .inr (4, [.ref q5, .int 0, .ref q2, .int 0])), (q1, .inl (cA 0, 9, .inl ms_z)), (q2, .inl (cA 0, 9, .inl ms_z)), (q3, .inr (2, [.int 0, .int 0, .int 0, .int 0, .int 0, .ref q6, .ref q7, .ref q8, .ref q9, .ref q10, .ref q11, .ref q12, .ref q13]))]) ⟨hx, hb, hml, hown, hts⟩ hE (cJ6_bitCount_0f7a4_1 l D cA ) (va_cwS 1 hts gX4_plan_J6_bitCount_0f7a4 rfl rfl rfl (by decide +kernel) ⟨Nat.le_of_ble_eq_true rfl, Nat.le_of_ble_eq_true rfl⟩) hP hD hS hA [] [0, 1, 2, 3] rfl rfl rfl rfl (by decide) rfl hl.1 rfl (Nat.le_of_ble_eq_true rfl) dX4_plan_72 ⟨Nat.le_of_ble_eq_true rfl, Nat.le_of_ble_eq_true rfl⟩ (fun r4 u3 H locs hp hP hD hS => ?_)
  subst hp
  have hP : va_P D vwCl [(q0, .inr (4, [.ref q5, .int 0, .ref q2, .int 0])), (q1, .inl (cA 0, 9, .inl ms_z)), (q2, .inl (cA 0, 9, .inl ms_z)), (q3, .inr (2, [.int 0, .int 0, .int 0, .int 0, .int 0, .ref q6, .ref q7, .ref q8, .ref q9, .ref q10, .ref q11, .ref q12, .ref q13]))] H := hP
  have hD : va_D A [(q0, .inr (4, [.ref q5, .int 0, .ref q2, .int 0])), (q1, .inl (cA 0, 9, .inl ms_z)), (q2, .inl (cA 0, 9, .inl ms_z)), (q3, .inr (2, [.int 0, .int 0, .int 0, .int 0, .int 0, .ref q6, .ref q7, .ref q8, .ref q9, .ref q10, .ref q11, .ref q12, .ref q13]))] := hD
  refine va_put (D := D) (ci := 4) (v := .int 0) (ty := tyX4 1) (C := RX4) (T := TX4) (N := 4) hx hb hts hnX4 tyX4 tyX4_ok nmX4 hown hE.1 hP hD hS 0 rfl rfl 1 (by decide) (hts (.fieldLink RX4 43 "MovedStones$Nights" "count" "I") (List.mem_cons_of_mem _ (List.mem_append_left _ (List.mem_append_left _ (List.mem_append_left _ (List.mem_of_getElem? (i := 7) rfl)))))) (fun _ h9 => h9) rfl (tyX4_ok 1 (by decide)) rfl rfl (Nat.le_of_ble_eq_true rfl) dX4_plan_75 (fun H locs hP hD hS => ?_)
  have hP : va_P D vwCl [(q0, .inr (4, [.ref q5, .int 0, .ref q2, .int 0])), (q1, .inl (cA 0, 9, .inl ms_z)), (q2, .inl (cA 0, 9, .inl ms_z)), (q3, .inr (2, [.int 0, .int 0, .int 0, .int 0, .int 0, .ref q6, .ref q7, .ref q8, .ref q9, .ref q10, .ref q11, .ref q12, .ref q13]))] H := hP
  have hD : va_D A [(q0, .inr (4, [.ref q5, .int 0, .ref q2, .int 0])), (q1, .inl (cA 0, 9, .inl ms_z)), (q2, .inl (cA 0, 9, .inl ms_z)), (q3, .inr (2, [.int 0, .int 0, .int 0, .int 0, .int 0, .ref q6, .ref q7, .ref q8, .ref q9, .ref q10, .ref q11, .ref q12, .ref q13]))] := hD
  refine lv_aload_n hx hb dX4_plan_78 rfl (lv_at hl 2 rfl) ?_
  refine lv_aload_n hx hb dX4_plan_79 rfl (lv_at hl 3 rfl) ?_
  refine lv_aload_n hx hb dX4_plan_80 rfl (lv_at hl 5 rfl) ?_
  refine lv_iload hx hb dX4_plan_81 (lv_at hl 1 rfl) ?_
  refine lv_iconst (v := 0) hx hb dX4_plan_83 (by decide) ?_
  refine ms_cVi (qc := (RX4, TX4, 4)) (wc := [(q0, .inr (4, [.ref q5, .int 0, .ref q2, .int 0]))]) (wr := [(q1, .inl (cA 0, 9, .inl ms_z)), (q2, .inl (cA 0, 9, .inl ms_z)), (q3, .inr (2, [.int 0, .int 0, .int 0, .int 0, .int 0, .ref q6, .ref q7, .ref q8, .ref q9, .ref q10, .ref q11, .ref q12, .ref q13]))]) ⟨hx, hb, hml, hown, hts⟩ hE (cX4_place_1 l D cA q0 q3 q4 q5 q2) (cwV 4 hts gX4_plan_X4_place rfl rfl rfl (by decide +kernel) ⟨Nat.le_of_ble_eq_true rfl, Nat.le_of_ble_eq_true rfl⟩) hP hD hS hA [0] [1, 2, 3] rfl rfl rfl rfl (by decide) 0 4 rfl rfl rfl hl.1 rfl (Nat.le_of_ble_eq_true rfl) dX4_plan_84 ⟨Nat.le_of_ble_eq_true rfl, Nat.le_of_ble_eq_true rfl⟩ (fun r6 u5 H locs hp hP hD hS => ?_)
  subst hp
  have hP : va_P D vwCl [(q1, .inl (cA 0, 9, .inl ms_z)), (q2, .inl (cA 0, 9, .inl ms_z)), (q3, .inr (2, [.int 0, .int 0, .int 0, .int 0, .int 0, .ref q6, .ref q7, .ref q8, .ref q9, .ref q10, .ref q11, .ref q12, .ref q13])), (q0, .inr (4, [.ref q5, .int 0, .ref q2, .int 0]))] H := hP
  have hD : va_D A [(q1, .inl (cA 0, 9, .inl ms_z)), (q2, .inl (cA 0, 9, .inl ms_z)), (q3, .inr (2, [.int 0, .int 0, .int 0, .int 0, .int 0, .ref q6, .ref q7, .ref q8, .ref q9, .ref q10, .ref q11, .ref q12, .ref q13])), (q0, .inr (4, [.ref q5, .int 0, .ref q2, .int 0]))] := hD
  exact ms_zret hx hb hr rfl hlk () rfl (hP.sub [3, 0, 1, 2] rfl) (hD.sub [3, 0, 1, 2] (by decide) rfl) hS (Nat.le_of_ble_eq_true rfl) (Nat.le_of_ble_eq_true rfl) dX4_plan_87
