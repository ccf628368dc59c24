set_option maxHeartbeats 4000000 in
set_option maxRecDepth 100000 in
theorem cX11_drift_3 (l : Launch) (D : va_G) (cA : Nat → ClassId) (q0 q1 q2 q3 q4 q5 q6 q7 q8 q9 q10 q11 q12 q13 q14 q15 q16 q17 q18 : Nat) (a0 : Int32) (g0 : 100 ≤ a0.toInt) : ms_Mi l yX11_drift wsX11_drift ({ frames := 2, cells := 0, slots := 0, locals := 46 } : Room) D cA [.ref q0, .int a0] [(q0, .inr (11, [.ref q1, .ref q2, .ref q3, .ref q4, .int 0, .ref q5, .ref q6, .long 0, .ref q7, .int 0, .int (-1), .ref q8, .ref q9, .int 0, .ref q10, .int 0, .int 0, .int 0, .int 0, .int 0, .int 0, .int 0, .ref q11, .ref q12, .ref q13, .int 0, .ref q14, .ref q15, .ref q16, .ref q17, .int 0, .ref q18]))] (fun (r : Int32) (_ : Unit) => r = (-1000000002)) (fun (_ : Unit) => [(q0, .inr (11, [.ref q1, .ref q2, .ref q3, .ref q4, .int 0, .ref q5, .ref q6, .long 0, .ref q7, .int 0, .int (-1), .ref q8, .ref q9, .int 0, .ref q10, .int 0, .int 0, .int 0, .int 0, .int 0, .int 0, .int 0, .ref q11, .ref q12, .ref q13, .int 0, .ref q14, .ref q15, .ref q16, .ref q17, .int 0, .ref q18]))]) := by
  refine ms_Mi_of (cc := cX11_drift) (maxL := 6) (ret := (some .int)) (by decide) rfl (Nat.le_of_ble_eq_true rfl) ?_
  intro p e s m args below meth c A ls hB hE hA hP hD hS hl
  obtain ⟨hx, hb, hr, hml, hown, hts, hlk, hnm⟩ := hB
  have hown : s.vm.findClass RX11 = some m.cls := hown
  have hl : lv_has ls 6 [(0, .ref q0), (1, .int a0)] := hl
  refine lv_aload_n hx hb dX11_drift_0 rfl (lv_at hl 0 rfl) ?_
  refine lv_iload_n hx hb dX11_drift_1 rfl (lv_at hl 1 rfl) ?_
  refine ms_cVi (qc := (RX11, TX11, 32)) (wc := [(q0, .inr (11, [.ref q1, .ref q2, .ref q3, .ref q4, .int 0, .ref q5, .ref q6, .long 0, .ref q7, .int 0, .int (-1), .ref q8, .ref q9, .int 0, .ref q10, .int 0, .int 0, .int 0, .int 0, .int 0, .int 0, .int 0, .ref q11, .ref q12, .ref q13, .int 0, .ref q14, .ref q15, .ref q16, .ref q17, .int 0, .ref q18]))]) (wr := []) ⟨hx, hb, hml, hown, hts⟩ hE (cX11_refusesYears_3 l D cA q0 q1 q2 q3 q4 q5 q6 q7 q8 q9 q10 q11 q12 q13 q14 q15 q16 q17 q18 a0 (by omega)) (cwV 1 hts gX11_drift_X11_refusesYears rfl rfl rfl (by decide +kernel) ⟨Nat.le_of_ble_eq_true rfl, Nat.le_of_ble_eq_true rfl⟩) hP hD hS hA [0] [] rfl rfl rfl rfl (by decide) 0 11 rfl rfl rfl hl.1 rfl (Nat.le_of_ble_eq_true rfl) dX11_drift_2 ⟨Nat.le_of_ble_eq_true rfl, Nat.le_of_ble_eq_true rfl⟩ (fun r2 u1 H locs hp hP hD hS => ?_)
  subst hp
  have hP : va_P D vwCl [(q0, .inr (11, [.ref q1, .ref q2, .ref q3, .ref q4, .int 0, .ref q5, .ref q6, .long 0, .ref q7, .int 0, .int (-1), .ref q8, .ref q9, .int 0, .ref q10, .int 0, .int 0, .int 0, .int 0, .int 0, .int 0, .int 0, .ref q11, .ref q12, .ref q13, .int 0, .ref q14, .ref q15, .ref q16, .ref q17, .int 0, .ref q18]))] H := hP
  have hD : va_D A [(q0, .inr (11, [.ref q1, .ref q2, .ref q3, .ref q4, .int 0, .ref q5, .ref q6, .long 0, .ref q7, .int 0, .int (-1), .ref q8, .ref q9, .int 0, .ref q10, .int 0, .int 0, .int 0, .int 0, .int 0, .int 0, .int 0, .ref q11, .ref q12, .ref q13, .int 0, .ref q14, .ref q15, .ref q16, .ref q17, .int 0, .ref q18]))] := hD
  refine lv_istore_n (lv' := [(2, .int (-1000000002)), (0, .ref q0), (1, .int a0)]) hx hb dX11_drift_5 rfl hl (by decide) rfl (fun ls hl => ?_)
  refine lv_iload_n hx hb dX11_drift_6 rfl (lv_at hl 0 rfl) ?_
  refine lv_if_eq (tgt := 12) hx hb dX11_drift_7 (by decide) (fun c => absurd c (by decide)) (fun _ => ?_)
  refine lv_iload_n hx hb dX11_drift_10 rfl (lv_at hl 0 rfl) ?_
  exact ms_iret hx hb hr hlk () rfl hP hD hS (Nat.le_of_ble_eq_true rfl) (Nat.le_of_ble_eq_true rfl) dX11_drift_11
set_option maxHeartbeats 4000000 in
set_option maxRecDepth 100000 in
theorem cX10_undo_1 (l : Launch) (D : va_G) (cA : Nat → ClassId) (q0 q1 q2 q3 q4 q5 q6 q7 q8 q9 q10 q11 q12 : Nat) : ms_Mi l yX10_undo wsX10_undo ({ frames := 0, cells := 0, slots := 0, locals := 0 } : Room) D cA [.ref q0] [(q0, .inr (10, [.ref q2, .ref q3, .ref q4, .ref q1, .ref q5, .int 0, .ref q6, .ref q7, .ref q8, .ref q9, .ref q10, .ref q11])), (q1, .inr (0, [.ref q12, .int 0, .int 0]))] (fun (r : Int32) (_ : Unit) => r = (-1000000003)) (fun (_ : Unit) => [(q0, .inr (10, [.ref q2, .ref q3, .ref q4, .ref q1, .ref q5, .int 0, .ref q6, .ref q7, .ref q8, .ref q9, .ref q10, .ref q11])), (q1, .inr (0, [.ref q12, .int 0, .int 0]))]) := by
  refine ms_Mi_of (cc := cX10_undo) (maxL := 1) (ret := (some .int)) (by decide) rfl (Nat.le_of_ble_eq_true rfl) ?_
  intro p e s m args below meth c A ls hB hE hA hP hD hS hl
  obtain ⟨hx, hb, hr, hml, hown, hts, hlk, hnm⟩ := hB
  have hown : s.vm.findClass RX10 = some m.cls := hown
  have hnX0 : ∀ w ∈ u_ws RX0 TX0 3, w ∈ wsX10_undo := fun _ h => List.mem_cons_of_mem _ (List.mem_append_left _ (List.mem_append_right _ (h)))
  have hnX10 : ∀ w ∈ u_ws RX10 TX10 12, w ∈ wsX10_undo := fun _ h => List.mem_cons_of_mem _ (List.mem_append_left _ (List.mem_append_left _ (List.mem_append_right _ (h))))
  have hl : lv_has ls 1 [(0, .ref q0)] := hl
  refine lv_aload_n hx hb dX10_undo_0 rfl (lv_at hl 0 rfl) ?_
  refine va_get (D := D) (ci := 10) (v := .ref q1) (C := RX10) (T := TX10) (N := 12) hx hb hts hnX10 hown hE.1 hP 0 rfl rfl 3 (by decide) (hts (.fieldLink RX10 33 "MovedStones" "history" "LMovedStones$History;") (List.mem_cons_of_mem _ (List.mem_append_left _ (List.mem_append_left _ (List.mem_append_left _ (List.mem_append_left _ (List.mem_of_getElem? (i := 0) rfl))))))) (fun _ h9 => h9) rfl dX10_undo_1 ?_
  refine va_get (D := D) (ci := 0) (v := .int 0) (C := RX0) (T := TX0) (N := 3) hx hb hts hnX0 hown hE.1 hP 1 rfl rfl 2 (by decide) (hts (.fieldLink RX10 172 "MovedStones$History" "count" "I") (List.mem_cons_of_mem _ (List.mem_append_left _ (List.mem_append_left _ (List.mem_append_left _ (List.mem_append_left _ (List.mem_of_getElem? (i := 1) rfl))))))) (fun _ h9 => h9) rfl dX10_undo_4 ?_
  refine lv_if_ne (tgt := 13) hx hb dX10_undo_7 (by decide) (fun c => absurd (by decide) c) (fun _ => ?_)
  refine lv_ldc (v := (-1000000003)) hx hb hown (hts (.constant RX10 215 (-1000000003)) (List.mem_cons_of_mem _ (List.mem_append_left _ (List.mem_append_left _ (List.mem_append_left _ (List.mem_append_left _ (List.mem_of_getElem? (i := 2) rfl))))))) dX10_undo_10 ?_
  exact ms_iret hx hb hr hlk () rfl hP hD hS (Nat.le_of_ble_eq_true rfl) (Nat.le_of_ble_eq_true rfl) dX10_undo_12
set_option maxHeartbeats 4000000 in
set_option maxRecDepth 100000 in
theorem cX11_undo_1 (l : Launch) (D : va_G) (cA : Nat → ClassId) (q0 q1 q2 q3 q4 q5 q6 q7 q8 q9 q10 q11 q12 q13 q14 q15 q16 q17 q18 : Nat) : ms_Mi l yX11_undo wsX11_undo ({ frames := 0, cells := 0, slots := 0, locals := 0 } : Room) D cA [.ref q0] [(q0, .inr (11, [.ref q1, .ref q2, .ref q3, .ref q4, .int 0, .ref q5, .ref q6, .long 0, .ref q7, .int 0, .int (-1), .ref q8, .ref q9, .int 0, .ref q10, .int 0, .int 0, .int 0, .int 0, .int 0, .int 0, .int 0, .ref q11, .ref q12, .ref q13, .int 0, .ref q14, .ref q15, .ref q16, .ref q17, .int 0, .ref q18]))] (fun (r : Int32) (_ : Unit) => r = (-1000000003)) (fun (_ : Unit) => [(q0, .inr (11, [.ref q1, .ref q2, .ref q3, .ref q4, .int 0, .ref q5, .ref q6, .long 0, .ref q7, .int 0, .int (-1), .ref q8, .ref q9, .int 0, .ref q10, .int 0, .int 0, .int 0, .int 0, .int 0, .int 0, .int 0, .ref q11, .ref q12, .ref q13, .int 0, .ref q14, .ref q15, .ref q16, .ref q17, .int 0, .ref q18]))]) := by
  refine ms_Mi_of (cc := cX11_undo) (maxL := 1) (ret := (some .int)) (by decide) rfl (Nat.le_of_ble_eq_true rfl) ?_
  intro p e s m args below meth c A ls hB hE hA hP hD hS hl
  obtain ⟨hx, hb, hr, hml, hown, hts, hlk, hnm⟩ := hB
  have hown : s.vm.findClass RX11 = some m.cls := hown
  have hnX11 : ∀ w ∈ u_ws RX11 TX11 32, w ∈ wsX11_undo := fun _ h => List.mem_cons_of_mem _ (List.mem_append_right _ (h))
  have hl : lv_has ls 1 [(0, .ref q0)] := hl
  refine lv_aload_n hx hb dX11_undo_0 rfl (lv_at hl 0 rfl) ?_
  refine va_get (D := D) (ci := 11) (v := .int 0) (C := RX11) (T := TX11) (N := 32) hx hb hts hnX11 hown hE.1 hP 0 rfl rfl 4 (by decide) (hts (.fieldLink RX11 72 "MovedStonesModel" "undos" "I") (List.mem_cons_of_mem _ (List.mem_append_left _ (List.mem_of_getElem? (i := 0) rfl)))) (fun _ h9 => h9) rfl dX11_undo_1 ?_
  refine lv_if_ne (tgt := 10) hx hb dX11_undo_4 (by decide) (fun c => absurd (by decide) c) (fun _ => ?_)
  refine lv_ldc (v := (-1000000003)) hx hb hown (hts (.constant RX11 189 (-1000000003)) (List.mem_cons_of_mem _ (List.mem_append_left _ (List.mem_of_getElem? (i := 1) rfl)))) dX11_undo_7 ?_
  exact ms_iret hx hb hr hlk () rfl hP hD hS (Nat.le_of_ble_eq_true rfl) (Nat.le_of_ble_eq_true rfl) dX11_undo_9
set_option maxHeartbeats 4000000 in
set_option maxRecDepth 100000 in
theorem cX2_hasTown_1 (l : Launch) (D : va_G) (cA : Nat → ClassId) (q0 q1 q2 q3 q4 q5 q6 q7 q8 : Nat) (a0 : Int32) : ms_Mi l yX2_hasTown wsX2_hasTown ({ frames := 0, cells := 0, slots := 0, locals := 0 } : Room) D cA [.ref q0, .int a0] [(q0, .inr (2, [.int 0, .int 0, .int 0, .int 0, .int 0, .ref q1, .ref q2, .ref q3, .ref q4, .ref q5, .ref q6, .ref q7, .ref q8]))] (fun (r : Int32) (_ : Unit) => r = 0) (fun (_ : Unit) => [(q0, .inr (2, [.int 0, .int 0, .int 0, .int 0, .int 0, .ref q1, .ref q2, .ref q3, .ref q4, .ref q5, .ref q6, .ref q7, .ref q8]))]) := by
  refine ms_Mi_of (cc := cX2_hasTown) (maxL := 2) (ret := (some .boolean)) (by decide) rfl (Nat.le_of_ble_eq_true rfl) ?_
  intro p e s m args below meth c A ls hB hE hA hP hD hS hl
  obtain ⟨hx, hb, hr, hml, hown, hts, hlk, hnm⟩ := hB
  have hown : s.vm.findClass RX2 = some m.cls := hown
  have hnX2 : ∀ w ∈ u_ws RX2 TX2 13, w ∈ wsX2_hasTown := fun _ h => List.mem_cons_of_mem _ (List.mem_append_right _ (h))
  have hl : lv_has ls 2 [(0, .ref q0), (1, .int a0)] := hl
  refine lv_iload_n hx hb dX2_hasTown_0 rfl (lv_at hl 1 rfl) ?_
  refine lv_if_lt (tgt := 16) hx hb dX2_hasTown_1 (by decide) (fun c1 => ?_) (fun c1 => ?_)
  · have hc2 := Int32.lt_iff_toInt_lt.mp c1
    have z3 : (0 : Int32).toInt = 0 := (by decide)
    refine lv_iconst (v := 0) hx hb dX2_hasTown_16 (by decide) ?_
    exact ms_zret hx hb hr rfl hlk () rfl hP hD hS (Nat.le_of_ble_eq_true rfl) (Nat.le_of_ble_eq_true rfl) dX2_hasTown_17
  · have hc4 := mt Int32.lt_iff_toInt_lt.mpr c1
    have z5 : (0 : Int32).toInt = 0 := (by decide)
    refine lv_iload_n hx hb dX2_hasTown_4 rfl (lv_at hl 1 rfl) ?_
    refine lv_aload_n hx hb dX2_hasTown_5 rfl (lv_at hl 0 rfl) ?_
    refine va_get (D := D) (ci := 2) (v := .int 0) (C := RX2) (T := TX2) (N := 13) hx hb hts hnX2 hown hE.1 hP 0 rfl rfl 0 (by decide) (hts (.fieldLink RX2 36 "MovedStones$Land" "towns" "I") (List.mem_cons_of_mem _ (List.mem_append_left _ (List.mem_of_getElem? (i := 0) rfl)))) (fun _ h9 => h9) rfl dX2_hasTown_6 ?_
    refine lv_icmp_ge (tgt := 16) hx hb dX2_hasTown_9 (by decide) (fun _ => ?_) (fun c => by exfalso; have hc6 := mt Int32.le_iff_toInt_le.mpr c; have z7 : (0 : Int32).toInt = 0 := (by decide); omega)
    refine lv_iconst (v := 0) hx hb dX2_hasTown_16 (by decide) ?_
    exact ms_zret hx hb hr rfl hlk () rfl hP hD hS (Nat.le_of_ble_eq_true rfl) (Nat.le_of_ble_eq_true rfl) dX2_hasTown_17
set_option maxHeartbeats 4000000 in
set_option maxRecDepth 100000 in
theorem cX10_areTowns_1 (l : Launch) (D : va_G) (cA : Nat → ClassId) (q0 q1 q2 q3 q4 q5 q6 q7 q8 q9 q10 q11 q12 q13 q14 q15 q16 q17 q18 q19 : Nat) (a0 : Int32) (a1 : Int32) : ms_Mi l yX10_areTowns wsX10_areTowns ({ frames := 1, cells := 0, slots := 0, locals := 21 } : Room) D cA [.ref q0, .int a0, .int a1] [(q0, .inr (10, [.ref q2, .ref q1, .ref q3, .ref q4, .ref q5, .int 0, .ref q6, .ref q7, .ref q8, .ref q9, .ref q10, .ref q11])), (q1, .inr (2, [.int 0, .int 0, .int 0, .int 0, .int 0, .ref q12, .ref q13, .ref q14, .ref q15, .ref q16, .ref q17, .ref q18, .ref q19]))] (fun (r : Int32) (_ : Unit) => r = 0) (fun (_ : Unit) => [(q0, .inr (10, [.ref q2, .ref q1, .ref q3, .ref q4, .ref q5, .int 0, .ref q6, .ref q7, .ref q8, .ref q9, .ref q10, .ref q11])), (q1, .inr (2, [.int 0, .int 0, .int 0, .int 0, .int 0, .ref q12, .ref q13, .ref q14, .ref q15, .ref q16, .ref q17, .ref q18, .ref q19]))]) := by
  refine ms_Mi_of (cc := cX10_areTowns) (maxL := 3) (ret := (some .boolean)) (by decide) rfl (Nat.le_of_ble_eq_true rfl) ?_
  intro p e s m args below meth c A ls hB hE hA hP hD hS hl
  obtain ⟨hx, hb, hr, hml, hown, hts, hlk, hnm⟩ := hB
  have hown : s.vm.findClass RX10 = some m.cls := hown
  have hnX10 : ∀ w ∈ u_ws RX10 TX10 12, w ∈ wsX10_areTowns := fun _ h => List.mem_cons_of_mem _ (List.mem_append_left _ (List.mem_append_right _ (h)))
  have hl : lv_has ls 3 [(0, .ref q0), (1, .int a0), (2, .int a1)] := hl
  refine lv_aload_n hx hb dX10_areTowns_0 rfl (lv_at hl 0 rfl) ?_
  refine va_get (D := D) (ci := 10) (v := .ref q1) (C := RX10) (T := TX10) (N := 12) hx hb hts hnX10 hown hE.1 hP 0 rfl rfl 1 (by decide) (hts (.fieldLink RX10 19 "MovedStones" "land" "LMovedStones$Land;") (List.mem_cons_of_mem _ (List.mem_append_left _ (List.mem_append_left _ (List.mem_of_getElem? (i := 0) rfl))))) (fun _ h9 => h9) rfl dX10_areTowns_1 ?_
  refine lv_iload_n hx hb dX10_areTowns_4 rfl (lv_at hl 1 rfl) ?_
  refine ms_cVi (qc := (RX2, TX2, 13)) (wc := [(q1, .inr (2, [.int 0, .int 0, .int 0, .int 0, .int 0, .ref q12, .ref q13, .ref q14, .ref q15, .ref q16, .ref q17, .ref q18, .ref q19]))]) (wr := [(q0, .inr (10, [.ref q2, .ref q1, .ref q3, .ref q4, .ref q5, .int 0, .ref q6, .ref q7, .ref q8, .ref q9, .ref q10, .ref q11]))]) ⟨hx, hb, hml, hown, hts⟩ hE (cX2_hasTown_1 l D cA q1 q12 q13 q14 q15 q16 q17 q18 q19 a0) (cwV 1 hts gX10_areTowns_X2_hasTown rfl rfl rfl (by decide +kernel) ⟨Nat.le_of_ble_eq_true rfl, Nat.le_of_ble_eq_true rfl⟩) hP hD hS hA [1] [0] rfl rfl rfl rfl (by decide) 0 2 rfl rfl rfl hl.1 rfl (Nat.le_of_ble_eq_true rfl) dX10_areTowns_5 ⟨Nat.le_of_ble_eq_true rfl, Nat.le_of_ble_eq_true rfl⟩ (fun r2 u1 H locs hp hP hD hS => ?_)
  subst hp
  have hP : va_P D vwCl [(q0, .inr (10, [.ref q2, .ref q1, .ref q3, .ref q4, .ref q5, .int 0, .ref q6, .ref q7, .ref q8, .ref q9, .ref q10, .ref q11])), (q1, .inr (2, [.int 0, .int 0, .int 0, .int 0, .int 0, .ref q12, .ref q13, .ref q14, .ref q15, .ref q16, .ref q17, .ref q18, .ref q19]))] H := hP
  have hD : va_D A [(q0, .inr (10, [.ref q2, .ref q1, .ref q3, .ref q4, .ref q5, .int 0, .ref q6, .ref q7, .ref q8, .ref q9, .ref q10, .ref q11])), (q1, .inr (2, [.int 0, .int 0, .int 0, .int 0, .int 0, .ref q12, .ref q13, .ref q14, .ref q15, .ref q16, .ref q17, .ref q18, .ref q19]))] := hD
  refine lv_if_eq (tgt := 31) hx hb dX10_areTowns_8 (by decide) (fun _ => ?_) (fun c => absurd (by decide) c)
  refine lv_iconst (v := 0) hx hb dX10_areTowns_31 (by decide) ?_
  exact ms_zret hx hb hr rfl hlk () rfl hP hD hS (Nat.le_of_ble_eq_true rfl) (Nat.le_of_ble_eq_true rfl) dX10_areTowns_32
set_option maxHeartbeats 4000000 in
set_option maxRecDepth 100000 in
theorem cX10_way_1 (l : Launch) (D : va_G) (cA : Nat → ClassId) (q0 q1 q2 q3 q4 q5 q6 q7 q8 q9 q10 q11 q12 q13 q14 q15 q16 q17 q18 q19 : Nat) (a0 : Int32) (a1 : Int32) : ms_Mi l yX10_way wsX10_way ({ frames := 2, cells := 0, slots := 0, locals := 43 } : Room) D cA [.ref q0, .int a0, .int a1, .int 1] [(q0, .inr (10, [.ref q2, .ref q1, .ref q3, .ref q4, .ref q5, .int 0, .ref q6, .ref q7, .ref q8, .ref q9, .ref q10, .ref q11])), (q1, .inr (2, [.int 0, .int 0, .int 0, .int 0, .int 0, .ref q12, .ref q13, .ref q14, .ref q15, .ref q16, .ref q17, .ref q18, .ref q19]))] (fun (r : Int32) (_ : Unit) => r = (-1000000001)) (fun (_ : Unit) => [(q0, .inr (10, [.ref q2, .ref q1, .ref q3, .ref q4, .ref q5, .int 0, .ref q6, .ref q7, .ref q8, .ref q9, .ref q10, .ref q11])), (q1, .inr (2, [.int 0, .int 0, .int 0, .int 0, .int 0, .ref q12, .ref q13, .ref q14, .ref q15, .ref q16, .ref q17, .ref q18, .ref q19]))]) := by
  refine ms_Mi_of (cc := cX10_way) (maxL := 4) (ret := (some .int)) (by decide) rfl (Nat.le_of_ble_eq_true rfl) ?_
  intro p e s m args below meth c A ls hB hE hA hP hD hS hl
  obtain ⟨hx, hb, hr, hml, hown, hts, hlk, hnm⟩ := hB
  have hown : s.vm.findClass RX10 = some m.cls := hown
  have hl : lv_has ls 4 [(0, .ref q0), (1, .int a0), (2, .int a1), (3, .int 1)] := hl
  refine lv_aload_n hx hb dX10_way_0 rfl (lv_at hl 0 rfl) ?_
  refine lv_iload_n hx hb dX10_way_1 rfl (lv_at hl 1 rfl) ?_
  refine lv_iload_n hx hb dX10_way_2 rfl (lv_at hl 2 rfl) ?_
  refine ms_cVi (qc := (RX10, TX10, 12)) (wc := [(q0, .inr (10, [.ref q2, .ref q1, .ref q3, .ref q4, .ref q5, .int 0, .ref q6, .ref q7, .ref q8, .ref q9, .ref q10, .ref q11])), (q1, .inr (2, [.int 0, .int 0, .int 0, .int 0, .int 0, .ref q12, .ref q13, .ref q14, .ref q15, .ref q16, .ref q17, .ref q18, .ref q19]))]) (wr := []) ⟨hx, hb, hml, hown, hts⟩ hE (cX10_areTowns_1 l D cA q0 q1 q2 q3 q4 q5 q6 q7 q8 q9 q10 q11 q12 q13 q14 q15 q16 q17 q18 q19 a0 a1) (cwV 2 hts gX10_way_X10_areTowns rfl rfl rfl (by decide +kernel) ⟨Nat.le_of_ble_eq_true rfl, Nat.le_of_ble_eq_true rfl⟩) hP hD hS hA [0, 1] [] rfl rfl rfl rfl (by decide) 0 10 rfl rfl rfl hl.1 rfl (Nat.le_of_ble_eq_true rfl) dX10_way_3 ⟨Nat.le_of_ble_eq_true rfl, Nat.le_of_ble_eq_true rfl⟩ (fun r2 u1 H locs hp hP hD hS => ?_)
  subst hp
  have hP : va_P D vwCl [(q0, .inr (10, [.ref q2, .ref q1, .ref q3, .ref q4, .ref q5, .int 0, .ref q6, .ref q7, .ref q8, .ref q9, .ref q10, .ref q11])), (q1, .inr (2, [.int 0, .int 0, .int 0, .int 0, .int 0, .ref q12, .ref q13, .ref q14, .ref q15, .ref q16, .ref q17, .ref q18, .ref q19]))] H := hP
  have hD : va_D A [(q0, .inr (10, [.ref q2, .ref q1, .ref q3, .ref q4, .ref q5, .int 0, .ref q6, .ref q7, .ref q8, .ref q9, .ref q10, .ref q11])), (q1, .inr (2, [.int 0, .int 0, .int 0, .int 0, .int 0, .ref q12, .ref q13, .ref q14, .ref q15, .ref q16, .ref q17, .ref q18, .ref q19]))] := hD
  refine lv_if_ne (tgt := 12) hx hb dX10_way_6 (by decide) (fun c => absurd (by decide) c) (fun _ => ?_)
  refine lv_ldc (v := (-1000000001)) hx hb hown (hts (.constant RX10 178 (-1000000001)) (List.mem_cons_of_mem _ (List.mem_append_left _ (List.mem_append_left _ (List.mem_append_left _ (List.mem_append_left _ (List.mem_append_left _ (List.mem_of_getElem? (i := 0) rfl)))))))) dX10_way_9 ?_
  exact ms_iret hx hb hr hlk () rfl hP hD hS (Nat.le_of_ble_eq_true rfl) (Nat.le_of_ble_eq_true rfl) dX10_way_11
set_option maxHeartbeats 4000000 in
set_option maxRecDepth 100000 in
theorem cX11_isTown_1 (l : Launch) (D : va_G) (cA : Nat → ClassId) (q0 q1 q2 q3 q4 q5 q6 q7 q8 q9 q10 q11 q12 q13 q14 q15 q16 q17 q18 : Nat) (a0 : Int32) : ms_Mi l yX11_isTown wsX11_isTown ({ frames := 1, cells := 0, slots := 0, locals := 25 } : Room) D cA [.ref q0, .int a0] [(q0, .inr (11, [.ref q1, .ref q2, .ref q3, .ref q4, .int 0, .ref q5, .ref q6, .long 0, .ref q7, .int 0, .int (-1), .ref q8, .ref q9, .int 0, .ref q10, .int 0, .int 0, .int 0, .int 0, .int 0, .int 0, .int 0, .ref q11, .ref q12, .ref q13, .int 0, .ref q14, .ref q15, .ref q16, .ref q17, .int 0, .ref q18])), (q1, .inl (cA 0, 68, .inl ms_z))] (fun (r : Int32) (_ : Unit) => r = 0) (fun (_ : Unit) => [(q0, .inr (11, [.ref q1, .ref q2, .ref q3, .ref q4, .int 0, .ref q5, .ref q6, .long 0, .ref q7, .int 0, .int (-1), .ref q8, .ref q9, .int 0, .ref q10, .int 0, .int 0, .int 0, .int 0, .int 0, .int 0, .int 0, .ref q11, .ref q12, .ref q13, .int 0, .ref q14, .ref q15, .ref q16, .ref q17, .int 0, .ref q18])), (q1, .inl (cA 0, 68, .inl ms_z))]) := by
  refine ms_Mi_of (cc := cX11_isTown) (maxL := 2) (ret := (some .boolean)) (by decide) rfl (Nat.le_of_ble_eq_true rfl) ?_
  intro p e s m args below meth c A ls hB hE hA hP hD hS hl
  obtain ⟨hx, hb, hr, hml, hown, hts, hlk, hnm⟩ := hB
  have hown : s.vm.findClass RX11 = some m.cls := hown
  have hnX11 : ∀ w ∈ u_ws RX11 TX11 32, w ∈ wsX11_isTown := fun _ h => List.mem_cons_of_mem _ (List.mem_append_right _ (h))
  have hl : lv_has ls 2 [(0, .ref q0), (1, .int a0)] := hl
  refine lv_iload_n hx hb dX11_isTown_0 rfl (lv_at hl 1 rfl) ?_
  refine lv_i2l (v := a0.toInt64) hx hb dX11_isTown_1 rfl ?_
  refine lv_lconst (v := 0) hx hb dX11_isTown_2 (by decide) ?_
  refine lv_aload_n hx hb dX11_isTown_3 rfl (lv_at hl 0 rfl) ?_
  refine va_get (D := D) (ci := 11) (v := .ref q1) (C := RX11) (T := TX11) (N := 32) hx hb hts hnX11 hown hE.1 hP 0 rfl rfl 0 (by decide) (hts (.fieldLink RX11 7 "MovedStonesModel" "march" "[I") (List.mem_cons_of_mem _ (List.mem_append_left _ (List.mem_of_getElem? (i := 0) rfl)))) (fun _ h9 => h9) rfl dX11_isTown_4 ?_
  refine lv_iconst (v := 0) hx hb dX11_isTown_7 (by decide) ?_
  refine ms_iald (x := 0) hx hb hE hP 1 rfl 0 rfl (by omega) (by decide) (rfl) dX11_isTown_8 ?_
  refine lv_iconst (v := 1) hx hb dX11_isTown_9 (by decide) ?_
  refine lv_isub hx hb dX11_isTown_10 ?_
  refine ms_eqi (y := (-1)) (by decide) ?_
  refine lv_i2l (v := (-1)) hx hb dX11_isTown_11 (by decide) ?_
  refine ms_cSi (wc := []) (wr := [(q0, .inr (11, [.ref q1, .ref q2, .ref q3, .ref q4, .int 0, .ref q5, .ref q6, .long 0, .ref q7, .int 0, .int (-1), .ref q8, .ref q9, .int 0, .ref q10, .int 0, .int 0, .int 0, .int 0, .int 0, .int 0, .int 0, .ref q11, .ref q12, .ref q13, .int 0, .ref q14, .ref q15, .ref q16, .ref q17, .int 0, .ref q18])), (q1, .inl (cA 0, 68, .inl ms_z))]) ⟨hx, hb, hml, hown, hts⟩ hE (c_in l D cA a0.toInt64 0 (-1)) (va_cwS 3 hts gX11_isTown_X11_in rfl rfl rfl (by decide +kernel) ⟨Nat.le_of_ble_eq_true rfl, Nat.le_of_ble_eq_true rfl⟩) hP hD hS hA [] [0, 1] rfl rfl rfl rfl (by decide) rfl hl.1 rfl (Nat.le_of_ble_eq_true rfl) dX11_isTown_12 ⟨Nat.le_of_ble_eq_true rfl, Nat.le_of_ble_eq_true rfl⟩ (fun r1 u2 H locs hp hP hD hS => ?_)
  have hp : r1 = 0 := by rw [hp]; have z3 : (0 : Int64).toInt = 0 := (by decide); have z4 : ((-1) : Int64).toInt = -1 := (by decide); have z5 : (a0.toInt64).toInt = a0.toInt := Int32.toInt_toInt64 _; exact if_neg (by omega)
  subst hp
  have hP : va_P D vwCl [(q0, .inr (11, [.ref q1, .ref q2, .ref q3, .ref q4, .int 0, .ref q5, .ref q6, .long 0, .ref q7, .int 0, .int (-1), .ref q8, .ref q9, .int 0, .ref q10, .int 0, .int 0, .int 0, .int 0, .int 0, .int 0, .int 0, .ref q11, .ref q12, .ref q13, .int 0, .ref q14, .ref q15, .ref q16, .ref q17, .int 0, .ref q18])), (q1, .inl (cA 0, 68, .inl ms_z))] H := hP
  have hD : va_D A [(q0, .inr (11, [.ref q1, .ref q2, .ref q3, .ref q4, .int 0, .ref q5, .ref q6, .long 0, .ref q7, .int 0, .int (-1), .ref q8, .ref q9, .int 0, .ref q10, .int 0, .int 0, .int 0, .int 0, .int 0, .int 0, .int 0, .ref q11, .ref q12, .ref q13, .int 0, .ref q14, .ref q15, .ref q16, .ref q17, .int 0, .ref q18])), (q1, .inl (cA 0, 68, .inl ms_z))] := hD
  exact ms_zret hx hb hr rfl hlk () rfl hP hD hS (Nat.le_of_ble_eq_true rfl) (Nat.le_of_ble_eq_true rfl) dX11_isTown_15
set_option maxHeartbeats 4000000 in
set_option maxRecDepth 100000 in
theorem cX11_areTowns_1 (l : Launch) (D : va_G) (cA : Nat → ClassId) (q0 q1 q2 q3 q4 q5 q6 q7 q8 q9 q10 q11 q12 q13 q14 q15 q16 q17 q18 : Nat) (a0 : Int32) (a1 : Int32) : ms_Mi l yX11_areTowns wsX11_areTowns ({ frames := 2, cells := 0, slots := 0, locals := 46 } : Room) D cA [.ref q0, .int a0, .int a1] [(q0, .inr (11, [.ref q1, .ref q2, .ref q3, .ref q4, .int 0, .ref q5, .ref q6, .long 0, .ref q7, .int 0, .int (-1), .ref q8, .ref q9, .int 0, .ref q10, .int 0, .int 0, .int 0, .int 0, .int 0, .int 0, .int 0, .ref q11, .ref q12, .ref q13, .int 0, .ref q14, .ref q15, .ref q16, .ref q17, .int 0, .ref q18])), (q1, .inl (cA 0, 68, .inl ms_z))] (fun (r : Int32) (_ : Unit) => r = 0) (fun (_ : Unit) => [(q0, .inr (11, [.ref q1, .ref q2, .ref q3, .ref q4, .int 0, .ref q5, .ref q6, .long 0, .ref q7, .int 0, .int (-1), .ref q8, .ref q9, .int 0, .ref q10, .int 0, .int 0, .int 0, .int 0, .int 0, .int 0, .int 0, .ref q11, .ref q12, .ref q13, .int 0, .ref q14, .ref q15, .ref q16, .ref q17, .int 0, .ref q18])), (q1, .inl (cA 0, 68, .inl ms_z))]) := by
  refine ms_Mi_of (cc := cX11_areTowns) (maxL := 3) (ret := (some .boolean)) (by decide) rfl (Nat.le_of_ble_eq_true rfl) ?_
  intro p e s m args below meth c A ls hB hE hA hP hD hS hl
  obtain ⟨hx, hb, hr, hml, hown, hts, hlk, hnm⟩ := hB
  have hown : s.vm.findClass RX11 = some m.cls := hown
  have hl : lv_has ls 3 [(0, .ref q0), (1, .int a0), (2, .int a1)] := hl
  refine lv_aload_n hx hb dX11_areTowns_0 rfl (lv_at hl 0 rfl) ?_
  refine lv_iload_n hx hb dX11_areTowns_1 rfl (lv_at hl 1 rfl) ?_
  refine ms_cVi (qc := (RX11, TX11, 32)) (wc := [(q0, .inr (11, [.ref q1, .ref q2, .ref q3, .ref q4, .int 0, .ref q5, .ref q6, .long 0, .ref q7, .int 0, .int (-1), .ref q8, .ref q9, .int 0, .ref q10, .int 0, .int 0, .int 0, .int 0, .int 0, .int 0, .int 0, .ref q11, .ref q12, .ref q13, .int 0, .ref q14, .ref q15, .ref q16, .ref q17, .int 0, .ref q18])), (q1, .inl (cA 0, 68, .inl ms_z))]) (wr := []) ⟨hx, hb, hml, hown, hts⟩ hE (cX11_isTown_1 l D cA q0 q1 q2 q3 q4 q5 q6 q7 q8 q9 q10 q11 q12 q13 q14 q15 q16 q17 q18 a0) (cwV 1 hts gX11_areTowns_X11_isTown rfl rfl rfl (by decide +kernel) ⟨Nat.le_of_ble_eq_true rfl, Nat.le_of_ble_eq_true rfl⟩) hP hD hS hA [0, 1] [] rfl rfl rfl rfl (by decide) 0 11 rfl rfl rfl hl.1 rfl (Nat.le_of_ble_eq_true rfl) dX11_areTowns_2 ⟨Nat.le_of_ble_eq_true rfl, Nat.le_of_ble_eq_true rfl⟩ (fun r2 u1 H locs hp hP hD hS => ?_)
  subst hp
  have hP : va_P D vwCl [(q0, .inr (11, [.ref q1, .ref q2, .ref q3, .ref q4, .int 0, .ref q5, .ref q6, .long 0, .ref q7, .int 0, .int (-1), .ref q8, .ref q9, .int 0, .ref q10, .int 0, .int 0, .int 0, .int 0, .int 0, .int 0, .int 0, .ref q11, .ref q12, .ref q13, .int 0, .ref q14, .ref q15, .ref q16, .ref q17, .int 0, .ref q18])), (q1, .inl (cA 0, 68, .inl ms_z))] H := hP
  have hD : va_D A [(q0, .inr (11, [.ref q1, .ref q2, .ref q3, .ref q4, .int 0, .ref q5, .ref q6, .long 0, .ref q7, .int 0, .int (-1), .ref q8, .ref q9, .int 0, .ref q10, .int 0, .int 0, .int 0, .int 0, .int 0, .int 0, .int 0, .ref q11, .ref q12, .ref q13, .int 0, .ref q14, .ref q15, .ref q16, .ref q17, .int 0, .ref q18])), (q1, .inl (cA 0, 68, .inl ms_z))] := hD
  refine lv_if_eq (tgt := 25) hx hb dX11_areTowns_5 (by decide) (fun _ => ?_) (fun c => absurd (by decide) c)
  refine lv_iconst (v := 0) hx hb dX11_areTowns_25 (by decide) ?_
  exact ms_zret hx hb hr rfl hlk () rfl hP hD hS (Nat.le_of_ble_eq_true rfl) (Nat.le_of_ble_eq_true rfl) dX11_areTowns_26
set_option maxHeartbeats 4000000 in
set_option maxRecDepth 100000 in
theorem cX11_way_1 (l : Launch) (D : va_G) (cA : Nat → ClassId) (q0 q1 q2 q3 q4 q5 q6 q7 q8 q9 q10 q11 q12 q13 q14 q15 q16 q17 q18 : Nat) (a0 : Int32) (a1 : Int32) : ms_Mi l yX11_way wsX11_way ({ frames := 3, cells := 0, slots := 0, locals := 68 } : Room) D cA [.ref q0, .int a0, .int a1, .int 1] [(q0, .inr (11, [.ref q1, .ref q2, .ref q3, .ref q4, .int 0, .ref q5, .ref q6, .long 0, .ref q7, .int 0, .int (-1), .ref q8, .ref q9, .int 0, .ref q10, .int 0, .int 0, .int 0, .int 0, .int 0, .int 0, .int 0, .ref q11, .ref q12, .ref q13, .int 0, .ref q14, .ref q15, .ref q16, .ref q17, .int 0, .ref q18])), (q1, .inl (cA 0, 68, .inl ms_z))] (fun (r : Int32) (_ : Unit) => r = (-1000000001)) (fun (_ : Unit) => [(q0, .inr (11, [.ref q1, .ref q2, .ref q3, .ref q4, .int 0, .ref q5, .ref q6, .long 0, .ref q7, .int 0, .int (-1), .ref q8, .ref q9, .int 0, .ref q10, .int 0, .int 0, .int 0, .int 0, .int 0, .int 0, .int 0, .ref q11, .ref q12, .ref q13, .int 0, .ref q14, .ref q15, .ref q16, .ref q17, .int 0, .ref q18])), (q1, .inl (cA 0, 68, .inl ms_z))]) := by
  refine ms_Mi_of (cc := cX11_way) (maxL := 5) (ret := (some .int)) (by decide) rfl (Nat.le_of_ble_eq_true rfl) ?_
  intro p e s m args below meth c A ls hB hE hA hP hD hS hl
  obtain ⟨hx, hb, hr, hml, hown, hts, hlk, hnm⟩ := hB
  have hown : s.vm.findClass RX11 = some m.cls := hown
  have hl : lv_has ls 5 [(0, .ref q0), (1, .int a0), (2, .int a1), (3, .int 1)] := hl
  refine lv_aload_n hx hb dX11_way_0 rfl (lv_at hl 0 rfl) ?_
  refine lv_iload_n hx hb dX11_way_1 rfl (lv_at hl 1 rfl) ?_
  refine lv_iload_n hx hb dX11_way_2 rfl (lv_at hl 2 rfl) ?_
  refine ms_cVi (qc := (RX11, TX11, 32)) (wc := [(q0, .inr (11, [.ref q1, .ref q2, .ref q3, .ref q4, .int 0, .ref q5, .ref q6, .long 0, .ref q7, .int 0, .int (-1), .ref q8, .ref q9, .int 0, .ref q10, .int 0, .int 0, .int 0, .int 0, .int 0, .int 0, .int 0, .ref q11, .ref q12, .ref q13, .int 0, .ref q14, .ref q15, .ref q16, .ref q17, .int 0, .ref q18])), (q1, .inl (cA 0, 68, .inl ms_z))]) (wr := []) ⟨hx, hb, hml, hown, hts⟩ hE (cX11_areTowns_1 l D cA q0 q1 q2 q3 q4 q5 q6 q7 q8 q9 q10 q11 q12 q13 q14 q15 q16 q17 q18 a0 a1) (cwV 2 hts gX11_way_X11_areTowns rfl rfl rfl (by decide +kernel) ⟨Nat.le_of_ble_eq_true rfl, Nat.le_of_ble_eq_true rfl⟩) hP hD hS hA [0, 1] [] rfl rfl rfl rfl (by decide) 0 11 rfl rfl rfl hl.1 rfl (Nat.le_of_ble_eq_true rfl) dX11_way_3 ⟨Nat.le_of_ble_eq_true rfl, Nat.le_of_ble_eq_true rfl⟩ (fun r2 u1 H locs hp hP hD hS => ?_)
  subst hp
  have hP : va_P D vwCl [(q0, .inr (11, [.ref q1, .ref q2, .ref q3, .ref q4, .int 0, .ref q5, .ref q6, .long 0, .ref q7, .int 0, .int (-1), .ref q8, .ref q9, .int 0, .ref q10, .int 0, .int 0, .int 0, .int 0, .int 0, .int 0, .int 0, .ref q11, .ref q12, .ref q13, .int 0, .ref q14, .ref q15, .ref q16, .ref q17, .int 0, .ref q18])), (q1, .inl (cA 0, 68, .inl ms_z))] H := hP
  have hD : va_D A [(q0, .inr (11, [.ref q1, .ref q2, .ref q3, .ref q4, .int 0, .ref q5, .ref q6, .long 0, .ref q7, .int 0, .int (-1), .ref q8, .ref q9, .int 0, .ref q10, .int 0, .int 0, .int 0, .int 0, .int 0, .int 0, .int 0, .ref q11, .ref q12, .ref q13, .int 0, .ref q14, .ref q15, .ref q16, .ref q17, .int 0, .ref q18])), (q1, .inl (cA 0, 68, .inl ms_z))] := hD
  refine lv_if_ne (tgt := 12) hx hb dX11_way_6 (by decide) (fun c => absurd (by decide) c) (fun _ => ?_)
  refine lv_ldc (v := (-1000000001)) hx hb hown (hts (.constant RX11 173 (-1000000001)) (List.mem_cons_of_mem _ (List.mem_append_left _ (List.mem_of_getElem? (i := 0) rfl)))) dX11_way_9 ?_
  exact ms_iret hx hb hr hlk () rfl hP hD hS (Nat.le_of_ble_eq_true rfl) (Nat.le_of_ble_eq_true rfl) dX11_way_11
set_option maxHeartbeats 4000000 in
set_option maxRecDepth 100000 in
theorem cX10_way_2 (l : Launch) (D : va_G) (cA : Nat → ClassId) (q0 q1 q2 q3 q4 q5 q6 q7 q8 q9 q10 q11 q12 q13 q14 q15 q16 q17 q18 q19 : Nat) (a0 : Int32) (a1 : Int32) : ms_Mi l yX10_way wsX10_way ({ frames := 2, cells := 0, slots := 0, locals := 43 } : Room) D cA [.ref q0, .int a0, .int a1, .int 0] [(q0, .inr (10, [.ref q2, .ref q1, .ref q3, .ref q4, .ref q5, .int 0, .ref q6, .ref q7, .ref q8, .ref q9, .ref q10, .ref q11])), (q1, .inr (2, [.int 0, .int 0, .int 0, .int 0, .int 0, .ref q12, .ref q13, .ref q14, .ref q15, .ref q16, .ref q17, .ref q18, .ref q19]))] (fun (r : Int32) (_ : Unit) => r = (-1000000001)) (fun (_ : Unit) => [(q0, .inr (10, [.ref q2, .ref q1, .ref q3, .ref q4, .ref q5, .int 0, .ref q6, .ref q7, .ref q8, .ref q9, .ref q10, .ref q11])), (q1, .inr (2, [.int 0, .int 0, .int 0, .int 0, .int 0, .ref q12, .ref q13, .ref q14, .ref q15, .ref q16, .ref q17, .ref q18, .ref q19]))]) := by
  refine ms_Mi_of (cc := cX10_way) (maxL := 4) (ret := (some .int)) (by decide) rfl (Nat.le_of_ble_eq_true rfl) ?_
  intro p e s m args below meth c A ls hB hE hA hP hD hS hl
  obtain ⟨hx, hb, hr, hml, hown, hts, hlk, hnm⟩ := hB
  have hown : s.vm.findClass RX10 = some m.cls := hown
  have hl : lv_has ls 4 [(0, .ref q0), (1, .int a0), (2, .int a1), (3, .int 0)] := hl
  refine lv_aload_n hx hb dX10_way_0 rfl (lv_at hl 0 rfl) ?_
  refine lv_iload_n hx hb dX10_way_1 rfl (lv_at hl 1 rfl) ?_
  refine lv_iload_n hx hb dX10_way_2 rfl (lv_at hl 2 rfl) ?_
  refine ms_cVi (qc := (RX10, TX10, 12)) (wc := [(q0, .inr (10, [.ref q2, .ref q1, .ref q3, .ref q4, .ref q5, .int 0, .ref q6, .ref q7, .ref q8, .ref q9, .ref q10, .ref q11])), (q1, .inr (2, [.int 0, .int 0, .int 0, .int 0, .int 0, .ref q12, .ref q13, .ref q14, .ref q15, .ref q16, .ref q17, .ref q18, .ref q19]))]) (wr := []) ⟨hx, hb, hml, hown, hts⟩ hE (cX10_areTowns_1 l D cA q0 q1 q2 q3 q4 q5 q6 q7 q8 q9 q10 q11 q12 q13 q14 q15 q16 q17 q18 q19 a0 a1) (cwV 2 hts gX10_way_X10_areTowns rfl rfl rfl (by decide +kernel) ⟨Nat.le_of_ble_eq_true rfl, Nat.le_of_ble_eq_true rfl⟩) hP hD hS hA [0, 1] [] rfl rfl rfl rfl (by decide) 0 10 rfl rfl rfl hl.1 rfl (Nat.le_of_ble_eq_true rfl) dX10_way_3 ⟨Nat.le_of_ble_eq_true rfl, Nat.le_of_ble_eq_true rfl⟩ (fun r2 u1 H locs hp hP hD hS => ?_)
  subst hp
  have hP : va_P D vwCl [(q0, .inr (10, [.ref q2, .ref q1, .ref q3, .ref q4, .ref q5, .int 0, .ref q6, .ref q7, .ref q8, .ref q9, .ref q10, .ref q11])), (q1, .inr (2, [.int 0, .int 0, .int 0, .int 0, .int 0, .ref q12, .ref q13, .ref q14, .ref q15, .ref q16, .ref q17, .ref q18, .ref q19]))] H := hP
  have hD : va_D A [(q0, .inr (10, [.ref q2, .ref q1, .ref q3, .ref q4, .ref q5, .int 0, .ref q6, .ref q7, .ref q8, .ref q9, .ref q10, .ref q11])), (q1, .inr (2, [.int 0, .int 0, .int 0, .int 0, .int 0, .ref q12, .ref q13, .ref q14, .ref q15, .ref q16, .ref q17, .ref q18, .ref q19]))] := hD
  refine lv_if_ne (tgt := 12) hx hb dX10_way_6 (by decide) (fun c => absurd (by decide) c) (fun _ => ?_)
  refine lv_ldc (v := (-1000000001)) hx hb hown (hts (.constant RX10 178 (-1000000001)) (List.mem_cons_of_mem _ (List.mem_append_left _ (List.mem_append_left _ (List.mem_append_left _ (List.mem_append_left _ (List.mem_append_left _ (List.mem_of_getElem? (i := 0) rfl)))))))) dX10_way_9 ?_
  exact ms_iret hx hb hr hlk () rfl hP hD hS (Nat.le_of_ble_eq_true rfl) (Nat.le_of_ble_eq_true rfl) dX10_way_11
set_option maxHeartbeats 4000000 in
set_option maxRecDepth 100000 in
theorem cX11_way_2 (l : Launch) (D : va_G) (cA : Nat → ClassId) (q0 q1 q2 q3 q4 q5 q6 q7 q8 q9 q10 q11 q12 q13 q14 q15 q16 q17 q18 : Nat) (a0 : Int32) (a1 : Int32) : ms_Mi l yX11_way wsX11_way ({ frames := 3, cells := 0, slots := 0, locals := 68 } : Room) D cA [.ref q0, .int a0, .int a1, .int 0] [(q0, .inr (11, [.ref q1, .ref q2, .ref q3, .ref q4, .int 0, .ref q5, .ref q6, .long 0, .ref q7, .int 0, .int (-1), .ref q8, .ref q9, .int 0, .ref q10, .int 0, .int 0, .int 0, .int 0, .int 0, .int 0, .int 0, .ref q11, .ref q12, .ref q13, .int 0, .ref q14, .ref q15, .ref q16, .ref q17, .int 0, .ref q18])), (q1, .inl (cA 0, 68, .inl ms_z))] (fun (r : Int32) (_ : Unit) => r = (-1000000001)) (fun (_ : Unit) => [(q0, .inr (11, [.ref q1, .ref q2, .ref q3, .ref q4, .int 0, .ref q5, .ref q6, .long 0, .ref q7, .int 0, .int (-1), .ref q8, .ref q9, .int 0, .ref q10, .int 0, .int 0, .int 0, .int 0, .int 0, .int 0, .int 0, .ref q11, .ref q12, .ref q13, .int 0, .ref q14, .ref q15, .ref q16, .ref q17, .int 0, .ref q18])), (q1, .inl (cA 0, 68, .inl ms_z))]) := by
  refine ms_Mi_of (cc := cX11_way) (maxL := 5) (ret := (some .int)) (by decide) rfl (Nat.le_of_ble_eq_true rfl) ?_
  intro p e s m args below meth c A ls hB hE hA hP hD hS hl
  obtain ⟨hx, hb, hr, hml, hown, hts, hlk, hnm⟩ := hB
  have hown : s.vm.findClass RX11 = some m.cls := hown
  have hl : lv_has ls 5 [(0, .ref q0), (1, .int a0), (2, .int a1), (3, .int 0)] := hl
  refine lv_aload_n hx hb dX11_way_0 rfl (lv_at hl 0 rfl) ?_
  refine lv_iload_n hx hb dX11_way_1 rfl (lv_at hl 1 rfl) ?_
  refine lv_iload_n hx hb dX11_way_2 rfl (lv_at hl 2 rfl) ?_
  refine ms_cVi (qc := (RX11, TX11, 32)) (wc := [(q0, .inr (11, [.ref q1, .ref q2, .ref q3, .ref q4, .int 0, .ref q5, .ref q6, .long 0, .ref q7, .int 0, .int (-1), .ref q8, .ref q9, .int 0, .ref q10, .int 0, .int 0, .int 0, .int 0, .int 0, .int 0, .int 0, .ref q11, .ref q12, .ref q13, .int 0, .ref q14, .ref q15, .ref q16, .ref q17, .int 0, .ref q18])), (q1, .inl (cA 0, 68, .inl ms_z))]) (wr := []) ⟨hx, hb, hml, hown, hts⟩ hE (cX11_areTowns_1 l D cA q0 q1 q2 q3 q4 q5 q6 q7 q8 q9 q10 q11 q12 q13 q14 q15 q16 q17 q18 a0 a1) (cwV 2 hts gX11_way_X11_areTowns rfl rfl rfl (by decide +kernel) ⟨Nat.le_of_ble_eq_true rfl, Nat.le_of_ble_eq_true rfl⟩) hP hD hS hA [0, 1] [] rfl rfl rfl rfl (by decide) 0 11 rfl rfl rfl hl.1 rfl (Nat.le_of_ble_eq_true rfl) dX11_way_3 ⟨Nat.le_of_ble_eq_true rfl, Nat.le_of_ble_eq_true rfl⟩ (fun r2 u1 H locs hp hP hD hS => ?_)
  subst hp
  have hP : va_P D vwCl [(q0, .inr (11, [.ref q1, .ref q2, .ref q3, .ref q4, .int 0, .ref q5, .ref q6, .long 0, .ref q7, .int 0, .int (-1), .ref q8, .ref q9, .int 0, .ref q10, .int 0, .int 0, .int 0, .int 0, .int 0, .int 0, .int 0, .ref q11, .ref q12, .ref q13, .int 0, .ref q14, .ref q15, .ref q16, .ref q17, .int 0, .ref q18])), (q1, .inl (cA 0, 68, .inl ms_z))] H := hP
  have hD : va_D A [(q0, .inr (11, [.ref q1, .ref q2, .ref q3, .ref q4, .int 0, .ref q5, .ref q6, .long 0, .ref q7, .int 0, .int (-1), .ref q8, .ref q9, .int 0, .ref q10, .int 0, .int 0, .int 0, .int 0, .int 0, .int 0, .int 0, .ref q11, .ref q12, .ref q13, .int 0, .ref q14, .ref q15, .ref q16, .ref q17, .int 0, .ref q18])), (q1, .inl (cA 0, 68, .inl ms_z))] := hD
  refine lv_if_ne (tgt := 12) hx hb dX11_way_6 (by decide) (fun c => absurd (by decide) c) (fun _ => ?_)
  refine lv_ldc (v := (-1000000001)) hx hb hown (hts (.constant RX11 173 (-1000000001)) (List.mem_cons_of_mem _ (List.mem_append_left _ (List.mem_of_getElem? (i := 0) rfl)))) dX11_way_9 ?_
  exact ms_iret hx hb hr hlk () rfl hP hD hS (Nat.le_of_ble_eq_true rfl) (Nat.le_of_ble_eq_true rfl) dX11_way_11
set_option maxHeartbeats 4000000 in
set_option maxRecDepth 100000 in
theorem cX10_truly_1 (l : Launch) (D : va_G) (cA : Nat → ClassId) (q0 q1 q2 q3 q4 q5 q6 q7 q8 q9 q10 q11 q12 q13 q14 q15 q16 q17 q18 q19 : Nat) (a0 : Int32) (a1 : Int32) (a2 : Int32) : ms_Mi l yX10_truly wsX10_truly ({ frames := 2, cells := 0, slots := 0, locals := 43 } : Room) D cA [.ref q0, .int a0, .int a1, .int a2] [(q0, .inr (10, [.ref q2, .ref q1, .ref q3, .ref q4, .ref q5, .int 0, .ref q6, .ref q7, .ref q8, .ref q9, .ref q10, .ref q11])), (q1, .inr (2, [.int 0, .int 0, .int 0, .int 0, .int 0, .ref q12, .ref q13, .ref q14, .ref q15, .ref q16, .ref q17, .ref q18, .ref q19]))] (fun (r : Int32) (_ : Unit) => r = (-1000000001)) (fun (_ : Unit) => [(q0, .inr (10, [.ref q2, .ref q1, .ref q3, .ref q4, .ref q5, .int 0, .ref q6, .ref q7, .ref q8, .ref q9, .ref q10, .ref q11])), (q1, .inr (2, [.int 0, .int 0, .int 0, .int 0, .int 0, .ref q12, .ref q13, .ref q14, .ref q15, .ref q16, .ref q17, .ref q18, .ref q19]))]) := by
  refine ms_Mi_of (cc := cX10_truly) (maxL := 4) (ret := (some .int)) (by decide) rfl (Nat.le_of_ble_eq_true rfl) ?_
  intro p e s m args below meth c A ls hB hE hA hP hD hS hl
  obtain ⟨hx, hb, hr, hml, hown, hts, hlk, hnm⟩ := hB
  have hown : s.vm.findClass RX10 = some m.cls := hown
  have hl : lv_has ls 4 [(0, .ref q0), (1, .int a0), (2, .int a1), (3, .int a2)] := hl
  refine lv_aload_n hx hb dX10_truly_0 rfl (lv_at hl 0 rfl) ?_
  refine lv_iload_n hx hb dX10_truly_1 rfl (lv_at hl 1 rfl) ?_
  refine lv_iload_n hx hb dX10_truly_2 rfl (lv_at hl 2 rfl) ?_
  refine ms_cVi (qc := (RX10, TX10, 12)) (wc := [(q0, .inr (10, [.ref q2, .ref q1, .ref q3, .ref q4, .ref q5, .int 0, .ref q6, .ref q7, .ref q8, .ref q9, .ref q10, .ref q11])), (q1, .inr (2, [.int 0, .int 0, .int 0, .int 0, .int 0, .ref q12, .ref q13, .ref q14, .ref q15, .ref q16, .ref q17, .ref q18, .ref q19]))]) (wr := []) ⟨hx, hb, hml, hown, hts⟩ hE (cX10_areTowns_1 l D cA q0 q1 q2 q3 q4 q5 q6 q7 q8 q9 q10 q11 q12 q13 q14 q15 q16 q17 q18 q19 a0 a1) (cwV 2 hts gX10_truly_X10_areTowns rfl rfl rfl (by decide +kernel) ⟨Nat.le_of_ble_eq_true rfl, Nat.le_of_ble_eq_true rfl⟩) hP hD hS hA [0, 1] [] rfl rfl rfl rfl (by decide) 0 10 rfl rfl rfl hl.1 rfl (Nat.le_of_ble_eq_true rfl) dX10_truly_3 ⟨Nat.le_of_ble_eq_true rfl, Nat.le_of_ble_eq_true rfl⟩ (fun r2 u1 H locs hp hP hD hS => ?_)
  subst hp
  have hP : va_P D vwCl [(q0, .inr (10, [.ref q2, .ref q1, .ref q3, .ref q4, .ref q5, .int 0, .ref q6, .ref q7, .ref q8, .ref q9, .ref q10, .ref q11])), (q1, .inr (2, [.int 0, .int 0, .int 0, .int 0, .int 0, .ref q12, .ref q13, .ref q14, .ref q15, .ref q16, .ref q17, .ref q18, .ref q19]))] H := hP
  have hD : va_D A [(q0, .inr (10, [.ref q2, .ref q1, .ref q3, .ref q4, .ref q5, .int 0, .ref q6, .ref q7, .ref q8, .ref q9, .ref q10, .ref q11])), (q1, .inr (2, [.int 0, .int 0, .int 0, .int 0, .int 0, .ref q12, .ref q13, .ref q14, .ref q15, .ref q16, .ref q17, .ref q18, .ref q19]))] := hD
  refine lv_if_ne (tgt := 12) hx hb dX10_truly_6 (by decide) (fun c => absurd (by decide) c) (fun _ => ?_)
  refine lv_ldc (v := (-1000000001)) hx hb hown (hts (.constant RX10 178 (-1000000001)) (List.mem_cons_of_mem _ (List.mem_append_left _ (List.mem_append_left _ (List.mem_append_left _ (List.mem_append_left _ (List.mem_append_left _ (List.mem_of_getElem? (i := 0) rfl)))))))) dX10_truly_9 ?_
  exact ms_iret hx hb hr hlk () rfl hP hD hS (Nat.le_of_ble_eq_true rfl) (Nat.le_of_ble_eq_true rfl) dX10_truly_11
set_option maxHeartbeats 4000000 in
set_option maxRecDepth 100000 in
theorem cX11_truly_1 (l : Launch) (D : va_G) (cA : Nat → ClassId) (q0 q1 q2 q3 q4 q5 q6 q7 q8 q9 q10 q11 q12 q13 q14 q15 q16 q17 q18 : Nat) (a0 : Int32) (a1 : Int32) (a2 : Int32) : ms_Mi l yX11_truly wsX11_truly ({ frames := 3, cells := 0, slots := 0, locals := 68 } : Room) D cA [.ref q0, .int a0, .int a1, .int a2] [(q0, .inr (11, [.ref q1, .ref q2, .ref q3, .ref q4, .int 0, .ref q5, .ref q6, .long 0, .ref q7, .int 0, .int (-1), .ref q8, .ref q9, .int 0, .ref q10, .int 0, .int 0, .int 0, .int 0, .int 0, .int 0, .int 0, .ref q11, .ref q12, .ref q13, .int 0, .ref q14, .ref q15, .ref q16, .ref q17, .int 0, .ref q18])), (q1, .inl (cA 0, 68, .inl ms_z))] (fun (r : Int32) (_ : Unit) => r = (-1000000001)) (fun (_ : Unit) => [(q0, .inr (11, [.ref q1, .ref q2, .ref q3, .ref q4, .int 0, .ref q5, .ref q6, .long 0, .ref q7, .int 0, .int (-1), .ref q8, .ref q9, .int 0, .ref q10, .int 0, .int 0, .int 0, .int 0, .int 0, .int 0, .int 0, .ref q11, .ref q12, .ref q13, .int 0, .ref q14, .ref q15, .ref q16, .ref q17, .int 0, .ref q18])), (q1, .inl (cA 0, 68, .inl ms_z))]) := by
  refine ms_Mi_of (cc := cX11_truly) (maxL := 5) (ret := (some .int)) (by decide) rfl (Nat.le_of_ble_eq_true rfl) ?_
  intro p e s m args below meth c A ls hB hE hA hP hD hS hl
  obtain ⟨hx, hb, hr, hml, hown, hts, hlk, hnm⟩ := hB
  have hown : s.vm.findClass RX11 = some m.cls := hown
  have hl : lv_has ls 5 [(0, .ref q0), (1, .int a0), (2, .int a1), (3, .int a2)] := hl
  refine lv_aload_n hx hb dX11_truly_0 rfl (lv_at hl 0 rfl) ?_
  refine lv_iload_n hx hb dX11_truly_1 rfl (lv_at hl 1 rfl) ?_
  refine lv_iload_n hx hb dX11_truly_2 rfl (lv_at hl 2 rfl) ?_
  refine ms_cVi (qc := (RX11, TX11, 32)) (wc := [(q0, .inr (11, [.ref q1, .ref q2, .ref q3, .ref q4, .int 0, .ref q5, .ref q6, .long 0, .ref q7, .int 0, .int (-1), .ref q8, .ref q9, .int 0, .ref q10, .int 0, .int 0, .int 0, .int 0, .int 0, .int 0, .int 0, .ref q11, .ref q12, .ref q13, .int 0, .ref q14, .ref q15, .ref q16, .ref q17, .int 0, .ref q18])), (q1, .inl (cA 0, 68, .inl ms_z))]) (wr := []) ⟨hx, hb, hml, hown, hts⟩ hE (cX11_areTowns_1 l D cA q0 q1 q2 q3 q4 q5 q6 q7 q8 q9 q10 q11 q12 q13 q14 q15 q16 q17 q18 a0 a1) (cwV 2 hts gX11_truly_X11_areTowns rfl rfl rfl (by decide +kernel) ⟨Nat.le_of_ble_eq_true rfl, Nat.le_of_ble_eq_true rfl⟩) hP hD hS hA [0, 1] [] rfl rfl rfl rfl (by decide) 0 11 rfl rfl rfl hl.1 rfl (Nat.le_of_ble_eq_true rfl) dX11_truly_3 ⟨Nat.le_of_ble_eq_true rfl, Nat.le_of_ble_eq_true rfl⟩ (fun r2 u1 H locs hp hP hD hS => ?_)
  subst hp
  have hP : va_P D vwCl [(q0, .inr (11, [.ref q1, .ref q2, .ref q3, .ref q4, .int 0, .ref q5, .ref q6, .long 0, .ref q7, .int 0, .int (-1), .ref q8, .ref q9, .int 0, .ref q10, .int 0, .int 0, .int 0, .int 0, .int 0, .int 0, .int 0, .ref q11, .ref q12, .ref q13, .int 0, .ref q14, .ref q15, .ref q16, .ref q17, .int 0, .ref q18])), (q1, .inl (cA 0, 68, .inl ms_z))] H := hP
  have hD : va_D A [(q0, .inr (11, [.ref q1, .ref q2, .ref q3, .ref q4, .int 0, .ref q5, .ref q6, .long 0, .ref q7, .int 0, .int (-1), .ref q8, .ref q9, .int 0, .ref q10, .int 0, .int 0, .int 0, .int 0, .int 0, .int 0, .int 0, .ref q11, .ref q12, .ref q13, .int 0, .ref q14, .ref q15, .ref q16, .ref q17, .int 0, .ref q18])), (q1, .inl (cA 0, 68, .inl ms_z))] := hD
  refine lv_if_ne (tgt := 12) hx hb dX11_truly_6 (by decide) (fun c => absurd (by decide) c) (fun _ => ?_)
  refine lv_ldc (v := (-1000000001)) hx hb hown (hts (.constant RX11 173 (-1000000001)) (List.mem_cons_of_mem _ (List.mem_append_left _ (List.mem_append_left _ (List.mem_of_getElem? (i := 0) rfl))))) dX11_truly_9 ?_
  exact ms_iret hx hb hr hlk () rfl hP hD hS (Nat.le_of_ble_eq_true rfl) (Nat.le_of_ble_eq_true rfl) dX11_truly_11
set_option maxHeartbeats 4000000 in
set_option maxRecDepth 100000 in
theorem cX10_adds_1 (l : Launch) (D : va_G) (cA : Nat → ClassId) (q0 q1 q2 q3 q4 q5 q6 q7 q8 q9 q10 q11 q12 q13 q14 q15 q16 q17 q18 q19 : Nat) : ms_Mi l yX10_adds wsX10_adds ({ frames := 0, cells := 0, slots := 0, locals := 0 } : Room) D cA [.ref q0] [(q0, .inr (10, [.ref q2, .ref q1, .ref q3, .ref q4, .ref q5, .int 0, .ref q6, .ref q7, .ref q8, .ref q9, .ref q10, .ref q11])), (q1, .inr (2, [.int 0, .int 0, .int 0, .int 0, .int 0, .ref q12, .ref q13, .ref q14, .ref q15, .ref q16, .ref q17, .ref q18, .ref q19]))] (fun (r : Int32) (_ : Unit) => r = (-1)) (fun (_ : Unit) => [(q0, .inr (10, [.ref q2, .ref q1, .ref q3, .ref q4, .ref q5, .int 0, .ref q6, .ref q7, .ref q8, .ref q9, .ref q10, .ref q11])), (q1, .inr (2, [.int 0, .int 0, .int 0, .int 0, .int 0, .ref q12, .ref q13, .ref q14, .ref q15, .ref q16, .ref q17, .ref q18, .ref q19]))]) := by
  refine ms_Mi_of (cc := cX10_adds) (maxL := 4) (ret := (some .int)) (by decide) rfl (Nat.le_of_ble_eq_true rfl) ?_
  intro p e s m args below meth c A ls hB hE hA hP hD hS hl
  obtain ⟨hx, hb, hr, hml, hown, hts, hlk, hnm⟩ := hB
  have hown : s.vm.findClass RX10 = some m.cls := hown
  have hnX2 : ∀ w ∈ u_ws RX2 TX2 13, w ∈ wsX10_adds := fun _ h => List.mem_cons_of_mem _ (List.mem_append_left _ (List.mem_append_right _ (h)))
  have hnX10 : ∀ w ∈ u_ws RX10 TX10 12, w ∈ wsX10_adds := fun _ h => List.mem_cons_of_mem _ (List.mem_append_left _ (List.mem_append_left _ (List.mem_append_right _ (h))))
  have hl : lv_has ls 4 [(0, .ref q0)] := hl
  refine lv_iconst (v := 0) hx hb dX10_adds_0 (by decide) ?_
  refine lv_istore_n (lv' := [(1, .int 0), (0, .ref q0)]) hx hb dX10_adds_1 rfl hl (by decide) rfl (fun ls hl => ?_)
  refine lv_iload_n hx hb dX10_adds_2 rfl (lv_at hl 0 rfl) ?_
  refine lv_aload_n hx hb dX10_adds_3 rfl (lv_at hl 1 rfl) ?_
  refine va_get (D := D) (ci := 10) (v := .ref q1) (C := RX10) (T := TX10) (N := 12) hx hb hts hnX10 hown hE.1 hP 0 rfl rfl 1 (by decide) (hts (.fieldLink RX10 19 "MovedStones" "land" "LMovedStones$Land;") (List.mem_cons_of_mem _ (List.mem_append_left _ (List.mem_append_left _ (List.mem_append_left _ (List.mem_append_left _ (List.mem_of_getElem? (i := 0) rfl))))))) (fun _ h9 => h9) rfl dX10_adds_4 ?_
  refine va_get (D := D) (ci := 2) (v := .int 0) (C := RX2) (T := TX2) (N := 13) hx hb hts hnX2 hown hE.1 hP 1 rfl rfl 0 (by decide) (hts (.fieldLink RX10 119 "MovedStones$Land" "towns" "I") (List.mem_cons_of_mem _ (List.mem_append_left _ (List.mem_append_left _ (List.mem_append_left _ (List.mem_append_left _ (List.mem_of_getElem? (i := 1) rfl))))))) (fun _ h9 => h9) rfl dX10_adds_7 ?_
  refine lv_icmp_ge (tgt := 83) hx hb dX10_adds_10 (by decide) (fun _ => ?_) (fun c => absurd (by decide) c)
  refine lv_iconst (v := (-1)) hx hb dX10_adds_83 (by decide) ?_
  exact ms_iret hx hb hr hlk () rfl hP hD hS (Nat.le_of_ble_eq_true rfl) (Nat.le_of_ble_eq_true rfl) dX10_adds_84
set_option maxHeartbeats 4000000 in
set_option maxRecDepth 100000 in
theorem cX11_adds_1 (l : Launch) (D : va_G) (cA : Nat → ClassId) (q0 q1 q2 q3 q4 q5 q6 q7 q8 q9 q10 q11 q12 q13 q14 q15 q16 q17 q18 : Nat) : ms_Mi l yX11_adds wsX11_adds ({ frames := 0, cells := 0, slots := 0, locals := 0 } : Room) D cA [.ref q0] [(q0, .inr (11, [.ref q1, .ref q2, .ref q3, .ref q4, .int 0, .ref q5, .ref q6, .long 0, .ref q7, .int 0, .int (-1), .ref q8, .ref q9, .int 0, .ref q10, .int 0, .int 0, .int 0, .int 0, .int 0, .int 0, .int 0, .ref q11, .ref q12, .ref q13, .int 0, .ref q14, .ref q15, .ref q16, .ref q17, .int 0, .ref q18])), (q1, .inl (cA 0, 68, .inl ms_z))] (fun (r : Int32) (_ : Unit) => r = (-1)) (fun (_ : Unit) => [(q0, .inr (11, [.ref q1, .ref q2, .ref q3, .ref q4, .int 0, .ref q5, .ref q6, .long 0, .ref q7, .int 0, .int (-1), .ref q8, .ref q9, .int 0, .ref q10, .int 0, .int 0, .int 0, .int 0, .int 0, .int 0, .int 0, .ref q11, .ref q12, .ref q13, .int 0, .ref q14, .ref q15, .ref q16, .ref q17, .int 0, .ref q18])), (q1, .inl (cA 0, 68, .inl ms_z))]) := by
  refine ms_Mi_of (cc := cX11_adds) (maxL := 8) (ret := (some .int)) (by decide) rfl (Nat.le_of_ble_eq_true rfl) ?_
  intro p e s m args below meth c A ls hB hE hA hP hD hS hl
  obtain ⟨hx, hb, hr, hml, hown, hts, hlk, hnm⟩ := hB
  have hown : s.vm.findClass RX11 = some m.cls := hown
  have hnX11 : ∀ w ∈ u_ws RX11 TX11 32, w ∈ wsX11_adds := fun _ h => List.mem_cons_of_mem _ (List.mem_append_right _ (h))
  have hl : lv_has ls 8 [(0, .ref q0)] := hl
  refine lv_iconst (v := 0) hx hb dX11_adds_0 (by decide) ?_
  refine lv_istore_n (lv' := [(1, .int 0), (0, .ref q0)]) hx hb dX11_adds_1 rfl hl (by decide) rfl (fun ls hl => ?_)
  refine lv_iload_n hx hb dX11_adds_2 rfl (lv_at hl 0 rfl) ?_
  refine lv_aload_n hx hb dX11_adds_3 rfl (lv_at hl 1 rfl) ?_
  refine va_get (D := D) (ci := 11) (v := .ref q1) (C := RX11) (T := TX11) (N := 32) hx hb hts hnX11 hown hE.1 hP 0 rfl rfl 0 (by decide) (hts (.fieldLink RX11 7 "MovedStonesModel" "march" "[I") (List.mem_cons_of_mem _ (List.mem_append_left _ (List.mem_of_getElem? (i := 0) rfl)))) (fun _ h9 => h9) rfl dX11_adds_4 ?_
  refine lv_iconst (v := 0) hx hb dX11_adds_7 (by decide) ?_
  refine ms_iald (x := 0) hx hb hE hP 1 rfl 0 rfl (by omega) (by decide) (rfl) dX11_adds_8 ?_
  refine lv_icmp_ge (tgt := 151) hx hb dX11_adds_9 (by decide) (fun _ => ?_) (fun c => absurd (by decide) c)
  refine lv_iconst (v := (-1)) hx hb dX11_adds_151 (by decide) ?_
  exact ms_iret hx hb hr hlk () rfl hP hD hS (Nat.le_of_ble_eq_true rfl) (Nat.le_of_ble_eq_true rfl) dX11_adds_152
set_option maxHeartbeats 4000000 in
set_option maxRecDepth 100000 in
theorem cX2_hasRoad_2 (l : Launch) (D : va_G) (cA : Nat → ClassId) (q0 q1 q2 q3 q4 q5 q6 q7 q8 : Nat) (a0 : Int32) (g0 : a0.toInt ≤ -2) : ms_Mi l yX2_hasRoad wsX2_hasRoad ({ frames := 0, cells := 0, slots := 0, locals := 0 } : Room) D cA [.ref q0, .int a0] [(q0, .inr (2, [.int 0, .int 0, .int 0, .int 0, .int 0, .ref q1, .ref q2, .ref q3, .ref q4, .ref q5, .ref q6, .ref q7, .ref q8]))] (fun (r : Int32) (_ : Unit) => r = 0) (fun (_ : Unit) => [(q0, .inr (2, [.int 0, .int 0, .int 0, .int 0, .int 0, .ref q1, .ref q2, .ref q3, .ref q4, .ref q5, .ref q6, .ref q7, .ref q8]))]) := by
  refine ms_Mi_of (cc := cX2_hasRoad) (maxL := 2) (ret := (some .boolean)) (by decide) rfl (Nat.le_of_ble_eq_true rfl) ?_
  intro p e s m args below meth c A ls hB hE hA hP hD hS hl
  obtain ⟨hx, hb, hr, hml, hown, hts, hlk, hnm⟩ := hB
  have hown : s.vm.findClass RX2 = some m.cls := hown
  have hl : lv_has ls 2 [(0, .ref q0), (1, .int a0)] := hl
  refine lv_iload_n hx hb dX2_hasRoad_0 rfl (lv_at hl 1 rfl) ?_
  refine lv_if_lt (tgt := 16) hx hb dX2_hasRoad_1 (by decide) (fun _ => ?_) (fun c => by exfalso; have hc1 := mt Int32.lt_iff_toInt_lt.mpr c; have z2 : (0 : Int32).toInt = 0 := (by decide); omega)
  refine lv_iconst (v := 0) hx hb dX2_hasRoad_16 (by decide) ?_
  exact ms_zret hx hb hr rfl hlk () rfl hP hD hS (Nat.le_of_ble_eq_true rfl) (Nat.le_of_ble_eq_true rfl) dX2_hasRoad_17
set_option maxHeartbeats 4000000 in
set_option maxRecDepth 100000 in
theorem cX10_mend_1 (l : Launch) (D : va_G) (cA : Nat → ClassId) (q0 q1 q2 q3 q4 q5 q6 q7 q8 q9 q10 q11 q12 q13 q14 q15 q16 q17 q18 q19 : Nat) (a0 : Int32) (g0 : a0.toInt ≤ -2) : ms_Mi l yX10_mend wsX10_mend ({ frames := 1, cells := 0, slots := 0, locals := 21 } : Room) D cA [.ref q0, .int a0] [(q0, .inr (10, [.ref q2, .ref q1, .ref q3, .ref q4, .ref q5, .int 0, .ref q6, .ref q7, .ref q8, .ref q9, .ref q10, .ref q11])), (q1, .inr (2, [.int 0, .int 0, .int 0, .int 0, .int 0, .ref q12, .ref q13, .ref q14, .ref q15, .ref q16, .ref q17, .ref q18, .ref q19]))] (fun (r : Int32) (_ : Unit) => r = (-1000000001)) (fun (_ : Unit) => [(q0, .inr (10, [.ref q2, .ref q1, .ref q3, .ref q4, .ref q5, .int 0, .ref q6, .ref q7, .ref q8, .ref q9, .ref q10, .ref q11])), (q1, .inr (2, [.int 0, .int 0, .int 0, .int 0, .int 0, .ref q12, .ref q13, .ref q14, .ref q15, .ref q16, .ref q17, .ref q18, .ref q19]))]) := by
  refine ms_Mi_of (cc := cX10_mend) (maxL := 3) (ret := (some .int)) (by decide) rfl (Nat.le_of_ble_eq_true rfl) ?_
  intro p e s m args below meth c A ls hB hE hA hP hD hS hl
  obtain ⟨hx, hb, hr, hml, hown, hts, hlk, hnm⟩ := hB
  have hown : s.vm.findClass RX10 = some m.cls := hown
  have hnX10 : ∀ w ∈ u_ws RX10 TX10 12, w ∈ wsX10_mend := fun _ h => List.mem_cons_of_mem _ (List.mem_append_left _ (List.mem_append_left _ (List.mem_append_left _ (List.mem_append_right _ (h)))))
  have hl : lv_has ls 3 [(0, .ref q0), (1, .int a0)] := hl
  refine lv_iload_n hx hb dX10_mend_0 rfl (lv_at hl 1 rfl) ?_
  refine lv_iconst (v := (-1)) hx hb dX10_mend_1 (by decide) ?_
  refine lv_icmp_eq (tgt := 19) hx hb dX10_mend_2 (by decide) (fun c => by exfalso; have hc1 := congrArg Int32.toInt c; have z2 : ((-1) : Int32).toInt = -1 := (by decide); omega) (fun _ => ?_)
  refine lv_aload_n hx hb dX10_mend_5 rfl (lv_at hl 0 rfl) ?_
  refine va_get (D := D) (ci := 10) (v := .ref q1) (C := RX10) (T := TX10) (N := 12) hx hb hts hnX10 hown hE.1 hP 0 rfl rfl 1 (by decide) (hts (.fieldLink RX10 19 "MovedStones" "land" "LMovedStones$Land;") (List.mem_cons_of_mem _ (List.mem_append_left _ (List.mem_append_left _ (List.mem_append_left _ (List.mem_append_left _ (List.mem_append_left _ (List.mem_of_getElem? (i := 0) rfl)))))))) (fun _ h9 => h9) rfl dX10_mend_6 ?_
  refine lv_iload_n hx hb dX10_mend_9 rfl (lv_at hl 1 rfl) ?_
  refine ms_cVi (qc := (RX2, TX2, 13)) (wc := [(q1, .inr (2, [.int 0, .int 0, .int 0, .int 0, .int 0, .ref q12, .ref q13, .ref q14, .ref q15, .ref q16, .ref q17, .ref q18, .ref q19]))]) (wr := [(q0, .inr (10, [.ref q2, .ref q1, .ref q3, .ref q4, .ref q5, .int 0, .ref q6, .ref q7, .ref q8, .ref q9, .ref q10, .ref q11]))]) ⟨hx, hb, hml, hown, hts⟩ hE (cX2_hasRoad_2 l D cA q1 q12 q13 q14 q15 q16 q17 q18 q19 a0 (by omega)) (cwV 1 hts gX10_mend_X2_hasRoad rfl rfl rfl (by decide +kernel) ⟨Nat.le_of_ble_eq_true rfl, Nat.le_of_ble_eq_true rfl⟩) hP hD hS hA [1] [0] rfl rfl rfl rfl (by decide) 0 2 rfl rfl rfl hl.1 rfl (Nat.le_of_ble_eq_true rfl) dX10_mend_10 ⟨Nat.le_of_ble_eq_true rfl, Nat.le_of_ble_eq_true rfl⟩ (fun r4 u3 H locs hp hP hD hS => ?_)
  subst hp
  have hP : va_P D vwCl [(q0, .inr (10, [.ref q2, .ref q1, .ref q3, .ref q4, .ref q5, .int 0, .ref q6, .ref q7, .ref q8, .ref q9, .ref q10, .ref q11])), (q1, .inr (2, [.int 0, .int 0, .int 0, .int 0, .int 0, .ref q12, .ref q13, .ref q14, .ref q15, .ref q16, .ref q17, .ref q18, .ref q19]))] H := hP
  have hD : va_D A [(q0, .inr (10, [.ref q2, .ref q1, .ref q3, .ref q4, .ref q5, .int 0, .ref q6, .ref q7, .ref q8, .ref q9, .ref q10, .ref q11])), (q1, .inr (2, [.int 0, .int 0, .int 0, .int 0, .int 0, .ref q12, .ref q13, .ref q14, .ref q15, .ref q16, .ref q17, .ref q18, .ref q19]))] := hD
  refine lv_if_ne (tgt := 19) hx hb dX10_mend_13 (by decide) (fun c => absurd (by decide) c) (fun _ => ?_)
  refine lv_ldc (v := (-1000000001)) hx hb hown (hts (.constant RX10 178 (-1000000001)) (List.mem_cons_of_mem _ (List.mem_append_left _ (List.mem_append_left _ (List.mem_append_left _ (List.mem_append_left _ (List.mem_append_left _ (List.mem_of_getElem? (i := 1) rfl)))))))) dX10_mend_16 ?_
  exact ms_iret hx hb hr hlk () rfl hP hD hS (Nat.le_of_ble_eq_true rfl) (Nat.le_of_ble_eq_true rfl) dX10_mend_18
set_option maxHeartbeats 4000000 in
set_option maxRecDepth 100000 in
theorem cX11_isRoad_2 (l : Launch) (D : va_G) (cA : Nat → ClassId) (q0 q1 q2 q3 q4 q5 q6 q7 q8 q9 q10 q11 q12 q13 q14 q15 q16 q17 q18 : Nat) (a0 : Int32) (g0 : a0.toInt ≤ -2) : ms_Mi l yX11_isRoad wsX11_isRoad ({ frames := 1, cells := 0, slots := 0, locals := 25 } : Room) D cA [.ref q0, .int a0] [(q0, .inr (11, [.ref q1, .ref q2, .ref q3, .ref q4, .int 0, .ref q5, .ref q6, .long 0, .ref q7, .int 0, .int (-1), .ref q8, .ref q9, .int 0, .ref q10, .int 0, .int 0, .int 0, .int 0, .int 0, .int 0, .int 0, .ref q11, .ref q12, .ref q13, .int 0, .ref q14, .ref q15, .ref q16, .ref q17, .int 0, .ref q18])), (q1, .inl (cA 0, 68, .inl ms_z))] (fun (r : Int32) (_ : Unit) => r = 0) (fun (_ : Unit) => [(q0, .inr (11, [.ref q1, .ref q2, .ref q3, .ref q4, .int 0, .ref q5, .ref q6, .long 0, .ref q7, .int 0, .int (-1), .ref q8, .ref q9, .int 0, .ref q10, .int 0, .int 0, .int 0, .int 0, .int 0, .int 0, .int 0, .ref q11, .ref q12, .ref q13, .int 0, .ref q14, .ref q15, .ref q16, .ref q17, .int 0, .ref q18])), (q1, .inl (cA 0, 68, .inl ms_z))]) := by
  refine ms_Mi_of (cc := cX11_isRoad) (maxL := 2) (ret := (some .boolean)) (by decide) rfl (Nat.le_of_ble_eq_true rfl) ?_
  intro p e s m args below meth c A ls hB hE hA hP hD hS hl
  obtain ⟨hx, hb, hr, hml, hown, hts, hlk, hnm⟩ := hB
  have hown : s.vm.findClass RX11 = some m.cls := hown
  have hnX11 : ∀ w ∈ u_ws RX11 TX11 32, w ∈ wsX11_isRoad := fun _ h => List.mem_cons_of_mem _ (List.mem_append_right _ (h))
  have hl : lv_has ls 2 [(0, .ref q0), (1, .int a0)] := hl
  refine lv_iload_n hx hb dX11_isRoad_0 rfl (lv_at hl 1 rfl) ?_
  refine lv_i2l (v := a0.toInt64) hx hb dX11_isRoad_1 rfl ?_
  refine lv_lconst (v := 0) hx hb dX11_isRoad_2 (by decide) ?_
  refine lv_aload_n hx hb dX11_isRoad_3 rfl (lv_at hl 0 rfl) ?_
  refine va_get (D := D) (ci := 11) (v := .ref q1) (C := RX11) (T := TX11) (N := 32) hx hb hts hnX11 hown hE.1 hP 0 rfl rfl 0 (by decide) (hts (.fieldLink RX11 7 "MovedStonesModel" "march" "[I") (List.mem_cons_of_mem _ (List.mem_append_left _ (List.mem_of_getElem? (i := 0) rfl)))) (fun _ h9 => h9) rfl dX11_isRoad_4 ?_
  refine lv_iconst (v := 3) hx hb dX11_isRoad_7 (by decide) ?_
  refine ms_iald (x := 0) hx hb hE hP 1 rfl 3 rfl (by omega) (by decide) (rfl) dX11_isRoad_8 ?_
  refine lv_iconst (v := 1) hx hb dX11_isRoad_9 (by decide) ?_
  refine lv_isub hx hb dX11_isRoad_10 ?_
  refine ms_eqi (y := (-1)) (by decide) ?_
  refine lv_i2l (v := (-1)) hx hb dX11_isRoad_11 (by decide) ?_
  refine ms_cSi (wc := []) (wr := [(q0, .inr (11, [.ref q1, .ref q2, .ref q3, .ref q4, .int 0, .ref q5, .ref q6, .long 0, .ref q7, .int 0, .int (-1), .ref q8, .ref q9, .int 0, .ref q10, .int 0, .int 0, .int 0, .int 0, .int 0, .int 0, .int 0, .ref q11, .ref q12, .ref q13, .int 0, .ref q14, .ref q15, .ref q16, .ref q17, .int 0, .ref q18])), (q1, .inl (cA 0, 68, .inl ms_z))]) ⟨hx, hb, hml, hown, hts⟩ hE (c_in l D cA a0.toInt64 0 (-1)) (va_cwS 3 hts gX11_isRoad_X11_in rfl rfl rfl (by decide +kernel) ⟨Nat.le_of_ble_eq_true rfl, Nat.le_of_ble_eq_true rfl⟩) hP hD hS hA [] [0, 1] rfl rfl rfl rfl (by decide) rfl hl.1 rfl (Nat.le_of_ble_eq_true rfl) dX11_isRoad_12 ⟨Nat.le_of_ble_eq_true rfl, Nat.le_of_ble_eq_true rfl⟩ (fun r1 u2 H locs hp hP hD hS => ?_)
  have hp : r1 = 0 := by rw [hp]; have z3 : (0 : Int64).toInt = 0 := (by decide); have z4 : ((-1) : Int64).toInt = -1 := (by decide); have z5 : (a0.toInt64).toInt = a0.toInt := Int32.toInt_toInt64 _; exact if_neg (by omega)
  subst hp
  have hP : va_P D vwCl [(q0, .inr (11, [.ref q1, .ref q2, .ref q3, .ref q4, .int 0, .ref q5, .ref q6, .long 0, .ref q7, .int 0, .int (-1), .ref q8, .ref q9, .int 0, .ref q10, .int 0, .int 0, .int 0, .int 0, .int 0, .int 0, .int 0, .ref q11, .ref q12, .ref q13, .int 0, .ref q14, .ref q15, .ref q16, .ref q17, .int 0, .ref q18])), (q1, .inl (cA 0, 68, .inl ms_z))] H := hP
  have hD : va_D A [(q0, .inr (11, [.ref q1, .ref q2, .ref q3, .ref q4, .int 0, .ref q5, .ref q6, .long 0, .ref q7, .int 0, .int (-1), .ref q8, .ref q9, .int 0, .ref q10, .int 0, .int 0, .int 0, .int 0, .int 0, .int 0, .int 0, .ref q11, .ref q12, .ref q13, .int 0, .ref q14, .ref q15, .ref q16, .ref q17, .int 0, .ref q18])), (q1, .inl (cA 0, 68, .inl ms_z))] := hD
  exact ms_zret hx hb hr rfl hlk () rfl hP hD hS (Nat.le_of_ble_eq_true rfl) (Nat.le_of_ble_eq_true rfl) dX11_isRoad_15
set_option maxHeartbeats 4000000 in
set_option maxRecDepth 100000 in
theorem cX11_mend_1 (l : Launch) (D : va_G) (cA : Nat → ClassId) (q0 q1 q2 q3 q4 q5 q6 q7 q8 q9 q10 q11 q12 q13 q14 q15 q16 q17 q18 : Nat) (a0 : Int32) (g0 : a0.toInt ≤ -2) : ms_Mi l yX11_mend wsX11_mend ({ frames := 2, cells := 0, slots := 0, locals := 46 } : Room) D cA [.ref q0, .int a0] [(q0, .inr (11, [.ref q1, .ref q2, .ref q3, .ref q4, .int 0, .ref q5, .ref q6, .long 0, .ref q7, .int 0, .int (-1), .ref q8, .ref q9, .int 0, .ref q10, .int 0, .int 0, .int 0, .int 0, .int 0, .int 0, .int 0, .ref q11, .ref q12, .ref q13, .int 0, .ref q14, .ref q15, .ref q16, .ref q17, .int 0, .ref q18])), (q1, .inl (cA 0, 68, .inl ms_z))] (fun (r : Int32) (_ : Unit) => r = (-1000000001)) (fun (_ : Unit) => [(q0, .inr (11, [.ref q1, .ref q2, .ref q3, .ref q4, .int 0, .ref q5, .ref q6, .long 0, .ref q7, .int 0, .int (-1), .ref q8, .ref q9, .int 0, .ref q10, .int 0, .int 0, .int 0, .int 0, .int 0, .int 0, .int 0, .ref q11, .ref q12, .ref q13, .int 0, .ref q14, .ref q15, .ref q16, .ref q17, .int 0, .ref q18])), (q1, .inl (cA 0, 68, .inl ms_z))]) := by
  refine ms_Mi_of (cc := cX11_mend) (maxL := 3) (ret := (some .int)) (by decide) rfl (Nat.le_of_ble_eq_true rfl) ?_
  intro p e s m args below meth c A ls hB hE hA hP hD hS hl
  obtain ⟨hx, hb, hr, hml, hown, hts, hlk, hnm⟩ := hB
  have hown : s.vm.findClass RX11 = some m.cls := hown
  have hl : lv_has ls 3 [(0, .ref q0), (1, .int a0)] := hl
  refine lv_iload_n hx hb dX11_mend_0 rfl (lv_at hl 1 rfl) ?_
  refine lv_iconst (v := (-1)) hx hb dX11_mend_1 (by decide) ?_
  refine lv_icmp_eq (tgt := 16) hx hb dX11_mend_2 (by decide) (fun c => by exfalso; have hc1 := congrArg Int32.toInt c; have z2 : ((-1) : Int32).toInt = -1 := (by decide); omega) (fun _ => ?_)
  refine lv_aload_n hx hb dX11_mend_5 rfl (lv_at hl 0 rfl) ?_
  refine lv_iload_n hx hb dX11_mend_6 rfl (lv_at hl 1 rfl) ?_
  refine ms_cVi (qc := (RX11, TX11, 32)) (wc := [(q0, .inr (11, [.ref q1, .ref q2, .ref q3, .ref q4, .int 0, .ref q5, .ref q6, .long 0, .ref q7, .int 0, .int (-1), .ref q8, .ref q9, .int 0, .ref q10, .int 0, .int 0, .int 0, .int 0, .int 0, .int 0, .int 0, .ref q11, .ref q12, .ref q13, .int 0, .ref q14, .ref q15, .ref q16, .ref q17, .int 0, .ref q18])), (q1, .inl (cA 0, 68, .inl ms_z))]) (wr := []) ⟨hx, hb, hml, hown, hts⟩ hE (cX11_isRoad_2 l D cA q0 q1 q2 q3 q4 q5 q6 q7 q8 q9 q10 q11 q12 q13 q14 q15 q16 q17 q18 a0 (by omega)) (cwV 1 hts gX11_mend_X11_isRoad rfl rfl rfl (by decide +kernel) ⟨Nat.le_of_ble_eq_true rfl, Nat.le_of_ble_eq_true rfl⟩) hP hD hS hA [0, 1] [] rfl rfl rfl rfl (by decide) 0 11 rfl rfl rfl hl.1 rfl (Nat.le_of_ble_eq_true rfl) dX11_mend_7 ⟨Nat.le_of_ble_eq_true rfl, Nat.le_of_ble_eq_true rfl⟩ (fun r4 u3 H locs hp hP hD hS => ?_)
  subst hp
  have hP : va_P D vwCl [(q0, .inr (11, [.ref q1, .ref q2, .ref q3, .ref q4, .int 0, .ref q5, .ref q6, .long 0, .ref q7, .int 0, .int (-1), .ref q8, .ref q9, .int 0, .ref q10, .int 0, .int 0, .int 0, .int 0, .int 0, .int 0, .int 0, .ref q11, .ref q12, .ref q13, .int 0, .ref q14, .ref q15, .ref q16, .ref q17, .int 0, .ref q18])), (q1, .inl (cA 0, 68, .inl ms_z))] H := hP
  have hD : va_D A [(q0, .inr (11, [.ref q1, .ref q2, .ref q3, .ref q4, .int 0, .ref q5, .ref q6, .long 0, .ref q7, .int 0, .int (-1), .ref q8, .ref q9, .int 0, .ref q10, .int 0, .int 0, .int 0, .int 0, .int 0, .int 0, .int 0, .ref q11, .ref q12, .ref q13, .int 0, .ref q14, .ref q15, .ref q16, .ref q17, .int 0, .ref q18])), (q1, .inl (cA 0, 68, .inl ms_z))] := hD
  refine lv_if_ne (tgt := 16) hx hb dX11_mend_10 (by decide) (fun c => absurd (by decide) c) (fun _ => ?_)
  refine lv_ldc (v := (-1000000001)) hx hb hown (hts (.constant RX11 173 (-1000000001)) (List.mem_cons_of_mem _ (List.mem_append_left _ (List.mem_append_left _ (List.mem_of_getElem? (i := 0) rfl))))) dX11_mend_13 ?_
  exact ms_iret hx hb hr hlk () rfl hP hD hS (Nat.le_of_ble_eq_true rfl) (Nat.le_of_ble_eq_true rfl) dX11_mend_15
