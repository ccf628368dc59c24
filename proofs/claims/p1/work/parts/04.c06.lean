set_option maxHeartbeats 4000000 in
set_option maxRecDepth 100000 in
theorem cX11_told_17 (l : Launch) (D : va_G) (cA : Nat → ClassId) (q0 q1 q2 q3 q4 q5 q6 q7 q8 q9 q10 q11 q12 q13 q14 q15 q16 q17 q18 : Nat) : ms_Mi l yX11_told wsX11_told ({ frames := 0, cells := 0, slots := 0, locals := 0 } : Room) D cA [.ref q0, .int 15] [(q0, .inr (11, [.ref q1, .ref q2, .ref q3, .ref q4, .int 0, .ref q5, .ref q6, .long 0, .ref q7, .int 0, .int (-1), .ref q8, .ref q9, .int 0, .ref q10, .int 0, .int 0, .int 0, .int 0, .int 0, .int 0, .int 0, .ref q11, .ref q12, .ref q13, .int 0, .ref q14, .ref q15, .ref q16, .ref q17, .int 0, .ref q18]))] (fun (r : Int32) (_ : Unit) => r = 0) (fun (_ : Unit) => [(q0, .inr (11, [.ref q1, .ref q2, .ref q3, .ref q4, .int 0, .ref q5, .ref q6, .long 0, .ref q7, .int 0, .int (-1), .ref q8, .ref q9, .int 0, .ref q10, .int 0, .int 0, .int 0, .int 0, .int 0, .int 0, .int 0, .ref q11, .ref q12, .ref q13, .int 0, .ref q14, .ref q15, .ref q16, .ref q17, .int 0, .ref q18]))]) := by
  refine ms_Mi_of (cc := cX11_told) (maxL := 2) (ret := (some .int)) (by decide) rfl (Nat.le_of_ble_eq_true rfl) ?_
  intro p e s m args below meth c A ls hB hE hA hP hD hS hl
  obtain ⟨hx, hb, hr, hml, hown, hts, hlk, hnm⟩ := hB
  have hown : s.vm.findClass RX11 = some m.cls := hown
  have hnX11 : ∀ w ∈ u_ws RX11 TX11 32, w ∈ wsX11_told := fun _ h => List.mem_cons_of_mem _ (List.mem_append_right _ (h))
  have hl : lv_has ls 2 [(0, .ref q0), (1, .int 15)] := hl
  refine lv_iload_n hx hb dX11_told_0 rfl (lv_at hl 1 rfl) ?_
  refine lv_tableIn (off := 155) (tgt := 156) hx hb dX11_told_1 (by decide) (by decide) (by decide) (by decide) ?_
  refine lv_aload_n hx hb dX11_told_156 rfl (lv_at hl 0 rfl) ?_
  refine va_get (D := D) (ci := 11) (v := .int 0) (C := RX11) (T := TX11) (N := 32) hx hb hts hnX11 hown hE.1 hP 0 rfl rfl 15 (by decide) (hts (.fieldLink RX11 78 "MovedStonesModel" "bookMany" "I") (List.mem_cons_of_mem _ (List.mem_append_left _ (List.mem_append_left _ (List.mem_of_getElem? (i := 4) rfl))))) (fun _ h9 => h9) rfl dX11_told_157 ?_
  exact ms_iret hx hb hr hlk () rfl hP hD hS (Nat.le_of_ble_eq_true rfl) (Nat.le_of_ble_eq_true rfl) dX11_told_160
set_option maxHeartbeats 4000000 in
set_option maxRecDepth 100000 in
theorem cX5_wantedSet_1 (l : Launch) (D : va_G) (cA : Nat → ClassId) (q0 q1 q2 q3 q4 q5 q6 : Nat) : ms_Mi l yX5_wantedSet wsX5_wantedSet ({ frames := 0, cells := 0, slots := 0, locals := 0 } : Room) D cA [.ref q0] [(q0, .inr (5, [.ref q1, .ref q2, .ref q3, .ref q4, .int 0, .ref q5, .ref q6, .int 0])), (q1, .inl (cA 0, 9, .inl ms_z))] (fun (r : Int32) (_ : Unit) => r = 0) (fun (_ : Unit) => [(q0, .inr (5, [.ref q1, .ref q2, .ref q3, .ref q4, .int 0, .ref q5, .ref q6, .int 0])), (q1, .inl (cA 0, 9, .inl ms_z))]) := by
  refine ms_Mi_of (cc := cX5_wantedSet) (maxL := 3) (ret := (some .int)) (by decide) rfl (Nat.le_of_ble_eq_true rfl) ?_
  intro p e s m args below meth c A ls hB hE hA hP hD hS hl
  obtain ⟨hx, hb, hr, hml, hown, hts, hlk, hnm⟩ := hB
  have hown : s.vm.findClass RX5 = some m.cls := hown
  have hnX5 : ∀ w ∈ u_ws RX5 TX5 8, w ∈ wsX5_wantedSet := fun _ h => List.mem_cons_of_mem _ (List.mem_append_right _ (h))
  have hl : lv_has ls 3 [(0, .ref q0)] := hl
  refine lv_iconst (v := 0) hx hb dX5_wantedSet_0 (by decide) ?_
  refine lv_istore_n (lv' := [(1, .int 0), (0, .ref q0)]) hx hb dX5_wantedSet_1 rfl hl (by decide) rfl (fun ls hl => ?_)
  refine lv_iconst (v := 0) hx hb dX5_wantedSet_2 (by decide) ?_
  refine lv_istore_n (lv' := [(2, .int 0), (1, .int 0), (0, .ref q0)]) hx hb dX5_wantedSet_3 rfl hl (by decide) rfl (fun ls hl => ?_)
  have lp3 : ∀ (n2 i1 : Nat) (H : Heap) (locs : List Loc) (ls : Array Slot), 0 ≤ i1 → i1 ≤ 9 → 10 ≤ i1 + n2 → va_P D vwCl [(q0, .inr (5, [.ref q1, .ref q2, .ref q3, .ref q4, .int 0, .ref q5, .ref q6, .int 0])), (q1, .inl (cA 0, 9, .inl ms_z))] H → va_D A [(q0, .inr (5, [.ref q1, .ref q2, .ref q3, .ref q4, .int 0, .ref q5, .ref q6, .int 0])), (q1, .inl (cA 0, 9, .inl ms_z))] → va_S A s.heap H locs → lv_has ls 3 [(2, .int (nI i1)), (1, .int 0), (0, .ref q0)] → W p l e ({ frames := 0, cells := 0, slots := 0, locals := 0 } : Room) s m args below meth c H locs 0 0 (MQ below (ms_Qi D A (fun (r : Int32) (_ : Unit) => r = 0) (fun (_ : Unit) => [(q0, .inr (5, [.ref q1, .ref q2, .ref q3, .ref q4, .int 0, .ref q5, .ref q6, .int 0])), (q1, .inl (cA 0, 9, .inl ms_z))])) args s 0 0 A) (F0 m 4 ls []) := by
    intro n2
    induction n2 with
    | zero => intro i1  H locs ls h1 h2 h3; exact absurd h3 (by omega)
    | succ n2 ih4 =>
      intro i1  H locs ls h1 h2 h3 hP hD hS hl
      refine lv_iload_n hx hb dX5_wantedSet_4 rfl (lv_at hl 0 rfl) ?_
      refine lv_bipush (v := 9) hx hb dX5_wantedSet_5 (by decide) ?_
      refine lv_icmp_ge (tgt := 31) hx hb dX5_wantedSet_7 (by decide) (fun c5 => ?_) (fun c5 => ?_)
      · have hc6 := Int32.le_iff_toInt_le.mp c5
        have z7 : (nI i1).toInt = ((i1 : Nat) : Int) := nI_toInt (by omega)
        have z8 : (9 : Int32).toInt = 9 := (by decide)
        refine lv_iload_n hx hb dX5_wantedSet_31 rfl (lv_at hl 1 rfl) ?_
        exact ms_iret hx hb hr hlk () rfl hP hD hS (Nat.le_of_ble_eq_true rfl) (Nat.le_of_ble_eq_true rfl) dX5_wantedSet_32
      · have hc9 := mt Int32.le_iff_toInt_le.mpr c5
        have z10 : (nI i1).toInt = ((i1 : Nat) : Int) := nI_toInt (by omega)
        have z11 : (9 : Int32).toInt = 9 := (by decide)
        refine lv_aload_n hx hb dX5_wantedSet_10 rfl (lv_at hl 2 rfl) ?_
        refine va_get (D := D) (ci := 5) (v := .ref q1) (C := RX5) (T := TX5) (N := 8) hx hb hts hnX5 hown hE.1 hP 0 rfl rfl 0 (by decide) (hts (.fieldLink RX5 9 "MovedStones$Papers" "wanted" "[I") (List.mem_cons_of_mem _ (List.mem_append_left _ (List.mem_of_getElem? (i := 0) rfl)))) (fun _ h9 => h9) rfl dX5_wantedSet_11 ?_
        refine lv_iload_n hx hb dX5_wantedSet_14 rfl (lv_at hl 0 rfl) ?_
        refine ms_iald (x := 0) hx hb hE hP 1 rfl i1 rfl (by omega) (by decide) (rfl) dX5_wantedSet_15 ?_
        refine lv_if_eq (tgt := 25) hx hb dX5_wantedSet_16 (by decide) (fun _ => ?_) (fun c => absurd (by decide) c)
        refine lv_iinc (v := nI (i1 + 1)) (lv' := [(2, .int (nI (i1 + 1))), (1, .int 0), (0, .ref q0)]) hx hb dX5_wantedSet_25 hl (k := 0) rfl ((nI_succ i1).symm) (by decide) rfl (fun ls hl => ?_)
        refine lv_goto (tgt := 4) hx hb dX5_wantedSet_28 (by decide) ?_
        exact ih4 (i1 + 1)  _ _ _ (by omega) (by omega) (by omega) hP hD hS (lv_sub hl [0, 1, 2] rfl)
  exact lp3 10 0  _ _ _ (by omega) (by omega) (by omega) hP hD hS (lv_sub hl [0, 1, 2] rfl)
set_option maxHeartbeats 4000000 in
set_option maxRecDepth 100000 in
theorem cX10_told_18 (l : Launch) (D : va_G) (cA : Nat → ClassId) (q0 q1 q2 q3 q4 q5 q6 q7 q8 q9 q10 q11 q12 q13 q14 q15 q16 q17 : Nat) : ms_Mi l yX10_told wsX10_told ({ frames := 1, cells := 0, slots := 0, locals := 22 } : Room) D cA [.ref q0, .int 16] [(q0, .inr (10, [.ref q3, .ref q4, .ref q5, .ref q6, .ref q7, .int 0, .ref q1, .ref q8, .ref q9, .ref q10, .ref q11, .ref q12])), (q1, .inr (5, [.ref q2, .ref q13, .ref q14, .ref q15, .int 0, .ref q16, .ref q17, .int 0])), (q2, .inl (cA 0, 9, .inl ms_z))] (fun (r : Int32) (_ : Unit) => r = 0) (fun (_ : Unit) => [(q0, .inr (10, [.ref q3, .ref q4, .ref q5, .ref q6, .ref q7, .int 0, .ref q1, .ref q8, .ref q9, .ref q10, .ref q11, .ref q12])), (q1, .inr (5, [.ref q2, .ref q13, .ref q14, .ref q15, .int 0, .ref q16, .ref q17, .int 0])), (q2, .inl (cA 0, 9, .inl ms_z))]) := by
  refine ms_Mi_of (cc := cX10_told) (maxL := 2) (ret := (some .int)) (by decide) rfl (Nat.le_of_ble_eq_true rfl) ?_
  intro p e s m args below meth c A ls hB hE hA hP hD hS hl
  obtain ⟨hx, hb, hr, hml, hown, hts, hlk, hnm⟩ := hB
  have hown : s.vm.findClass RX10 = some m.cls := hown
  have hnX10 : ∀ w ∈ u_ws RX10 TX10 12, w ∈ wsX10_told := fun _ h => List.mem_cons_of_mem _ (List.mem_append_left _ (List.mem_append_left _ (List.mem_append_left _ (List.mem_append_left _ (List.mem_append_left _ (List.mem_append_right _ (h)))))))
  have hl : lv_has ls 2 [(0, .ref q0), (1, .int 16)] := hl
  refine lv_iload_n hx hb dX10_told_0 rfl (lv_at hl 1 rfl) ?_
  refine lv_tableIn (off := 233) (tgt := 234) hx hb dX10_told_1 (by decide) (by decide) (by decide) (by decide) ?_
  refine lv_aload_n hx hb dX10_told_234 rfl (lv_at hl 0 rfl) ?_
  refine va_get (D := D) (ci := 10) (v := .ref q1) (C := RX10) (T := TX10) (N := 12) hx hb hts hnX10 hown hE.1 hP 0 rfl rfl 6 (by decide) (hts (.fieldLink RX10 47 "MovedStones" "papers" "LMovedStones$Papers;") (List.mem_cons_of_mem _ (List.mem_append_left _ (List.mem_append_left _ (List.mem_append_left _ (List.mem_append_left _ (List.mem_append_left _ (List.mem_append_left _ (List.mem_append_left _ (List.mem_of_getElem? (i := 15) rfl)))))))))) (fun _ h9 => h9) rfl dX10_told_235 ?_
  refine ms_cVi (qc := (RX5, TX5, 8)) (wc := [(q1, .inr (5, [.ref q2, .ref q13, .ref q14, .ref q15, .int 0, .ref q16, .ref q17, .int 0])), (q2, .inl (cA 0, 9, .inl ms_z))]) (wr := [(q0, .inr (10, [.ref q3, .ref q4, .ref q5, .ref q6, .ref q7, .int 0, .ref q1, .ref q8, .ref q9, .ref q10, .ref q11, .ref q12]))]) ⟨hx, hb, hml, hown, hts⟩ hE (cX5_wantedSet_1 l D cA q1 q2 q13 q14 q15 q16 q17) (cwV 0 hts gX10_told_X5_wantedSet rfl rfl rfl (by decide +kernel) ⟨Nat.le_of_ble_eq_true rfl, Nat.le_of_ble_eq_true rfl⟩) hP hD hS hA [1, 2] [0] rfl rfl rfl rfl (by decide) 0 5 rfl rfl rfl hl.1 rfl (Nat.le_of_ble_eq_true rfl) dX10_told_238 ⟨Nat.le_of_ble_eq_true rfl, Nat.le_of_ble_eq_true rfl⟩ (fun r2 u1 H locs hp hP hD hS => ?_)
  subst hp
  have hP : va_P D vwCl [(q0, .inr (10, [.ref q3, .ref q4, .ref q5, .ref q6, .ref q7, .int 0, .ref q1, .ref q8, .ref q9, .ref q10, .ref q11, .ref q12])), (q1, .inr (5, [.ref q2, .ref q13, .ref q14, .ref q15, .int 0, .ref q16, .ref q17, .int 0])), (q2, .inl (cA 0, 9, .inl ms_z))] H := hP
  have hD : va_D A [(q0, .inr (10, [.ref q3, .ref q4, .ref q5, .ref q6, .ref q7, .int 0, .ref q1, .ref q8, .ref q9, .ref q10, .ref q11, .ref q12])), (q1, .inr (5, [.ref q2, .ref q13, .ref q14, .ref q15, .int 0, .ref q16, .ref q17, .int 0])), (q2, .inl (cA 0, 9, .inl ms_z))] := hD
  exact ms_iret hx hb hr hlk () rfl hP hD hS (Nat.le_of_ble_eq_true rfl) (Nat.le_of_ble_eq_true rfl) dX10_told_241
set_option maxHeartbeats 4000000 in
set_option maxRecDepth 100000 in
theorem cX11_wantedSet_1 (l : Launch) (D : va_G) (cA : Nat → ClassId) (q0 q1 q2 q3 q4 q5 q6 q7 q8 q9 q10 q11 q12 q13 q14 q15 q16 q17 q18 : Nat) : ms_Mi l yX11_wantedSet wsX11_wantedSet ({ frames := 0, cells := 0, slots := 0, locals := 0 } : Room) D cA [.ref q0] [(q0, .inr (11, [.ref q2, .ref q3, .ref q4, .ref q5, .int 0, .ref q6, .ref q7, .long 0, .ref q8, .int 0, .int (-1), .ref q1, .ref q9, .int 0, .ref q10, .int 0, .int 0, .int 0, .int 0, .int 0, .int 0, .int 0, .ref q11, .ref q12, .ref q13, .int 0, .ref q14, .ref q15, .ref q16, .ref q17, .int 0, .ref q18])), (q1, .inl (cA 0, 9, .inl ms_z))] (fun (r : Int32) (_ : Unit) => r = 0) (fun (_ : Unit) => [(q0, .inr (11, [.ref q2, .ref q3, .ref q4, .ref q5, .int 0, .ref q6, .ref q7, .long 0, .ref q8, .int 0, .int (-1), .ref q1, .ref q9, .int 0, .ref q10, .int 0, .int 0, .int 0, .int 0, .int 0, .int 0, .int 0, .ref q11, .ref q12, .ref q13, .int 0, .ref q14, .ref q15, .ref q16, .ref q17, .int 0, .ref q18])), (q1, .inl (cA 0, 9, .inl ms_z))]) := by
  refine ms_Mi_of (cc := cX11_wantedSet) (maxL := 3) (ret := (some .int)) (by decide) rfl (Nat.le_of_ble_eq_true rfl) ?_
  intro p e s m args below meth c A ls hB hE hA hP hD hS hl
  obtain ⟨hx, hb, hr, hml, hown, hts, hlk, hnm⟩ := hB
  have hown : s.vm.findClass RX11 = some m.cls := hown
  have hnX11 : ∀ w ∈ u_ws RX11 TX11 32, w ∈ wsX11_wantedSet := fun _ h => List.mem_cons_of_mem _ (List.mem_append_right _ (h))
  have hl : lv_has ls 3 [(0, .ref q0)] := hl
  refine lv_iconst (v := 0) hx hb dX11_wantedSet_0 (by decide) ?_
  refine lv_istore_n (lv' := [(1, .int 0), (0, .ref q0)]) hx hb dX11_wantedSet_1 rfl hl (by decide) rfl (fun ls hl => ?_)
  refine lv_iconst (v := 0) hx hb dX11_wantedSet_2 (by decide) ?_
  refine lv_istore_n (lv' := [(2, .int 0), (1, .int 0), (0, .ref q0)]) hx hb dX11_wantedSet_3 rfl hl (by decide) rfl (fun ls hl => ?_)
  have lp3 : ∀ (n2 i1 : Nat) (H : Heap) (locs : List Loc) (ls : Array Slot), 0 ≤ i1 → i1 ≤ 9 → 10 ≤ i1 + n2 → va_P D vwCl [(q0, .inr (11, [.ref q2, .ref q3, .ref q4, .ref q5, .int 0, .ref q6, .ref q7, .long 0, .ref q8, .int 0, .int (-1), .ref q1, .ref q9, .int 0, .ref q10, .int 0, .int 0, .int 0, .int 0, .int 0, .int 0, .int 0, .ref q11, .ref q12, .ref q13, .int 0, .ref q14, .ref q15, .ref q16, .ref q17, .int 0, .ref q18])), (q1, .inl (cA 0, 9, .inl ms_z))] H → va_D A [(q0, .inr (11, [.ref q2, .ref q3, .ref q4, .ref q5, .int 0, .ref q6, .ref q7, .long 0, .ref q8, .int 0, .int (-1), .ref q1, .ref q9, .int 0, .ref q10, .int 0, .int 0, .int 0, .int 0, .int 0, .int 0, .int 0, .ref q11, .ref q12, .ref q13, .int 0, .ref q14, .ref q15, .ref q16, .ref q17, .int 0, .ref q18])), (q1, .inl (cA 0, 9, .inl ms_z))] → va_S A s.heap H locs → lv_has ls 3 [(2, .int (nI i1)), (1, .int 0), (0, .ref q0)] → W p l e ({ frames := 0, cells := 0, slots := 0, locals := 0 } : Room) s m args below meth c H locs 0 0 (MQ below (ms_Qi D A (fun (r : Int32) (_ : Unit) => r = 0) (fun (_ : Unit) => [(q0, .inr (11, [.ref q2, .ref q3, .ref q4, .ref q5, .int 0, .ref q6, .ref q7, .long 0, .ref q8, .int 0, .int (-1), .ref q1, .ref q9, .int 0, .ref q10, .int 0, .int 0, .int 0, .int 0, .int 0, .int 0, .int 0, .ref q11, .ref q12, .ref q13, .int 0, .ref q14, .ref q15, .ref q16, .ref q17, .int 0, .ref q18])), (q1, .inl (cA 0, 9, .inl ms_z))])) args s 0 0 A) (F0 m 4 ls []) := by
    intro n2
    induction n2 with
    | zero => intro i1  H locs ls h1 h2 h3; exact absurd h3 (by omega)
    | succ n2 ih4 =>
      intro i1  H locs ls h1 h2 h3 hP hD hS hl
      refine lv_iload_n hx hb dX11_wantedSet_4 rfl (lv_at hl 0 rfl) ?_
      refine lv_bipush (v := 9) hx hb dX11_wantedSet_5 (by decide) ?_
      refine lv_icmp_ge (tgt := 35) hx hb dX11_wantedSet_7 (by decide) (fun c5 => ?_) (fun c5 => ?_)
      · have hc6 := Int32.le_iff_toInt_le.mp c5
        have z7 : (nI i1).toInt = ((i1 : Nat) : Int) := nI_toInt (by omega)
        have z8 : (9 : Int32).toInt = 9 := (by decide)
        refine lv_iload_n hx hb dX11_wantedSet_35 rfl (lv_at hl 1 rfl) ?_
        exact ms_iret hx hb hr hlk () rfl hP hD hS (Nat.le_of_ble_eq_true rfl) (Nat.le_of_ble_eq_true rfl) dX11_wantedSet_36
      · have hc9 := mt Int32.le_iff_toInt_le.mpr c5
        have z10 : (nI i1).toInt = ((i1 : Nat) : Int) := nI_toInt (by omega)
        have z11 : (9 : Int32).toInt = 9 := (by decide)
        refine lv_iload_n hx hb dX11_wantedSet_10 rfl (lv_at hl 1 rfl) ?_
        refine lv_aload_n hx hb dX11_wantedSet_11 rfl (lv_at hl 2 rfl) ?_
        refine va_get (D := D) (ci := 11) (v := .ref q1) (C := RX11) (T := TX11) (N := 32) hx hb hts hnX11 hown hE.1 hP 0 rfl rfl 11 (by decide) (hts (.fieldLink RX11 36 "MovedStonesModel" "wanted" "[I") (List.mem_cons_of_mem _ (List.mem_append_left _ (List.mem_of_getElem? (i := 0) rfl)))) (fun _ h9 => h9) rfl dX11_wantedSet_12 ?_
        refine lv_iload_n hx hb dX11_wantedSet_15 rfl (lv_at hl 0 rfl) ?_
        refine ms_iald (x := 0) hx hb hE hP 1 rfl i1 rfl (by omega) (by decide) (rfl) dX11_wantedSet_16 ?_
        refine lv_if_le (tgt := 26) hx hb dX11_wantedSet_17 (by decide) (fun _ => ?_) (fun c => absurd (by decide) c)
        refine lv_iconst (v := 0) hx hb dX11_wantedSet_26 (by decide) ?_
        refine lv_ior hx hb dX11_wantedSet_27 ?_
        refine ms_eqi (y := 0) (by decide) ?_
        refine lv_istore_n (lv' := [(1, .int 0), (2, .int (nI i1)), (0, .ref q0)]) hx hb dX11_wantedSet_28 rfl hl (by decide) rfl (fun ls hl => ?_)
        refine lv_iinc (v := nI (i1 + 1)) (lv' := [(2, .int (nI (i1 + 1))), (1, .int 0), (0, .ref q0)]) hx hb dX11_wantedSet_29 hl (k := 1) rfl ((nI_succ i1).symm) (by decide) rfl (fun ls hl => ?_)
        refine lv_goto (tgt := 4) hx hb dX11_wantedSet_32 (by decide) ?_
        exact ih4 (i1 + 1)  _ _ _ (by omega) (by omega) (by omega) hP hD hS (lv_sub hl [0, 1, 2] rfl)
  exact lp3 10 0  _ _ _ (by omega) (by omega) (by omega) hP hD hS (lv_sub hl [0, 1, 2] rfl)
set_option maxHeartbeats 4000000 in
set_option maxRecDepth 100000 in
theorem cX11_told_18 (l : Launch) (D : va_G) (cA : Nat → ClassId) (q0 q1 q2 q3 q4 q5 q6 q7 q8 q9 q10 q11 q12 q13 q14 q15 q16 q17 q18 : Nat) : ms_Mi l yX11_told wsX11_told ({ frames := 1, cells := 0, slots := 0, locals := 22 } : Room) D cA [.ref q0, .int 16] [(q0, .inr (11, [.ref q2, .ref q3, .ref q4, .ref q5, .int 0, .ref q6, .ref q7, .long 0, .ref q8, .int 0, .int (-1), .ref q1, .ref q9, .int 0, .ref q10, .int 0, .int 0, .int 0, .int 0, .int 0, .int 0, .int 0, .ref q11, .ref q12, .ref q13, .int 0, .ref q14, .ref q15, .ref q16, .ref q17, .int 0, .ref q18])), (q1, .inl (cA 0, 9, .inl ms_z))] (fun (r : Int32) (_ : Unit) => r = 0) (fun (_ : Unit) => [(q0, .inr (11, [.ref q2, .ref q3, .ref q4, .ref q5, .int 0, .ref q6, .ref q7, .long 0, .ref q8, .int 0, .int (-1), .ref q1, .ref q9, .int 0, .ref q10, .int 0, .int 0, .int 0, .int 0, .int 0, .int 0, .int 0, .ref q11, .ref q12, .ref q13, .int 0, .ref q14, .ref q15, .ref q16, .ref q17, .int 0, .ref q18])), (q1, .inl (cA 0, 9, .inl ms_z))]) := by
  refine ms_Mi_of (cc := cX11_told) (maxL := 2) (ret := (some .int)) (by decide) rfl (Nat.le_of_ble_eq_true rfl) ?_
  intro p e s m args below meth c A ls hB hE hA hP hD hS hl
  obtain ⟨hx, hb, hr, hml, hown, hts, hlk, hnm⟩ := hB
  have hown : s.vm.findClass RX11 = some m.cls := hown
  have hl : lv_has ls 2 [(0, .ref q0), (1, .int 16)] := hl
  refine lv_iload_n hx hb dX11_told_0 rfl (lv_at hl 1 rfl) ?_
  refine lv_tableIn (off := 160) (tgt := 161) hx hb dX11_told_1 (by decide) (by decide) (by decide) (by decide) ?_
  refine lv_aload_n hx hb dX11_told_161 rfl (lv_at hl 0 rfl) ?_
  refine ms_cVi (qc := (RX11, TX11, 32)) (wc := [(q0, .inr (11, [.ref q2, .ref q3, .ref q4, .ref q5, .int 0, .ref q6, .ref q7, .long 0, .ref q8, .int 0, .int (-1), .ref q1, .ref q9, .int 0, .ref q10, .int 0, .int 0, .int 0, .int 0, .int 0, .int 0, .int 0, .ref q11, .ref q12, .ref q13, .int 0, .ref q14, .ref q15, .ref q16, .ref q17, .int 0, .ref q18])), (q1, .inl (cA 0, 9, .inl ms_z))]) (wr := []) ⟨hx, hb, hml, hown, hts⟩ hE (cX11_wantedSet_1 l D cA q0 q1 q2 q3 q4 q5 q6 q7 q8 q9 q10 q11 q12 q13 q14 q15 q16 q17 q18) (cwV 0 hts gX11_told_X11_wantedSet rfl rfl rfl (by decide +kernel) ⟨Nat.le_of_ble_eq_true rfl, Nat.le_of_ble_eq_true rfl⟩) hP hD hS hA [0, 1] [] rfl rfl rfl rfl (by decide) 0 11 rfl rfl rfl hl.1 rfl (Nat.le_of_ble_eq_true rfl) dX11_told_162 ⟨Nat.le_of_ble_eq_true rfl, Nat.le_of_ble_eq_true rfl⟩ (fun r2 u1 H locs hp hP hD hS => ?_)
  subst hp
  have hP : va_P D vwCl [(q0, .inr (11, [.ref q2, .ref q3, .ref q4, .ref q5, .int 0, .ref q6, .ref q7, .long 0, .ref q8, .int 0, .int (-1), .ref q1, .ref q9, .int 0, .ref q10, .int 0, .int 0, .int 0, .int 0, .int 0, .int 0, .int 0, .ref q11, .ref q12, .ref q13, .int 0, .ref q14, .ref q15, .ref q16, .ref q17, .int 0, .ref q18])), (q1, .inl (cA 0, 9, .inl ms_z))] H := hP
  have hD : va_D A [(q0, .inr (11, [.ref q2, .ref q3, .ref q4, .ref q5, .int 0, .ref q6, .ref q7, .long 0, .ref q8, .int 0, .int (-1), .ref q1, .ref q9, .int 0, .ref q10, .int 0, .int 0, .int 0, .int 0, .int 0, .int 0, .int 0, .ref q11, .ref q12, .ref q13, .int 0, .ref q14, .ref q15, .ref q16, .ref q17, .int 0, .ref q18])), (q1, .inl (cA 0, 9, .inl ms_z))] := hD
  exact ms_iret hx hb hr hlk () rfl hP hD hS (Nat.le_of_ble_eq_true rfl) (Nat.le_of_ble_eq_true rfl) dX11_told_165
set_option maxHeartbeats 4000000 in
set_option maxRecDepth 100000 in
theorem cX10_told_19 (l : Launch) (D : va_G) (cA : Nat → ClassId) (q0 q1 q2 q3 q4 q5 q6 q7 q8 q9 q10 q11 q12 : Nat) : ms_Mi l yX10_told wsX10_told ({ frames := 0, cells := 0, slots := 0, locals := 0 } : Room) D cA [.ref q0, .int 17] [(q0, .inr (10, [.ref q2, .ref q3, .ref q4, .ref q1, .ref q5, .int 0, .ref q6, .ref q7, .ref q8, .ref q9, .ref q10, .ref q11])), (q1, .inr (0, [.ref q12, .int 0, .int 0]))] (fun (r : Int32) (_ : Unit) => r = 0) (fun (_ : Unit) => [(q0, .inr (10, [.ref q2, .ref q3, .ref q4, .ref q1, .ref q5, .int 0, .ref q6, .ref q7, .ref q8, .ref q9, .ref q10, .ref q11])), (q1, .inr (0, [.ref q12, .int 0, .int 0]))]) := by
  refine ms_Mi_of (cc := cX10_told) (maxL := 2) (ret := (some .int)) (by decide) rfl (Nat.le_of_ble_eq_true rfl) ?_
  intro p e s m args below meth c A ls hB hE hA hP hD hS hl
  obtain ⟨hx, hb, hr, hml, hown, hts, hlk, hnm⟩ := hB
  have hown : s.vm.findClass RX10 = some m.cls := hown
  have hnX0 : ∀ w ∈ u_ws RX0 TX0 3, w ∈ wsX10_told := fun _ h => List.mem_cons_of_mem _ (List.mem_append_right _ (h))
  have hnX10 : ∀ w ∈ u_ws RX10 TX10 12, w ∈ wsX10_told := fun _ h => List.mem_cons_of_mem _ (List.mem_append_left _ (List.mem_append_left _ (List.mem_append_left _ (List.mem_append_left _ (List.mem_append_left _ (List.mem_append_right _ (h)))))))
  have hl : lv_has ls 2 [(0, .ref q0), (1, .int 17)] := hl
  refine lv_iload_n hx hb dX10_told_0 rfl (lv_at hl 1 rfl) ?_
  refine lv_tableIn (off := 241) (tgt := 242) hx hb dX10_told_1 (by decide) (by decide) (by decide) (by decide) ?_
  refine lv_aload_n hx hb dX10_told_242 rfl (lv_at hl 0 rfl) ?_
  refine va_get (D := D) (ci := 10) (v := .ref q1) (C := RX10) (T := TX10) (N := 12) hx hb hts hnX10 hown hE.1 hP 0 rfl rfl 3 (by decide) (hts (.fieldLink RX10 33 "MovedStones" "history" "LMovedStones$History;") (List.mem_cons_of_mem _ (List.mem_append_left _ (List.mem_append_left _ (List.mem_append_left _ (List.mem_append_left _ (List.mem_append_left _ (List.mem_append_left _ (List.mem_append_left _ (List.mem_of_getElem? (i := 18) rfl)))))))))) (fun _ h9 => h9) rfl dX10_told_243 ?_
  refine va_get (D := D) (ci := 0) (v := .int 0) (C := RX0) (T := TX0) (N := 3) hx hb hts hnX0 hown hE.1 hP 1 rfl rfl 2 (by decide) (hts (.fieldLink RX10 172 "MovedStones$History" "count" "I") (List.mem_cons_of_mem _ (List.mem_append_left _ (List.mem_append_left _ (List.mem_append_left _ (List.mem_append_left _ (List.mem_append_left _ (List.mem_append_left _ (List.mem_append_left _ (List.mem_of_getElem? (i := 19) rfl)))))))))) (fun _ h9 => h9) rfl dX10_told_246 ?_
  exact ms_iret hx hb hr hlk () rfl hP hD hS (Nat.le_of_ble_eq_true rfl) (Nat.le_of_ble_eq_true rfl) dX10_told_249
set_option maxHeartbeats 4000000 in
set_option maxRecDepth 100000 in
theorem cX11_told_19 (l : Launch) (D : va_G) (cA : Nat → ClassId) (q0 q1 q2 q3 q4 q5 q6 q7 q8 q9 q10 q11 q12 q13 q14 q15 q16 q17 q18 : Nat) : ms_Mi l yX11_told wsX11_told ({ frames := 0, cells := 0, slots := 0, locals := 0 } : Room) D cA [.ref q0, .int 17] [(q0, .inr (11, [.ref q1, .ref q2, .ref q3, .ref q4, .int 0, .ref q5, .ref q6, .long 0, .ref q7, .int 0, .int (-1), .ref q8, .ref q9, .int 0, .ref q10, .int 0, .int 0, .int 0, .int 0, .int 0, .int 0, .int 0, .ref q11, .ref q12, .ref q13, .int 0, .ref q14, .ref q15, .ref q16, .ref q17, .int 0, .ref q18]))] (fun (r : Int32) (_ : Unit) => r = 0) (fun (_ : Unit) => [(q0, .inr (11, [.ref q1, .ref q2, .ref q3, .ref q4, .int 0, .ref q5, .ref q6, .long 0, .ref q7, .int 0, .int (-1), .ref q8, .ref q9, .int 0, .ref q10, .int 0, .int 0, .int 0, .int 0, .int 0, .int 0, .int 0, .ref q11, .ref q12, .ref q13, .int 0, .ref q14, .ref q15, .ref q16, .ref q17, .int 0, .ref q18]))]) := by
  refine ms_Mi_of (cc := cX11_told) (maxL := 2) (ret := (some .int)) (by decide) rfl (Nat.le_of_ble_eq_true rfl) ?_
  intro p e s m args below meth c A ls hB hE hA hP hD hS hl
  obtain ⟨hx, hb, hr, hml, hown, hts, hlk, hnm⟩ := hB
  have hown : s.vm.findClass RX11 = some m.cls := hown
  have hnX11 : ∀ w ∈ u_ws RX11 TX11 32, w ∈ wsX11_told := fun _ h => List.mem_cons_of_mem _ (List.mem_append_right _ (h))
  have hl : lv_has ls 2 [(0, .ref q0), (1, .int 17)] := hl
  refine lv_iload_n hx hb dX11_told_0 rfl (lv_at hl 1 rfl) ?_
  refine lv_tableIn (off := 165) (tgt := 166) hx hb dX11_told_1 (by decide) (by decide) (by decide) (by decide) ?_
  refine lv_aload_n hx hb dX11_told_166 rfl (lv_at hl 0 rfl) ?_
  refine va_get (D := D) (ci := 11) (v := .int 0) (C := RX11) (T := TX11) (N := 32) hx hb hts hnX11 hown hE.1 hP 0 rfl rfl 4 (by decide) (hts (.fieldLink RX11 72 "MovedStonesModel" "undos" "I") (List.mem_cons_of_mem _ (List.mem_append_left _ (List.mem_append_left _ (List.mem_of_getElem? (i := 5) rfl))))) (fun _ h9 => h9) rfl dX11_told_167 ?_
  exact ms_iret hx hb hr hlk () rfl hP hD hS (Nat.le_of_ble_eq_true rfl) (Nat.le_of_ble_eq_true rfl) dX11_told_170
set_option maxHeartbeats 4000000 in
set_option maxRecDepth 100000 in
theorem cX10_told_20 (l : Launch) (D : va_G) (cA : Nat → ClassId) (q0 q1 q2 q3 q4 q5 q6 q7 q8 q9 q10 q11 : Nat) (a0 : Int32) (g0 : 18 ≤ a0.toInt) : ms_Mi l yX10_told wsX10_told ({ frames := 0, cells := 0, slots := 0, locals := 0 } : Room) D cA [.ref q0, .int a0] [(q0, .inr (10, [.ref q1, .ref q2, .ref q3, .ref q4, .ref q5, .int 0, .ref q6, .ref q7, .ref q8, .ref q9, .ref q10, .ref q11]))] (fun (r : Int32) (_ : Unit) => r = (-1000000002)) (fun (_ : Unit) => [(q0, .inr (10, [.ref q1, .ref q2, .ref q3, .ref q4, .ref q5, .int 0, .ref q6, .ref q7, .ref q8, .ref q9, .ref q10, .ref q11]))]) := by
  refine ms_Mi_of (cc := cX10_told) (maxL := 2) (ret := (some .int)) (by decide) rfl (Nat.le_of_ble_eq_true rfl) ?_
  intro p e s m args below meth c A ls hB hE hA hP hD hS hl
  obtain ⟨hx, hb, hr, hml, hown, hts, hlk, hnm⟩ := hB
  have hown : s.vm.findClass RX10 = some m.cls := hown
  have hl : lv_has ls 2 [(0, .ref q0), (1, .int a0)] := hl
  refine lv_iload_n hx hb dX10_told_0 rfl (lv_at hl 1 rfl) ?_
  refine lv_tableOut (tgt := 250) hx hb dX10_told_1 (by skip; omega) (by decide) ?_
  refine lv_ldc (v := (-1000000002)) hx hb hown (hts (.constant RX10 83 (-1000000002)) (List.mem_cons_of_mem _ (List.mem_append_left _ (List.mem_append_left _ (List.mem_append_left _ (List.mem_append_left _ (List.mem_append_left _ (List.mem_append_left _ (List.mem_append_left _ (List.mem_of_getElem? (i := 20) rfl)))))))))) dX10_told_250 ?_
  exact ms_iret hx hb hr hlk () rfl hP hD hS (Nat.le_of_ble_eq_true rfl) (Nat.le_of_ble_eq_true rfl) dX10_told_252
set_option maxHeartbeats 4000000 in
set_option maxRecDepth 100000 in
theorem cX11_told_20 (l : Launch) (D : va_G) (cA : Nat → ClassId) (q0 q1 q2 q3 q4 q5 q6 q7 q8 q9 q10 q11 q12 q13 q14 q15 q16 q17 q18 : Nat) (a0 : Int32) (g0 : 18 ≤ a0.toInt) : ms_Mi l yX11_told wsX11_told ({ frames := 0, cells := 0, slots := 0, locals := 0 } : Room) D cA [.ref q0, .int a0] [(q0, .inr (11, [.ref q1, .ref q2, .ref q3, .ref q4, .int 0, .ref q5, .ref q6, .long 0, .ref q7, .int 0, .int (-1), .ref q8, .ref q9, .int 0, .ref q10, .int 0, .int 0, .int 0, .int 0, .int 0, .int 0, .int 0, .ref q11, .ref q12, .ref q13, .int 0, .ref q14, .ref q15, .ref q16, .ref q17, .int 0, .ref q18]))] (fun (r : Int32) (_ : Unit) => r = (-1000000002)) (fun (_ : Unit) => [(q0, .inr (11, [.ref q1, .ref q2, .ref q3, .ref q4, .int 0, .ref q5, .ref q6, .long 0, .ref q7, .int 0, .int (-1), .ref q8, .ref q9, .int 0, .ref q10, .int 0, .int 0, .int 0, .int 0, .int 0, .int 0, .int 0, .ref q11, .ref q12, .ref q13, .int 0, .ref q14, .ref q15, .ref q16, .ref q17, .int 0, .ref q18]))]) := by
  refine ms_Mi_of (cc := cX11_told) (maxL := 2) (ret := (some .int)) (by decide) rfl (Nat.le_of_ble_eq_true rfl) ?_
  intro p e s m args below meth c A ls hB hE hA hP hD hS hl
  obtain ⟨hx, hb, hr, hml, hown, hts, hlk, hnm⟩ := hB
  have hown : s.vm.findClass RX11 = some m.cls := hown
  have hl : lv_has ls 2 [(0, .ref q0), (1, .int a0)] := hl
  refine lv_iload_n hx hb dX11_told_0 rfl (lv_at hl 1 rfl) ?_
  refine lv_tableOut (tgt := 171) hx hb dX11_told_1 (by skip; omega) (by decide) ?_
  refine lv_ldc (v := (-1000000002)) hx hb hown (hts (.constant RX11 87 (-1000000002)) (List.mem_cons_of_mem _ (List.mem_append_left _ (List.mem_append_left _ (List.mem_of_getElem? (i := 6) rfl))))) dX11_told_171 ?_
  exact ms_iret hx hb hr hlk () rfl hP hD hS (Nat.le_of_ble_eq_true rfl) (Nat.le_of_ble_eq_true rfl) dX11_told_173
set_option maxHeartbeats 4000000 in
set_option maxRecDepth 100000 in
theorem cX2_hasRoad_1 (l : Launch) (D : va_G) (cA : Nat → ClassId) (q0 q1 q2 q3 q4 q5 q6 q7 q8 : Nat) (a0 : Int32) : ms_Mi l yX2_hasRoad wsX2_hasRoad ({ frames := 0, cells := 0, slots := 0, locals := 0 } : Room) D cA [.ref q0, .int a0] [(q0, .inr (2, [.int 0, .int 0, .int 0, .int 0, .int 0, .ref q1, .ref q2, .ref q3, .ref q4, .ref q5, .ref q6, .ref q7, .ref q8]))] (fun (r : Int32) (_ : Unit) => r = 0) (fun (_ : Unit) => [(q0, .inr (2, [.int 0, .int 0, .int 0, .int 0, .int 0, .ref q1, .ref q2, .ref q3, .ref q4, .ref q5, .ref q6, .ref q7, .ref q8]))]) := by
  refine ms_Mi_of (cc := cX2_hasRoad) (maxL := 2) (ret := (some .boolean)) (by decide) rfl (Nat.le_of_ble_eq_true rfl) ?_
  intro p e s m args below meth c A ls hB hE hA hP hD hS hl
  obtain ⟨hx, hb, hr, hml, hown, hts, hlk, hnm⟩ := hB
  have hown : s.vm.findClass RX2 = some m.cls := hown
  have hnX2 : ∀ w ∈ u_ws RX2 TX2 13, w ∈ wsX2_hasRoad := fun _ h => List.mem_cons_of_mem _ (List.mem_append_right _ (h))
  have hl : lv_has ls 2 [(0, .ref q0), (1, .int a0)] := hl
  refine lv_iload_n hx hb dX2_hasRoad_0 rfl (lv_at hl 1 rfl) ?_
  refine lv_if_lt (tgt := 16) hx hb dX2_hasRoad_1 (by decide) (fun c1 => ?_) (fun c1 => ?_)
  · have hc2 := Int32.lt_iff_toInt_lt.mp c1
    have z3 : (0 : Int32).toInt = 0 := (by decide)
    refine lv_iconst (v := 0) hx hb dX2_hasRoad_16 (by decide) ?_
    exact ms_zret hx hb hr rfl hlk () rfl hP hD hS (Nat.le_of_ble_eq_true rfl) (Nat.le_of_ble_eq_true rfl) dX2_hasRoad_17
  · have hc4 := mt Int32.lt_iff_toInt_lt.mpr c1
    have z5 : (0 : Int32).toInt = 0 := (by decide)
    refine lv_iload_n hx hb dX2_hasRoad_4 rfl (lv_at hl 1 rfl) ?_
    refine lv_aload_n hx hb dX2_hasRoad_5 rfl (lv_at hl 0 rfl) ?_
    refine va_get (D := D) (ci := 2) (v := .int 0) (C := RX2) (T := TX2) (N := 13) hx hb hts hnX2 hown hE.1 hP 0 rfl rfl 3 (by decide) (hts (.fieldLink RX2 46 "MovedStones$Land" "roads" "I") (List.mem_cons_of_mem _ (List.mem_append_left _ (List.mem_of_getElem? (i := 0) rfl)))) (fun _ h9 => h9) rfl dX2_hasRoad_6 ?_
    refine lv_icmp_ge (tgt := 16) hx hb dX2_hasRoad_9 (by decide) (fun _ => ?_) (fun c => by exfalso; have hc6 := mt Int32.le_iff_toInt_le.mpr c; have z7 : (0 : Int32).toInt = 0 := (by decide); omega)
    refine lv_iconst (v := 0) hx hb dX2_hasRoad_16 (by decide) ?_
    exact ms_zret hx hb hr rfl hlk () rfl hP hD hS (Nat.le_of_ble_eq_true rfl) (Nat.le_of_ble_eq_true rfl) dX2_hasRoad_17
set_option maxHeartbeats 4000000 in
set_option maxRecDepth 100000 in
theorem cX10_road_1 (l : Launch) (D : va_G) (cA : Nat → ClassId) (q0 q1 q2 q3 q4 q5 q6 q7 q8 q9 q10 q11 q12 q13 q14 q15 q16 q17 q18 q19 : Nat) (a0 : Int32) (a1 : Int32) : ms_Mi l yX10_road wsX10_road ({ frames := 1, cells := 0, slots := 0, locals := 21 } : Room) D cA [.ref q0, .int a0, .int a1] [(q0, .inr (10, [.ref q2, .ref q1, .ref q3, .ref q4, .ref q5, .int 0, .ref q6, .ref q7, .ref q8, .ref q9, .ref q10, .ref q11])), (q1, .inr (2, [.int 0, .int 0, .int 0, .int 0, .int 0, .ref q12, .ref q13, .ref q14, .ref q15, .ref q16, .ref q17, .ref q18, .ref q19]))] (fun (r : Int32) (_ : Unit) => r = (-1000000001)) (fun (_ : Unit) => [(q0, .inr (10, [.ref q2, .ref q1, .ref q3, .ref q4, .ref q5, .int 0, .ref q6, .ref q7, .ref q8, .ref q9, .ref q10, .ref q11])), (q1, .inr (2, [.int 0, .int 0, .int 0, .int 0, .int 0, .ref q12, .ref q13, .ref q14, .ref q15, .ref q16, .ref q17, .ref q18, .ref q19]))]) := by
  refine ms_Mi_of (cc := cX10_road) (maxL := 3) (ret := (some .int)) (by decide) rfl (Nat.le_of_ble_eq_true rfl) ?_
  intro p e s m args below meth c A ls hB hE hA hP hD hS hl
  obtain ⟨hx, hb, hr, hml, hown, hts, hlk, hnm⟩ := hB
  have hown : s.vm.findClass RX10 = some m.cls := hown
  have hnX10 : ∀ w ∈ u_ws RX10 TX10 12, w ∈ wsX10_road := fun _ h => List.mem_cons_of_mem _ (List.mem_append_left _ (List.mem_append_left _ (List.mem_append_left _ (List.mem_append_right _ (h)))))
  have hl : lv_has ls 3 [(0, .ref q0), (1, .int a0), (2, .int a1)] := hl
  refine lv_aload_n hx hb dX10_road_0 rfl (lv_at hl 0 rfl) ?_
  refine va_get (D := D) (ci := 10) (v := .ref q1) (C := RX10) (T := TX10) (N := 12) hx hb hts hnX10 hown hE.1 hP 0 rfl rfl 1 (by decide) (hts (.fieldLink RX10 19 "MovedStones" "land" "LMovedStones$Land;") (List.mem_cons_of_mem _ (List.mem_append_left _ (List.mem_append_left _ (List.mem_append_left _ (List.mem_append_left _ (List.mem_of_getElem? (i := 0) rfl))))))) (fun _ h9 => h9) rfl dX10_road_1 ?_
  refine lv_iload_n hx hb dX10_road_4 rfl (lv_at hl 1 rfl) ?_
  refine ms_cVi (qc := (RX2, TX2, 13)) (wc := [(q1, .inr (2, [.int 0, .int 0, .int 0, .int 0, .int 0, .ref q12, .ref q13, .ref q14, .ref q15, .ref q16, .ref q17, .ref q18, .ref q19]))]) (wr := [(q0, .inr (10, [.ref q2, .ref q1, .ref q3, .ref q4, .ref q5, .int 0, .ref q6, .ref q7, .ref q8, .ref q9, .ref q10, .ref q11]))]) ⟨hx, hb, hml, hown, hts⟩ hE (cX2_hasRoad_1 l D cA q1 q12 q13 q14 q15 q16 q17 q18 q19 a0) (cwV 1 hts gX10_road_X2_hasRoad rfl rfl rfl (by decide +kernel) ⟨Nat.le_of_ble_eq_true rfl, Nat.le_of_ble_eq_true rfl⟩) hP hD hS hA [1] [0] rfl rfl rfl rfl (by decide) 0 2 rfl rfl rfl hl.1 rfl (Nat.le_of_ble_eq_true rfl) dX10_road_5 ⟨Nat.le_of_ble_eq_true rfl, Nat.le_of_ble_eq_true rfl⟩ (fun r2 u1 H locs hp hP hD hS => ?_)
  subst hp
  have hP : va_P D vwCl [(q0, .inr (10, [.ref q2, .ref q1, .ref q3, .ref q4, .ref q5, .int 0, .ref q6, .ref q7, .ref q8, .ref q9, .ref q10, .ref q11])), (q1, .inr (2, [.int 0, .int 0, .int 0, .int 0, .int 0, .ref q12, .ref q13, .ref q14, .ref q15, .ref q16, .ref q17, .ref q18, .ref q19]))] H := hP
  have hD : va_D A [(q0, .inr (10, [.ref q2, .ref q1, .ref q3, .ref q4, .ref q5, .int 0, .ref q6, .ref q7, .ref q8, .ref q9, .ref q10, .ref q11])), (q1, .inr (2, [.int 0, .int 0, .int 0, .int 0, .int 0, .ref q12, .ref q13, .ref q14, .ref q15, .ref q16, .ref q17, .ref q18, .ref q19]))] := hD
  refine lv_if_ne (tgt := 14) hx hb dX10_road_8 (by decide) (fun c => absurd (by decide) c) (fun _ => ?_)
  refine lv_ldc (v := (-1000000001)) hx hb hown (hts (.constant RX10 178 (-1000000001)) (List.mem_cons_of_mem _ (List.mem_append_left _ (List.mem_append_left _ (List.mem_append_left _ (List.mem_append_left _ (List.mem_of_getElem? (i := 1) rfl))))))) dX10_road_11 ?_
  exact ms_iret hx hb hr hlk () rfl hP hD hS (Nat.le_of_ble_eq_true rfl) (Nat.le_of_ble_eq_true rfl) dX10_road_13
set_option maxHeartbeats 4000000 in
set_option maxRecDepth 100000 in
theorem cX11_isRoad_1 (l : Launch) (D : va_G) (cA : Nat → ClassId) (q0 q1 q2 q3 q4 q5 q6 q7 q8 q9 q10 q11 q12 q13 q14 q15 q16 q17 q18 : Nat) (a0 : Int32) : ms_Mi l yX11_isRoad wsX11_isRoad ({ frames := 1, cells := 0, slots := 0, locals := 25 } : Room) D cA [.ref q0, .int a0] [(q0, .inr (11, [.ref q1, .ref q2, .ref q3, .ref q4, .int 0, .ref q5, .ref q6, .long 0, .ref q7, .int 0, .int (-1), .ref q8, .ref q9, .int 0, .ref q10, .int 0, .int 0, .int 0, .int 0, .int 0, .int 0, .int 0, .ref q11, .ref q12, .ref q13, .int 0, .ref q14, .ref q15, .ref q16, .ref q17, .int 0, .ref q18])), (q1, .inl (cA 0, 68, .inl ms_z))] (fun (r : Int32) (_ : Unit) => r = 0) (fun (_ : Unit) => [(q0, .inr (11, [.ref q1, .ref q2, .ref q3, .ref q4, .int 0, .ref q5, .ref q6, .long 0, .ref q7, .int 0, .int (-1), .ref q8, .ref q9, .int 0, .ref q10, .int 0, .int 0, .int 0, .int 0, .int 0, .int 0, .int 0, .ref q11, .ref q12, .ref q13, .int 0, .ref q14, .ref q15, .ref q16, .ref q17, .int 0, .ref q18])), (q1, .inl (cA 0, 68, .inl ms_z))]) := by
  refine ms_Mi_of (cc := cX11_isRoad) (maxL := 2) (ret := (some .boolean)) (by decide) rfl (Nat.le_of_ble_eq_true rfl) ?_
  intro p e s m args below meth c A ls hB hE hA hP hD hS hl
  obtain ⟨hx, hb, hr, hml, hown, hts, hlk, hnm⟩ := hB
  have hown : s.vm.findClass RX11 = some m.cls := hown
  have hnX11 : ∀ w ∈ u_ws RX11 TX11 32, w ∈ wsX11_isRoad := fun _ h => List.mem_cons_of_mem _ (List.mem_append_right _ (h))
  have hl : lv_has ls 2 [(0, .ref q0), (1, .int a0)] := hl
  refine lv_iload_n hx hb dX11_isRoad_0 rfl (lv_at hl 1 rfl) ?_
  refine lv_i2l (v := a0.toInt64) hx hb dX11_isRoad_1 rfl ?_
  refine lv_lconst (v := 0) hx hb dX11_isRoad_2 (by decide) ?_
  refine lv_aload_n hx hb dX11_isRoad_3 rfl (lv_at hl 0 rfl) ?_
  refine va_get (D := D) (ci := 11) (v := .ref q1) (C := RX11) (T := TX11) (N := 32) hx hb hts hnX11 hown hE.1 hP 0 rfl rfl 0 (by decide) (hts (.fieldLink RX11 7 "MovedStonesModel" "march" "[I") (List.mem_cons_of_mem _ (List.mem_append_left _ (List.mem_of_getElem? (i := 0) rfl)))) (fun _ h9 => h9) rfl dX11_isRoad_4 ?_
  refine lv_iconst (v := 3) hx hb dX11_isRoad_7 (by decide) ?_
  refine ms_iald (x := 0) hx hb hE hP 1 rfl 3 rfl (by omega) (by decide) (rfl) dX11_isRoad_8 ?_
  refine lv_iconst (v := 1) hx hb dX11_isRoad_9 (by decide) ?_
  refine lv_isub hx hb dX11_isRoad_10 ?_
  refine ms_eqi (y := (-1)) (by decide) ?_
  refine lv_i2l (v := (-1)) hx hb dX11_isRoad_11 (by decide) ?_
  refine ms_cSi (wc := []) (wr := [(q0, .inr (11, [.ref q1, .ref q2, .ref q3, .ref q4, .int 0, .ref q5, .ref q6, .long 0, .ref q7, .int 0, .int (-1), .ref q8, .ref q9, .int 0, .ref q10, .int 0, .int 0, .int 0, .int 0, .int 0, .int 0, .int 0, .ref q11, .ref q12, .ref q13, .int 0, .ref q14, .ref q15, .ref q16, .ref q17, .int 0, .ref q18])), (q1, .inl (cA 0, 68, .inl ms_z))]) ⟨hx, hb, hml, hown, hts⟩ hE (c_in l D cA a0.toInt64 0 (-1)) (va_cwS 3 hts gX11_isRoad_X11_in rfl rfl rfl (by decide +kernel) ⟨Nat.le_of_ble_eq_true rfl, Nat.le_of_ble_eq_true rfl⟩) hP hD hS hA [] [0, 1] rfl rfl rfl rfl (by decide) rfl hl.1 rfl (Nat.le_of_ble_eq_true rfl) dX11_isRoad_12 ⟨Nat.le_of_ble_eq_true rfl, Nat.le_of_ble_eq_true rfl⟩ (fun r1 u2 H locs hp hP hD hS => ?_)
  have hp : r1 = 0 := by rw [hp]; have z3 : (0 : Int64).toInt = 0 := (by decide); have z4 : ((-1) : Int64).toInt = -1 := (by decide); have z5 : (a0.toInt64).toInt = a0.toInt := Int32.toInt_toInt64 _; exact if_neg (by omega)
  subst hp
  have hP : va_P D vwCl [(q0, .inr (11, [.ref q1, .ref q2, .ref q3, .ref q4, .int 0, .ref q5, .ref q6, .long 0, .ref q7, .int 0, .int (-1), .ref q8, .ref q9, .int 0, .ref q10, .int 0, .int 0, .int 0, .int 0, .int 0, .int 0, .int 0, .ref q11, .ref q12, .ref q13, .int 0, .ref q14, .ref q15, .ref q16, .ref q17, .int 0, .ref q18])), (q1, .inl (cA 0, 68, .inl ms_z))] H := hP
  have hD : va_D A [(q0, .inr (11, [.ref q1, .ref q2, .ref q3, .ref q4, .int 0, .ref q5, .ref q6, .long 0, .ref q7, .int 0, .int (-1), .ref q8, .ref q9, .int 0, .ref q10, .int 0, .int 0, .int 0, .int 0, .int 0, .int 0, .int 0, .ref q11, .ref q12, .ref q13, .int 0, .ref q14, .ref q15, .ref q16, .ref q17, .int 0, .ref q18])), (q1, .inl (cA 0, 68, .inl ms_z))] := hD
  exact ms_zret hx hb hr rfl hlk () rfl hP hD hS (Nat.le_of_ble_eq_true rfl) (Nat.le_of_ble_eq_true rfl) dX11_isRoad_15
set_option maxHeartbeats 4000000 in
set_option maxRecDepth 100000 in
theorem cX11_road_1 (l : Launch) (D : va_G) (cA : Nat → ClassId) (q0 q1 q2 q3 q4 q5 q6 q7 q8 q9 q10 q11 q12 q13 q14 q15 q16 q17 q18 : Nat) (a0 : Int32) (a1 : Int32) : ms_Mi l yX11_road wsX11_road ({ frames := 2, cells := 0, slots := 0, locals := 46 } : Room) D cA [.ref q0, .int a0, .int a1] [(q0, .inr (11, [.ref q1, .ref q2, .ref q3, .ref q4, .int 0, .ref q5, .ref q6, .long 0, .ref q7, .int 0, .int (-1), .ref q8, .ref q9, .int 0, .ref q10, .int 0, .int 0, .int 0, .int 0, .int 0, .int 0, .int 0, .ref q11, .ref q12, .ref q13, .int 0, .ref q14, .ref q15, .ref q16, .ref q17, .int 0, .ref q18])), (q1, .inl (cA 0, 68, .inl ms_z))] (fun (r : Int32) (_ : Unit) => r = (-1000000001)) (fun (_ : Unit) => [(q0, .inr (11, [.ref q1, .ref q2, .ref q3, .ref q4, .int 0, .ref q5, .ref q6, .long 0, .ref q7, .int 0, .int (-1), .ref q8, .ref q9, .int 0, .ref q10, .int 0, .int 0, .int 0, .int 0, .int 0, .int 0, .int 0, .ref q11, .ref q12, .ref q13, .int 0, .ref q14, .ref q15, .ref q16, .ref q17, .int 0, .ref q18])), (q1, .inl (cA 0, 68, .inl ms_z))]) := by
  refine ms_Mi_of (cc := cX11_road) (maxL := 3) (ret := (some .int)) (by decide) rfl (Nat.le_of_ble_eq_true rfl) ?_
  intro p e s m args below meth c A ls hB hE hA hP hD hS hl
  obtain ⟨hx, hb, hr, hml, hown, hts, hlk, hnm⟩ := hB
  have hown : s.vm.findClass RX11 = some m.cls := hown
  have hl : lv_has ls 3 [(0, .ref q0), (1, .int a0), (2, .int a1)] := hl
  refine lv_aload_n hx hb dX11_road_0 rfl (lv_at hl 0 rfl) ?_
  refine lv_iload_n hx hb dX11_road_1 rfl (lv_at hl 1 rfl) ?_
  refine ms_cVi (qc := (RX11, TX11, 32)) (wc := [(q0, .inr (11, [.ref q1, .ref q2, .ref q3, .ref q4, .int 0, .ref q5, .ref q6, .long 0, .ref q7, .int 0, .int (-1), .ref q8, .ref q9, .int 0, .ref q10, .int 0, .int 0, .int 0, .int 0, .int 0, .int 0, .int 0, .ref q11, .ref q12, .ref q13, .int 0, .ref q14, .ref q15, .ref q16, .ref q17, .int 0, .ref q18])), (q1, .inl (cA 0, 68, .inl ms_z))]) (wr := []) ⟨hx, hb, hml, hown, hts⟩ hE (cX11_isRoad_1 l D cA q0 q1 q2 q3 q4 q5 q6 q7 q8 q9 q10 q11 q12 q13 q14 q15 q16 q17 q18 a0) (cwV 1 hts gX11_road_X11_isRoad rfl rfl rfl (by decide +kernel) ⟨Nat.le_of_ble_eq_true rfl, Nat.le_of_ble_eq_true rfl⟩) hP hD hS hA [0, 1] [] rfl rfl rfl rfl (by decide) 0 11 rfl rfl rfl hl.1 rfl (Nat.le_of_ble_eq_true rfl) dX11_road_2 ⟨Nat.le_of_ble_eq_true rfl, Nat.le_of_ble_eq_true rfl⟩ (fun r2 u1 H locs hp hP hD hS => ?_)
  subst hp
  have hP : va_P D vwCl [(q0, .inr (11, [.ref q1, .ref q2, .ref q3, .ref q4, .int 0, .ref q5, .ref q6, .long 0, .ref q7, .int 0, .int (-1), .ref q8, .ref q9, .int 0, .ref q10, .int 0, .int 0, .int 0, .int 0, .int 0, .int 0, .int 0, .ref q11, .ref q12, .ref q13, .int 0, .ref q14, .ref q15, .ref q16, .ref q17, .int 0, .ref q18])), (q1, .inl (cA 0, 68, .inl ms_z))] H := hP
  have hD : va_D A [(q0, .inr (11, [.ref q1, .ref q2, .ref q3, .ref q4, .int 0, .ref q5, .ref q6, .long 0, .ref q7, .int 0, .int (-1), .ref q8, .ref q9, .int 0, .ref q10, .int 0, .int 0, .int 0, .int 0, .int 0, .int 0, .int 0, .ref q11, .ref q12, .ref q13, .int 0, .ref q14, .ref q15, .ref q16, .ref q17, .int 0, .ref q18])), (q1, .inl (cA 0, 68, .inl ms_z))] := hD
  refine lv_if_ne (tgt := 11) hx hb dX11_road_5 (by decide) (fun c => absurd (by decide) c) (fun _ => ?_)
  refine lv_ldc (v := (-1000000001)) hx hb hown (hts (.constant RX11 173 (-1000000001)) (List.mem_cons_of_mem _ (List.mem_append_left _ (List.mem_of_getElem? (i := 0) rfl)))) dX11_road_8 ?_
  exact ms_iret hx hb hr hlk () rfl hP hD hS (Nat.le_of_ble_eq_true rfl) (Nat.le_of_ble_eq_true rfl) dX11_road_10
set_option maxHeartbeats 4000000 in
set_option maxRecDepth 100000 in
theorem cX10_treaty_1 (l : Launch) (D : va_G) (cA : Nat → ClassId) (q0 q1 q2 q3 q4 q5 q6 q7 q8 q9 q10 q11 q12 q13 q14 q15 q16 q17 q18 q19 : Nat) (a0 : Int32) (a1 : Int32) : ms_Mi l yX10_treaty wsX10_treaty ({ frames := 0, cells := 0, slots := 0, locals := 0 } : Room) D cA [.ref q0, .int a0, .int a1] [(q0, .inr (10, [.ref q2, .ref q1, .ref q3, .ref q4, .ref q5, .int 0, .ref q6, .ref q7, .ref q8, .ref q9, .ref q10, .ref q11])), (q1, .inr (2, [.int 0, .int 0, .int 0, .int 0, .int 0, .ref q12, .ref q13, .ref q14, .ref q15, .ref q16, .ref q17, .ref q18, .ref q19]))] (fun (r : Int32) (_ : Unit) => r = (-1000000001)) (fun (_ : Unit) => [(q0, .inr (10, [.ref q2, .ref q1, .ref q3, .ref q4, .ref q5, .int 0, .ref q6, .ref q7, .ref q8, .ref q9, .ref q10, .ref q11])), (q1, .inr (2, [.int 0, .int 0, .int 0, .int 0, .int 0, .ref q12, .ref q13, .ref q14, .ref q15, .ref q16, .ref q17, .ref q18, .ref q19]))]) := by
  refine ms_Mi_of (cc := cX10_treaty) (maxL := 3) (ret := (some .int)) (by decide) rfl (Nat.le_of_ble_eq_true rfl) ?_
  intro p e s m args below meth c A ls hB hE hA hP hD hS hl
  obtain ⟨hx, hb, hr, hml, hown, hts, hlk, hnm⟩ := hB
  have hown : s.vm.findClass RX10 = some m.cls := hown
  have hnX2 : ∀ w ∈ u_ws RX2 TX2 13, w ∈ wsX10_treaty := fun _ h => List.mem_cons_of_mem _ (List.mem_append_left _ (List.mem_append_right _ (h)))
  have hnX10 : ∀ w ∈ u_ws RX10 TX10 12, w ∈ wsX10_treaty := fun _ h => List.mem_cons_of_mem _ (List.mem_append_left _ (List.mem_append_left _ (List.mem_append_right _ (h))))
  have hl : lv_has ls 3 [(0, .ref q0), (1, .int a0), (2, .int a1)] := hl
  refine lv_iload_n hx hb dX10_treaty_0 rfl (lv_at hl 1 rfl) ?_
  refine lv_if_lt (tgt := 15) hx hb dX10_treaty_1 (by decide) (fun c1 => ?_) (fun c1 => ?_)
  · have hc2 := Int32.lt_iff_toInt_lt.mp c1
    have z3 : (0 : Int32).toInt = 0 := (by decide)
    refine lv_ldc (v := (-1000000001)) hx hb hown (hts (.constant RX10 178 (-1000000001)) (List.mem_cons_of_mem _ (List.mem_append_left _ (List.mem_append_left _ (List.mem_append_left _ (List.mem_append_left _ (List.mem_of_getElem? (i := 2) rfl))))))) dX10_treaty_15 ?_
    exact ms_iret hx hb hr hlk () rfl hP hD hS (Nat.le_of_ble_eq_true rfl) (Nat.le_of_ble_eq_true rfl) dX10_treaty_17
  · have hc4 := mt Int32.lt_iff_toInt_lt.mpr c1
    have z5 : (0 : Int32).toInt = 0 := (by decide)
    refine lv_iload_n hx hb dX10_treaty_4 rfl (lv_at hl 1 rfl) ?_
    refine lv_aload_n hx hb dX10_treaty_5 rfl (lv_at hl 0 rfl) ?_
    refine va_get (D := D) (ci := 10) (v := .ref q1) (C := RX10) (T := TX10) (N := 12) hx hb hts hnX10 hown hE.1 hP 0 rfl rfl 1 (by decide) (hts (.fieldLink RX10 19 "MovedStones" "land" "LMovedStones$Land;") (List.mem_cons_of_mem _ (List.mem_append_left _ (List.mem_append_left _ (List.mem_append_left _ (List.mem_append_left _ (List.mem_of_getElem? (i := 0) rfl))))))) (fun _ h9 => h9) rfl dX10_treaty_6 ?_
    refine va_get (D := D) (ci := 2) (v := .int 0) (C := RX2) (T := TX2) (N := 13) hx hb hts hnX2 hown hE.1 hP 1 rfl rfl 4 (by decide) (hts (.fieldLink RX10 128 "MovedStones$Land" "treaties" "I") (List.mem_cons_of_mem _ (List.mem_append_left _ (List.mem_append_left _ (List.mem_append_left _ (List.mem_append_left _ (List.mem_of_getElem? (i := 1) rfl))))))) (fun _ h9 => h9) rfl dX10_treaty_9 ?_
    refine lv_icmp_lt (tgt := 18) hx hb dX10_treaty_12 (by decide) (fun c => by exfalso; have hc6 := Int32.lt_iff_toInt_lt.mp c; have z7 : (0 : Int32).toInt = 0 := (by decide); omega) (fun _ => ?_)
    refine lv_ldc (v := (-1000000001)) hx hb hown (hts (.constant RX10 178 (-1000000001)) (List.mem_cons_of_mem _ (List.mem_append_left _ (List.mem_append_left _ (List.mem_append_left _ (List.mem_append_left _ (List.mem_of_getElem? (i := 2) rfl))))))) dX10_treaty_15 ?_
    exact ms_iret hx hb hr hlk () rfl hP hD hS (Nat.le_of_ble_eq_true rfl) (Nat.le_of_ble_eq_true rfl) dX10_treaty_17
set_option maxHeartbeats 4000000 in
set_option maxRecDepth 100000 in
theorem cX11_treaty_1 (l : Launch) (D : va_G) (cA : Nat → ClassId) (q0 q1 q2 q3 q4 q5 q6 q7 q8 q9 q10 q11 q12 q13 q14 q15 q16 q17 q18 : Nat) (a0 : Int32) (a1 : Int32) : ms_Mi l yX11_treaty wsX11_treaty ({ frames := 1, cells := 0, slots := 0, locals := 25 } : Room) D cA [.ref q0, .int a0, .int a1] [(q0, .inr (11, [.ref q1, .ref q2, .ref q3, .ref q4, .int 0, .ref q5, .ref q6, .long 0, .ref q7, .int 0, .int (-1), .ref q8, .ref q9, .int 0, .ref q10, .int 0, .int 0, .int 0, .int 0, .int 0, .int 0, .int 0, .ref q11, .ref q12, .ref q13, .int 0, .ref q14, .ref q15, .ref q16, .ref q17, .int 0, .ref q18])), (q1, .inl (cA 0, 68, .inl ms_z))] (fun (r : Int32) (_ : Unit) => r = (-1000000001)) (fun (_ : Unit) => [(q0, .inr (11, [.ref q1, .ref q2, .ref q3, .ref q4, .int 0, .ref q5, .ref q6, .long 0, .ref q7, .int 0, .int (-1), .ref q8, .ref q9, .int 0, .ref q10, .int 0, .int 0, .int 0, .int 0, .int 0, .int 0, .int 0, .ref q11, .ref q12, .ref q13, .int 0, .ref q14, .ref q15, .ref q16, .ref q17, .int 0, .ref q18])), (q1, .inl (cA 0, 68, .inl ms_z))]) := by
  refine ms_Mi_of (cc := cX11_treaty) (maxL := 3) (ret := (some .int)) (by decide) rfl (Nat.le_of_ble_eq_true rfl) ?_
  intro p e s m args below meth c A ls hB hE hA hP hD hS hl
  obtain ⟨hx, hb, hr, hml, hown, hts, hlk, hnm⟩ := hB
  have hown : s.vm.findClass RX11 = some m.cls := hown
  have hnX11 : ∀ w ∈ u_ws RX11 TX11 32, w ∈ wsX11_treaty := fun _ h => List.mem_cons_of_mem _ (List.mem_append_right _ (h))
  have hl : lv_has ls 3 [(0, .ref q0), (1, .int a0), (2, .int a1)] := hl
  refine lv_iload_n hx hb dX11_treaty_0 rfl (lv_at hl 1 rfl) ?_
  refine lv_i2l (v := a0.toInt64) hx hb dX11_treaty_1 rfl ?_
  refine lv_lconst (v := 0) hx hb dX11_treaty_2 (by decide) ?_
  refine lv_aload_n hx hb dX11_treaty_3 rfl (lv_at hl 0 rfl) ?_
  refine va_get (D := D) (ci := 11) (v := .ref q1) (C := RX11) (T := TX11) (N := 32) hx hb hts hnX11 hown hE.1 hP 0 rfl rfl 0 (by decide) (hts (.fieldLink RX11 7 "MovedStonesModel" "march" "[I") (List.mem_cons_of_mem _ (List.mem_append_left _ (List.mem_of_getElem? (i := 0) rfl)))) (fun _ h9 => h9) rfl dX11_treaty_4 ?_
  refine lv_iconst (v := 4) hx hb dX11_treaty_7 (by decide) ?_
  refine ms_iald (x := 0) hx hb hE hP 1 rfl 4 rfl (by omega) (by decide) (rfl) dX11_treaty_8 ?_
  refine lv_iconst (v := 1) hx hb dX11_treaty_9 (by decide) ?_
  refine lv_isub hx hb dX11_treaty_10 ?_
  refine ms_eqi (y := (-1)) (by decide) ?_
  refine lv_i2l (v := (-1)) hx hb dX11_treaty_11 (by decide) ?_
  refine ms_cSi (wc := []) (wr := [(q0, .inr (11, [.ref q1, .ref q2, .ref q3, .ref q4, .int 0, .ref q5, .ref q6, .long 0, .ref q7, .int 0, .int (-1), .ref q8, .ref q9, .int 0, .ref q10, .int 0, .int 0, .int 0, .int 0, .int 0, .int 0, .int 0, .ref q11, .ref q12, .ref q13, .int 0, .ref q14, .ref q15, .ref q16, .ref q17, .int 0, .ref q18])), (q1, .inl (cA 0, 68, .inl ms_z))]) ⟨hx, hb, hml, hown, hts⟩ hE (c_in l D cA a0.toInt64 0 (-1)) (va_cwS 3 hts gX11_treaty_X11_in rfl rfl rfl (by decide +kernel) ⟨Nat.le_of_ble_eq_true rfl, Nat.le_of_ble_eq_true rfl⟩) hP hD hS hA [] [0, 1] rfl rfl rfl rfl (by decide) rfl hl.1 rfl (Nat.le_of_ble_eq_true rfl) dX11_treaty_12 ⟨Nat.le_of_ble_eq_true rfl, Nat.le_of_ble_eq_true rfl⟩ (fun r1 u2 H locs hp hP hD hS => ?_)
  have hp : r1 = 0 := by rw [hp]; have z3 : (0 : Int64).toInt = 0 := (by decide); have z4 : ((-1) : Int64).toInt = -1 := (by decide); have z5 : (a0.toInt64).toInt = a0.toInt := Int32.toInt_toInt64 _; exact if_neg (by omega)
  subst hp
  have hP : va_P D vwCl [(q0, .inr (11, [.ref q1, .ref q2, .ref q3, .ref q4, .int 0, .ref q5, .ref q6, .long 0, .ref q7, .int 0, .int (-1), .ref q8, .ref q9, .int 0, .ref q10, .int 0, .int 0, .int 0, .int 0, .int 0, .int 0, .int 0, .ref q11, .ref q12, .ref q13, .int 0, .ref q14, .ref q15, .ref q16, .ref q17, .int 0, .ref q18])), (q1, .inl (cA 0, 68, .inl ms_z))] H := hP
  have hD : va_D A [(q0, .inr (11, [.ref q1, .ref q2, .ref q3, .ref q4, .int 0, .ref q5, .ref q6, .long 0, .ref q7, .int 0, .int (-1), .ref q8, .ref q9, .int 0, .ref q10, .int 0, .int 0, .int 0, .int 0, .int 0, .int 0, .int 0, .ref q11, .ref q12, .ref q13, .int 0, .ref q14, .ref q15, .ref q16, .ref q17, .int 0, .ref q18])), (q1, .inl (cA 0, 68, .inl ms_z))] := hD
  refine lv_if_ne (tgt := 21) hx hb dX11_treaty_15 (by decide) (fun c => absurd (by decide) c) (fun _ => ?_)
  refine lv_ldc (v := (-1000000001)) hx hb hown (hts (.constant RX11 173 (-1000000001)) (List.mem_cons_of_mem _ (List.mem_append_left _ (List.mem_of_getElem? (i := 1) rfl)))) dX11_treaty_18 ?_
  exact ms_iret hx hb hr hlk () rfl hP hD hS (Nat.le_of_ble_eq_true rfl) (Nat.le_of_ble_eq_true rfl) dX11_treaty_20
set_option maxHeartbeats 4000000 in
set_option maxRecDepth 100000 in
theorem cX10_shift_1 (l : Launch) (D : va_G) (cA : Nat → ClassId) (q0 q1 q2 q3 q4 q5 q6 q7 q8 q9 q10 q11 q12 q13 q14 q15 q16 q17 q18 q19 : Nat) (a0 : Int32) (a1 : Int32) : ms_Mi l yX10_shift wsX10_shift ({ frames := 1, cells := 0, slots := 0, locals := 21 } : Room) D cA [.ref q0, .int a0, .int a1] [(q0, .inr (10, [.ref q2, .ref q1, .ref q3, .ref q4, .ref q5, .int 0, .ref q6, .ref q7, .ref q8, .ref q9, .ref q10, .ref q11])), (q1, .inr (2, [.int 0, .int 0, .int 0, .int 0, .int 0, .ref q12, .ref q13, .ref q14, .ref q15, .ref q16, .ref q17, .ref q18, .ref q19]))] (fun (r : Int32) (_ : Unit) => r = (-1000000001)) (fun (_ : Unit) => [(q0, .inr (10, [.ref q2, .ref q1, .ref q3, .ref q4, .ref q5, .int 0, .ref q6, .ref q7, .ref q8, .ref q9, .ref q10, .ref q11])), (q1, .inr (2, [.int 0, .int 0, .int 0, .int 0, .int 0, .ref q12, .ref q13, .ref q14, .ref q15, .ref q16, .ref q17, .ref q18, .ref q19]))]) := by
  refine ms_Mi_of (cc := cX10_shift) (maxL := 3) (ret := (some .int)) (by decide) rfl (Nat.le_of_ble_eq_true rfl) ?_
  intro p e s m args below meth c A ls hB hE hA hP hD hS hl
  obtain ⟨hx, hb, hr, hml, hown, hts, hlk, hnm⟩ := hB
  have hown : s.vm.findClass RX10 = some m.cls := hown
  have hnX10 : ∀ w ∈ u_ws RX10 TX10 12, w ∈ wsX10_shift := fun _ h => List.mem_cons_of_mem _ (List.mem_append_left _ (List.mem_append_left _ (List.mem_append_left _ (List.mem_append_right _ (h)))))
  have hl : lv_has ls 3 [(0, .ref q0), (1, .int a0), (2, .int a1)] := hl
  refine lv_aload_n hx hb dX10_shift_0 rfl (lv_at hl 0 rfl) ?_
  refine va_get (D := D) (ci := 10) (v := .ref q1) (C := RX10) (T := TX10) (N := 12) hx hb hts hnX10 hown hE.1 hP 0 rfl rfl 1 (by decide) (hts (.fieldLink RX10 19 "MovedStones" "land" "LMovedStones$Land;") (List.mem_cons_of_mem _ (List.mem_append_left _ (List.mem_append_left _ (List.mem_append_left _ (List.mem_append_left _ (List.mem_append_left _ (List.mem_of_getElem? (i := 0) rfl)))))))) (fun _ h9 => h9) rfl dX10_shift_1 ?_
  refine lv_iload_n hx hb dX10_shift_4 rfl (lv_at hl 1 rfl) ?_
  refine ms_cVi (qc := (RX2, TX2, 13)) (wc := [(q1, .inr (2, [.int 0, .int 0, .int 0, .int 0, .int 0, .ref q12, .ref q13, .ref q14, .ref q15, .ref q16, .ref q17, .ref q18, .ref q19]))]) (wr := [(q0, .inr (10, [.ref q2, .ref q1, .ref q3, .ref q4, .ref q5, .int 0, .ref q6, .ref q7, .ref q8, .ref q9, .ref q10, .ref q11]))]) ⟨hx, hb, hml, hown, hts⟩ hE (cX2_hasRoad_1 l D cA q1 q12 q13 q14 q15 q16 q17 q18 q19 a0) (cwV 1 hts gX10_shift_X2_hasRoad rfl rfl rfl (by decide +kernel) ⟨Nat.le_of_ble_eq_true rfl, Nat.le_of_ble_eq_true rfl⟩) hP hD hS hA [1] [0] rfl rfl rfl rfl (by decide) 0 2 rfl rfl rfl hl.1 rfl (Nat.le_of_ble_eq_true rfl) dX10_shift_5 ⟨Nat.le_of_ble_eq_true rfl, Nat.le_of_ble_eq_true rfl⟩ (fun r2 u1 H locs hp hP hD hS => ?_)
  subst hp
  have hP : va_P D vwCl [(q0, .inr (10, [.ref q2, .ref q1, .ref q3, .ref q4, .ref q5, .int 0, .ref q6, .ref q7, .ref q8, .ref q9, .ref q10, .ref q11])), (q1, .inr (2, [.int 0, .int 0, .int 0, .int 0, .int 0, .ref q12, .ref q13, .ref q14, .ref q15, .ref q16, .ref q17, .ref q18, .ref q19]))] H := hP
  have hD : va_D A [(q0, .inr (10, [.ref q2, .ref q1, .ref q3, .ref q4, .ref q5, .int 0, .ref q6, .ref q7, .ref q8, .ref q9, .ref q10, .ref q11])), (q1, .inr (2, [.int 0, .int 0, .int 0, .int 0, .int 0, .ref q12, .ref q13, .ref q14, .ref q15, .ref q16, .ref q17, .ref q18, .ref q19]))] := hD
  refine lv_if_ne (tgt := 14) hx hb dX10_shift_8 (by decide) (fun c => absurd (by decide) c) (fun _ => ?_)
  refine lv_ldc (v := (-1000000001)) hx hb hown (hts (.constant RX10 178 (-1000000001)) (List.mem_cons_of_mem _ (List.mem_append_left _ (List.mem_append_left _ (List.mem_append_left _ (List.mem_append_left _ (List.mem_append_left _ (List.mem_of_getElem? (i := 1) rfl)))))))) dX10_shift_11 ?_
  exact ms_iret hx hb hr hlk () rfl hP hD hS (Nat.le_of_ble_eq_true rfl) (Nat.le_of_ble_eq_true rfl) dX10_shift_13
set_option maxHeartbeats 4000000 in
set_option maxRecDepth 100000 in
theorem cX11_shift_1 (l : Launch) (D : va_G) (cA : Nat → ClassId) (q0 q1 q2 q3 q4 q5 q6 q7 q8 q9 q10 q11 q12 q13 q14 q15 q16 q17 q18 : Nat) (a0 : Int32) (a1 : Int32) : ms_Mi l yX11_shift wsX11_shift ({ frames := 2, cells := 0, slots := 0, locals := 46 } : Room) D cA [.ref q0, .int a0, .int a1] [(q0, .inr (11, [.ref q1, .ref q2, .ref q3, .ref q4, .int 0, .ref q5, .ref q6, .long 0, .ref q7, .int 0, .int (-1), .ref q8, .ref q9, .int 0, .ref q10, .int 0, .int 0, .int 0, .int 0, .int 0, .int 0, .int 0, .ref q11, .ref q12, .ref q13, .int 0, .ref q14, .ref q15, .ref q16, .ref q17, .int 0, .ref q18])), (q1, .inl (cA 0, 68, .inl ms_z))] (fun (r : Int32) (_ : Unit) => r = (-1000000001)) (fun (_ : Unit) => [(q0, .inr (11, [.ref q1, .ref q2, .ref q3, .ref q4, .int 0, .ref q5, .ref q6, .long 0, .ref q7, .int 0, .int (-1), .ref q8, .ref q9, .int 0, .ref q10, .int 0, .int 0, .int 0, .int 0, .int 0, .int 0, .int 0, .ref q11, .ref q12, .ref q13, .int 0, .ref q14, .ref q15, .ref q16, .ref q17, .int 0, .ref q18])), (q1, .inl (cA 0, 68, .inl ms_z))]) := by
  refine ms_Mi_of (cc := cX11_shift) (maxL := 3) (ret := (some .int)) (by decide) rfl (Nat.le_of_ble_eq_true rfl) ?_
  intro p e s m args below meth c A ls hB hE hA hP hD hS hl
  obtain ⟨hx, hb, hr, hml, hown, hts, hlk, hnm⟩ := hB
  have hown : s.vm.findClass RX11 = some m.cls := hown
  have hl : lv_has ls 3 [(0, .ref q0), (1, .int a0), (2, .int a1)] := hl
  refine lv_aload_n hx hb dX11_shift_0 rfl (lv_at hl 0 rfl) ?_
  refine lv_iload_n hx hb dX11_shift_1 rfl (lv_at hl 1 rfl) ?_
  refine ms_cVi (qc := (RX11, TX11, 32)) (wc := [(q0, .inr (11, [.ref q1, .ref q2, .ref q3, .ref q4, .int 0, .ref q5, .ref q6, .long 0, .ref q7, .int 0, .int (-1), .ref q8, .ref q9, .int 0, .ref q10, .int 0, .int 0, .int 0, .int 0, .int 0, .int 0, .int 0, .ref q11, .ref q12, .ref q13, .int 0, .ref q14, .ref q15, .ref q16, .ref q17, .int 0, .ref q18])), (q1, .inl (cA 0, 68, .inl ms_z))]) (wr := []) ⟨hx, hb, hml, hown, hts⟩ hE (cX11_isRoad_1 l D cA q0 q1 q2 q3 q4 q5 q6 q7 q8 q9 q10 q11 q12 q13 q14 q15 q16 q17 q18 a0) (cwV 1 hts gX11_shift_X11_isRoad rfl rfl rfl (by decide +kernel) ⟨Nat.le_of_ble_eq_true rfl, Nat.le_of_ble_eq_true rfl⟩) hP hD hS hA [0, 1] [] rfl rfl rfl rfl (by decide) 0 11 rfl rfl rfl hl.1 rfl (Nat.le_of_ble_eq_true rfl) dX11_shift_2 ⟨Nat.le_of_ble_eq_true rfl, Nat.le_of_ble_eq_true rfl⟩ (fun r2 u1 H locs hp hP hD hS => ?_)
  subst hp
  have hP : va_P D vwCl [(q0, .inr (11, [.ref q1, .ref q2, .ref q3, .ref q4, .int 0, .ref q5, .ref q6, .long 0, .ref q7, .int 0, .int (-1), .ref q8, .ref q9, .int 0, .ref q10, .int 0, .int 0, .int 0, .int 0, .int 0, .int 0, .int 0, .ref q11, .ref q12, .ref q13, .int 0, .ref q14, .ref q15, .ref q16, .ref q17, .int 0, .ref q18])), (q1, .inl (cA 0, 68, .inl ms_z))] H := hP
  have hD : va_D A [(q0, .inr (11, [.ref q1, .ref q2, .ref q3, .ref q4, .int 0, .ref q5, .ref q6, .long 0, .ref q7, .int 0, .int (-1), .ref q8, .ref q9, .int 0, .ref q10, .int 0, .int 0, .int 0, .int 0, .int 0, .int 0, .int 0, .ref q11, .ref q12, .ref q13, .int 0, .ref q14, .ref q15, .ref q16, .ref q17, .int 0, .ref q18])), (q1, .inl (cA 0, 68, .inl ms_z))] := hD
  refine lv_if_ne (tgt := 11) hx hb dX11_shift_5 (by decide) (fun c => absurd (by decide) c) (fun _ => ?_)
  refine lv_ldc (v := (-1000000001)) hx hb hown (hts (.constant RX11 173 (-1000000001)) (List.mem_cons_of_mem _ (List.mem_append_left _ (List.mem_append_left _ (List.mem_of_getElem? (i := 0) rfl))))) dX11_shift_8 ?_
  exact ms_iret hx hb hr hlk () rfl hP hD hS (Nat.le_of_ble_eq_true rfl) (Nat.le_of_ble_eq_true rfl) dX11_shift_10
