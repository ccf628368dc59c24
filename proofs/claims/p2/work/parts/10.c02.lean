set_option maxHeartbeats 4000000 in
set_option maxRecDepth 100000 in
theorem kX3_canHold_41 (l : Launch) (D : va_G) (cA : Nat → ClassId) (q0 q1 q2 q3 q4 q5 q6 q7 q8 q9 q10 q11 : Nat) (s1_0 : Int32) (s1_1 : Int32) (s1_2 : Int32) (s1_3 : Int32) (s1_4 : Int32) (f2 : Nat → Int32) (f3 : Nat → Int32) (f4 : Nat → Int32) (f5 : Nat → Int32) (a0 : Int32) (s1_0l : 0 ≤ s1_0.toInt) (s1_0u : s1_0.toInt ≤ 6) (s1_1l : 0 ≤ s1_1.toInt) (s1_1u : s1_1.toInt ≤ 4) (s1_2l : 0 ≤ s1_2.toInt) (s1_2u : s1_2.toInt ≤ 9) (s1_3l : 0 ≤ s1_3.toInt) (s1_3u : s1_3.toInt ≤ 9) (s1_4l : 0 ≤ s1_4.toInt) (s1_4u : s1_4.toInt ≤ 6) (f4_0 : rg_S f4 0 6 0 999) (f5_0 : rg_S f5 0 6 0 2) (a0l : 0 ≤ a0.toInt) (a0u : a0.toInt ≤ 4) : ms_Mi l yX3_canHold wsX3_canHold ({ frames := 2, cells := 0, slots := 0, locals := 63 } : Room) D cA [.ref q0, .ref q1, .int 0, .int a0] [(q0, .inr (3, [.ref q6, .ref q3])), (q1, .inr (2, [.int s1_0, .int s1_1, .int s1_2, .int s1_3, .int s1_4, .ref q7, .ref q8, .ref q9, .ref q10, .ref q11, .ref q5, .ref q2, .ref q4])), (q2, .inl (cA 0, 6, .inl f2)), (q3, .inl (cA 0, 6, .inl f3)), (q4, .inl (cA 0, 6, .inl f4)), (q5, .inl (cA 0, 6, .inl f5))] (fun (r : Int32) (_ : Unit) => (r = 0 ∧ (1 ≤ s1_4.toInt ∧ s1_4.toInt ≤ 6) ∧ True) ∨ (r = 1 ∧ True)) (fun (_ : Unit) => [(q0, .inr (3, [.ref q6, .ref q3])), (q1, .inr (2, [.int s1_0, .int s1_1, .int s1_2, .int s1_3, .int s1_4, .ref q7, .ref q8, .ref q9, .ref q10, .ref q11, .ref q5, .ref q2, .ref q4])), (q2, .inl (cA 0, 6, .inl f2)), (q3, .inl (cA 0, 6, .inl f3)), (q4, .inl (cA 0, 6, .inl f4)), (q5, .inl (cA 0, 6, .inl f5))]) := by
  refine ms_Mi_of (cc := cX3_canHold) (maxL := 6) (ret := (some .boolean)) (by decide) rfl (Nat.le_of_ble_eq_true rfl) ?_
  intro p e s m args below meth c A ls hB hE hA hP hD hS hl
  obtain ⟨hx, hb, hr, hml, hown, hts, hlk, hnm⟩ := hB
  have hown : s.vm.findClass RX3 = some m.cls := hown
  have hnX2 : ∀ w ∈ u_ws RX2 TX2 13, w ∈ wsX3_canHold := fun _ h => List.mem_cons_of_mem _ (List.mem_append_left _ (List.mem_append_right _ (h)))
  have hnX3 : ∀ w ∈ u_ws RX3 TX3 2, w ∈ wsX3_canHold := fun _ h => List.mem_cons_of_mem _ (List.mem_append_right _ (h))
  have hl : lv_has ls 6 [(0, .ref q0), (1, .ref q1), (2, .int 0), (3, .int a0)] := hl
  refine lv_iconst (v := 0) hx hb dX3_canHold_0 (by decide) ?_
  refine lv_istore (lv' := [(4, .int 0), (0, .ref q0), (1, .ref q1), (2, .int 0), (3, .int a0)]) hx hb dX3_canHold_1 hl (by decide) rfl (fun ls hl => ?_)
  have lp4 : ∀ (n5 : Nat) (x1 : Int32) (H : Heap) (locs : List Loc) (ls : Array Slot), 0 ≤ x1.toInt → x1.toInt ≤ 6 → 6 + 1 ≤ x1.toInt + (n5 : Int) → va_P D vwCl [(q0, .inr (3, [.ref q6, .ref q3])), (q1, .inr (2, [.int s1_0, .int s1_1, .int s1_2, .int s1_3, .int s1_4, .ref q7, .ref q8, .ref q9, .ref q10, .ref q11, .ref q5, .ref q2, .ref q4])), (q2, .inl (cA 0, 6, .inl f2)), (q3, .inl (cA 0, 6, .inl f3)), (q4, .inl (cA 0, 6, .inl f4)), (q5, .inl (cA 0, 6, .inl f5))] H → va_D A [(q0, .inr (3, [.ref q6, .ref q3])), (q1, .inr (2, [.int s1_0, .int s1_1, .int s1_2, .int s1_3, .int s1_4, .ref q7, .ref q8, .ref q9, .ref q10, .ref q11, .ref q5, .ref q2, .ref q4])), (q2, .inl (cA 0, 6, .inl f2)), (q3, .inl (cA 0, 6, .inl f3)), (q4, .inl (cA 0, 6, .inl f4)), (q5, .inl (cA 0, 6, .inl f5))] → va_S A s.heap H locs → lv_has ls 6 [(4, .int x1), (0, .ref q0), (1, .ref q1), (2, .int 0), (3, .int a0)] → W p l e ({ frames := 2, cells := 0, slots := 0, locals := 63 } : Room) s m args below meth c H locs 0 0 (MQ below (ms_Qi D A (fun (r : Int32) (_ : Unit) => (r = 0 ∧ (1 ≤ s1_4.toInt ∧ s1_4.toInt ≤ 6) ∧ True) ∨ (r = 1 ∧ True)) (fun (_ : Unit) => [(q0, .inr (3, [.ref q6, .ref q3])), (q1, .inr (2, [.int s1_0, .int s1_1, .int s1_2, .int s1_3, .int s1_4, .ref q7, .ref q8, .ref q9, .ref q10, .ref q11, .ref q5, .ref q2, .ref q4])), (q2, .inl (cA 0, 6, .inl f2)), (q3, .inl (cA 0, 6, .inl f3)), (q4, .inl (cA 0, 6, .inl f4)), (q5, .inl (cA 0, 6, .inl f5))])) args s 0 0 A) (F0 m 3 ls []) := by
    intro n5
    induction n5 with
    | zero => intro x1 H locs ls l2 u3  hm7; exact (rg_m0 hm7 u3).elim
    | succ n5 ih6 =>
      intro x1 H locs ls l2 u3  hm7 hP hD hS hl
      refine lv_iload hx hb dX3_canHold_3 (lv_at hl 0 rfl) ?_
      refine lv_aload_n hx hb dX3_canHold_5 rfl (lv_at hl 2 rfl) ?_
      refine va_get (D := D) (ci := 2) (v := .int s1_4) (C := RX2) (T := TX2) (N := 13) hx hb hts hnX2 hown hE.1 hP 1 rfl rfl 4 (by decide) (hts (.fieldLink RX3 18 "MovedStones$Land" "treaties" "I") (List.mem_cons_of_mem _ (List.mem_append_left _ (List.mem_append_left _ (List.mem_of_getElem? (i := 0) rfl))))) (fun _ h9 => h9) rfl dX3_canHold_6 ?_
      refine lv_icmp_ge (tgt := 57) hx hb dX3_canHold_9 (by decide) (fun c8 => ?_) (fun c8 => ?_)
      · refine lv_iconst (v := 1) hx hb dX3_canHold_57 (by decide) ?_
        exact ms_zret hx hb hr rfl hlk () (Or.inr ⟨rfl, trivial⟩) hP hD hS (Nat.le_of_ble_eq_true rfl) (Nat.le_of_ble_eq_true rfl) dX3_canHold_58
      · have h9 : x1.toInt ≤ 5 := rg_lt_hi (rg_nle c8) s1_4u (by decide)
        have h10 : 1 ≤ s1_4.toInt := rg_lt_lo (rg_nle c8) l2 (by decide)
        refine lv_aload_n hx hb dX3_canHold_12 rfl (lv_at hl 2 rfl) ?_
        refine va_get (D := D) (ci := 2) (v := .ref q2) (C := RX2) (T := TX2) (N := 13) hx hb hts hnX2 hown hE.1 hP 1 rfl rfl 11 (by decide) (hts (.fieldLink RX3 24 "MovedStones$Land" "bound" "[I") (List.mem_cons_of_mem _ (List.mem_append_left _ (List.mem_append_left _ (List.mem_of_getElem? (i := 1) rfl))))) (fun _ h9 => h9) rfl dX3_canHold_13 ?_
        refine lv_iload hx hb dX3_canHold_16 (lv_at hl 0 rfl) ?_
        refine rg_iald0 hx hb hE hP (q0 := 2) rfl l2 h9 (by decide) dX3_canHold_18 (fun v11 ev11 => ?_)
        refine lv_iload_n hx hb dX3_canHold_19 rfl (lv_at hl 3 rfl) ?_
        refine lv_ishr hx hb dX3_canHold_20 ?_
        refine lv_topi (fun v12 ev12 => ?_)
        have jn16 : ∀ (x13 : Int32) (H : Heap) (locs : List Loc) (ls : Array Slot), 0 ≤ x13.toInt → x13.toInt ≤ 4 → va_P D vwCl [(q0, .inr (3, [.ref q6, .ref q3])), (q1, .inr (2, [.int s1_0, .int s1_1, .int s1_2, .int s1_3, .int s1_4, .ref q7, .ref q8, .ref q9, .ref q10, .ref q11, .ref q5, .ref q2, .ref q4])), (q2, .inl (cA 0, 6, .inl f2)), (q3, .inl (cA 0, 6, .inl f3)), (q4, .inl (cA 0, 6, .inl f4)), (q5, .inl (cA 0, 6, .inl f5))] H → va_D A [(q0, .inr (3, [.ref q6, .ref q3])), (q1, .inr (2, [.int s1_0, .int s1_1, .int s1_2, .int s1_3, .int s1_4, .ref q7, .ref q8, .ref q9, .ref q10, .ref q11, .ref q5, .ref q2, .ref q4])), (q2, .inl (cA 0, 6, .inl f2)), (q3, .inl (cA 0, 6, .inl f3)), (q4, .inl (cA 0, 6, .inl f4)), (q5, .inl (cA 0, 6, .inl f5))] → va_S A s.heap H locs → lv_has ls 6 [(4, .int x1), (0, .ref q0), (1, .ref q1), (2, .int 0), (3, .int a0)] → W p l e ({ frames := 2, cells := 0, slots := 0, locals := 63 } : Room) s m args below meth c H locs 0 0 (MQ below (ms_Qi D A (fun (r : Int32) (_ : Unit) => (r = 0 ∧ (1 ≤ s1_4.toInt ∧ s1_4.toInt ≤ 6) ∧ True) ∨ (r = 1 ∧ True)) (fun (_ : Unit) => [(q0, .inr (3, [.ref q6, .ref q3])), (q1, .inr (2, [.int s1_0, .int s1_1, .int s1_2, .int s1_3, .int s1_4, .ref q7, .ref q8, .ref q9, .ref q10, .ref q11, .ref q5, .ref q2, .ref q4])), (q2, .inl (cA 0, 6, .inl f2)), (q3, .inl (cA 0, 6, .inl f3)), (q4, .inl (cA 0, 6, .inl f4)), (q5, .inl (cA 0, 6, .inl f5))])) args s 0 0 A) (F0 m 29 ls [.int x13]) := by
          intro x13 H locs ls l14 u15  hP hD hS hl
          refine lv_istore (lv' := [(5, .int x13), (4, .int x1), (0, .ref q0), (1, .ref q1), (2, .int 0), (3, .int a0)]) hx hb dX3_canHold_29 hl (by decide) rfl (fun ls hl => ?_)
          refine lv_aload_n hx hb dX3_canHold_31 rfl (lv_at hl 3 rfl) ?_
          refine lv_iload hx hb dX3_canHold_32 (lv_at hl 1 rfl) ?_
          refine lv_aload_n hx hb dX3_canHold_34 rfl (lv_at hl 2 rfl) ?_
          refine va_get (D := D) (ci := 3) (v := .ref q3) (C := RX3) (T := TX3) (N := 2) hx hb hts hnX3 hown hE.1 hP 0 rfl rfl 1 (by decide) (hts (.fieldLink RX3 15 "MovedStones$Mender" "sums" "[I") (List.mem_cons_of_mem _ (List.mem_append_left _ (List.mem_append_left _ (List.mem_of_getElem? (i := 2) rfl))))) (fun _ h9 => h9) rfl dX3_canHold_35 ?_
          refine lv_iload hx hb dX3_canHold_38 (lv_at hl 1 rfl) ?_
          refine rg_iald0 hx hb hE hP (q0 := 3) rfl l2 h9 (by decide) dX3_canHold_40 (fun v17 ev17 => ?_)
          refine ms_cVi (qc := (RX2, TX2, 13)) (wc := [(q1, .inr (2, [.int s1_0, .int s1_1, .int s1_2, .int s1_3, .int s1_4, .ref q7, .ref q8, .ref q9, .ref q10, .ref q11, .ref q5, .ref q2, .ref q4])), (q4, .inl (cA 0, 6, .inl f4)), (q5, .inl (cA 0, 6, .inl f5))]) (wr := [(q0, .inr (3, [.ref q6, .ref q3])), (q2, .inl (cA 0, 6, .inl f2)), (q3, .inl (cA 0, 6, .inl f3))]) ⟨hx, hb, hml, hown, hts⟩ hE (kX2_missing_1 l D cA q1 q4 q5 q7 q8 q9 q10 q11 q2 s1_0 s1_1 s1_2 s1_3 s1_4 f4 f5 x1 v17 (rg_le s1_0l (by decide)) (rg_ge s1_0u (by decide)) (rg_le s1_1l (by decide)) (rg_ge s1_1u (by decide)) (rg_le s1_2l (by decide)) (rg_ge s1_2u (by decide)) (rg_le s1_3l (by decide)) (rg_ge s1_3u (by decide)) (rg_le h10 (by decide)) (rg_ge s1_4u (by decide)) (rg_Smono f4_0 (by decide) (by decide) (by decide) (by decide)) (rg_Smono f5_0 (by decide) (by decide) (by decide) (by decide)) (rg_le l2 (by decide)) (rg_ge h9 (by decide))) (cwV 2 hts gX3_canHold_X2_missing rfl rfl rfl (by decide +kernel) ⟨Nat.le_of_ble_eq_true rfl, Nat.le_of_ble_eq_true rfl⟩) hP hD hS hA [1, 4, 5] [0, 2, 3] rfl rfl rfl rfl (by decide) 0 2 rfl rfl rfl hl.1 rfl (Nat.le_of_ble_eq_true rfl) dX3_canHold_41 ⟨Nat.le_of_ble_eq_true rfl, Nat.le_of_ble_eq_true rfl⟩ (fun r19 u18 H locs hp hP hD hS => ?_)
          obtain ⟨⟨r19l, r19u⟩, -⟩ := hp
          have hP : va_P D vwCl [(q0, .inr (3, [.ref q6, .ref q3])), (q2, .inl (cA 0, 6, .inl f2)), (q3, .inl (cA 0, 6, .inl f3)), (q1, .inr (2, [.int s1_0, .int s1_1, .int s1_2, .int s1_3, .int s1_4, .ref q7, .ref q8, .ref q9, .ref q10, .ref q11, .ref q5, .ref q2, .ref q4])), (q4, .inl (cA 0, 6, .inl f4)), (q5, .inl (cA 0, 6, .inl f5))] H := hP
          have hD : va_D A [(q0, .inr (3, [.ref q6, .ref q3])), (q2, .inl (cA 0, 6, .inl f2)), (q3, .inl (cA 0, 6, .inl f3)), (q1, .inr (2, [.int s1_0, .int s1_1, .int s1_2, .int s1_3, .int s1_4, .ref q7, .ref q8, .ref q9, .ref q10, .ref q11, .ref q5, .ref q2, .ref q4])), (q4, .inl (cA 0, 6, .inl f4)), (q5, .inl (cA 0, 6, .inl f5))] := hD
          refine lv_iload hx hb dX3_canHold_44 (lv_at hl 0 rfl) ?_
          refine lv_icmp_le (tgt := 51) hx hb dX3_canHold_46 (by decide) (fun c20 => ?_) (fun c20 => ?_)
          · have h21 : r19.toInt ≤ 4 := rg_le_hi c20 u15
            refine rg_iinc (lo := 1) (hi := 6) (fun z => [(4, .int z), (5, .int x13), (0, .ref q0), (1, .ref q1), (2, .int 0), (3, .int a0)]) hx hb dX3_canHold_51 hl (k := 1) rfl (by decide) l2 h9 (by decide) (fun _ => rfl) (fun v22 ev22 lv22 uv22 ls hl => ?_)
            have hl : lv_has ls 6 [(4, .int v22), (5, .int x13), (0, .ref q0), (1, .ref q1), (2, .int 0), (3, .int a0)] := hl
            refine lv_goto (tgt := 3) hx hb dX3_canHold_54 (by decide) ?_
            exact ih6 v22 _ _ _ (rg_le lv22 (by decide)) (rg_ge uv22 (by decide))  (rg_ms hm7 ev22 (by decide)) (hP.sub [0, 3, 1, 2, 4, 5] rfl) (hD.sub [0, 3, 1, 2, 4, 5] (by decide) rfl) hS (lv_sub hl [0, 2, 3, 4, 5] rfl)
          · have h23 : 1 ≤ r19.toInt := rg_lt_lo (rg_nle c20) l14 (by decide)
            refine lv_iconst (v := 0) hx hb dX3_canHold_49 (by decide) ?_
            exact ms_zret hx hb hr rfl hlk () (Or.inl ⟨rfl, ⟨rg_le h10 (by decide), rg_ge s1_4u (by decide)⟩, trivial⟩) (hP.sub [0, 3, 1, 2, 4, 5] rfl) (hD.sub [0, 3, 1, 2, 4, 5] (by decide) rfl) hS (Nat.le_of_ble_eq_true rfl) (Nat.le_of_ble_eq_true rfl) dX3_canHold_50
        refine lv_if_ne (tgt := 28) hx hb dX3_canHold_21 (by decide) (fun c24 => ?_) (fun c24 => ?_)
        · refine lv_iload_n hx hb dX3_canHold_28 rfl (lv_at hl 4 rfl) ?_
          exact jn16 a0 _ _ _ (rg_le a0l (by decide)) (rg_ge a0u (by decide))  hP hD hS (lv_sub hl [0, 1, 2, 3, 4] rfl)
        · have h25 : 0 ≤ v12.toInt := rg_eq_lo c24 (by decide : (0 : Int) ≤ (0 : Int32).toInt)
          have h26 : v12.toInt ≤ 0 := rg_eq_hi c24 (by decide : (0 : Int32).toInt ≤ 0)
          refine lv_iconst (v := 0) hx hb dX3_canHold_24 (by decide) ?_
          refine lv_goto (tgt := 29) hx hb dX3_canHold_25 (by decide) ?_
          exact jn16 0 _ _ _ (rg_le (by decide : (0 : Int) ≤ (0 : Int32).toInt) (by decide)) (rg_ge (by decide : (0 : Int32).toInt ≤ 0) (by decide))  hP hD hS (lv_sub hl [0, 1, 2, 3, 4] rfl)
  exact lp4 7 0 _ _ _ (rg_le (by decide : (0 : Int) ≤ (0 : Int32).toInt) (by decide)) (rg_ge (by decide : (0 : Int32).toInt ≤ 0) (by decide))  (rg_mi (by decide : (0 : Int) ≤ (0 : Int32).toInt) (by decide)) hP hD hS (lv_sub hl [0, 1, 2, 3, 4] rfl)
set_option maxHeartbeats 4000000 in
set_option maxRecDepth 100000 in
theorem kX10_isMiles_1 (l : Launch) (D : va_G) (cA : Nat → ClassId) (a0 : Int32) : ms_Mi l yX10_isMiles wsX10_isMiles ({ frames := 0, cells := 0, slots := 0, locals := 0 } : Room) D cA [.int a0] [] (fun (r : Int32) (_ : Unit) => (r = 0 ∧ True) ∨ (r = 1 ∧ (1 ≤ a0.toInt ∧ a0.toInt ≤ 999) ∧ True)) (fun (_ : Unit) => []) := by
  refine ms_Mi_of (cc := cX10_isMiles) (maxL := 1) (ret := (some .boolean)) (by decide) rfl (Nat.le_of_ble_eq_true rfl) ?_
  intro p e s m args below meth c A ls hB hE hA hP hD hS hl
  obtain ⟨hx, hb, hr, hml, hown, hts, hlk, hnm⟩ := hB
  have hown : s.vm.findClass RX10 = some m.cls := hown
  have hl : lv_has ls 1 [(0, .int a0)] := hl
  refine lv_iload_n hx hb dX10_isMiles_0 rfl (lv_at hl 0 rfl) ?_
  refine lv_iconst (v := 1) hx hb dX10_isMiles_1 (by decide) ?_
  refine lv_icmp_lt (tgt := 16) hx hb dX10_isMiles_2 (by decide) (fun c1 => ?_) (fun c1 => ?_)
  · have h2 : a0.toInt ≤ 0 := rg_lt_hi c1 (by decide : (1 : Int32).toInt ≤ 1) (by decide)
    refine lv_iconst (v := 0) hx hb dX10_isMiles_16 (by decide) ?_
    exact ms_zret hx hb hr rfl hlk () (Or.inl ⟨rfl, trivial⟩) hP hD hS (Nat.le_of_ble_eq_true rfl) (Nat.le_of_ble_eq_true rfl) dX10_isMiles_17
  · have h3 : 1 ≤ a0.toInt := rg_le_lo (rg_nlt c1) (by decide : (1 : Int) ≤ (1 : Int32).toInt)
    refine lv_iload_n hx hb dX10_isMiles_5 rfl (lv_at hl 0 rfl) ?_
    refine lv_sipush (v := 999) hx hb dX10_isMiles_6 (by decide) ?_
    refine lv_icmp_gt (tgt := 16) hx hb dX10_isMiles_9 (by decide) (fun c4 => ?_) (fun c4 => ?_)
    · have h5 : 1000 ≤ a0.toInt := rg_lt_lo c4 (by decide : (999 : Int) ≤ (999 : Int32).toInt) (by decide)
      refine lv_iconst (v := 0) hx hb dX10_isMiles_16 (by decide) ?_
      exact ms_zret hx hb hr rfl hlk () (Or.inl ⟨rfl, trivial⟩) hP hD hS (Nat.le_of_ble_eq_true rfl) (Nat.le_of_ble_eq_true rfl) dX10_isMiles_17
    · have h6 : a0.toInt ≤ 999 := rg_le_hi (rg_nlt c4) (by decide : (999 : Int32).toInt ≤ 999)
      refine lv_iconst (v := 1) hx hb dX10_isMiles_12 (by decide) ?_
      refine lv_goto (tgt := 17) hx hb dX10_isMiles_13 (by decide) ?_
      exact ms_zret hx hb hr rfl hlk () (Or.inr ⟨rfl, ⟨rg_le h3 (by decide), rg_ge h6 (by decide)⟩, trivial⟩) hP hD hS (Nat.le_of_ble_eq_true rfl) (Nat.le_of_ble_eq_true rfl) dX10_isMiles_17
set_option maxHeartbeats 4000000 in
set_option maxRecDepth 100000 in
theorem kX3_alter_1 (l : Launch) (D : va_G) (cA : Nat → ClassId) (q0 q1 q2 q3 q4 q5 q6 q7 q8 q9 q10 q11 : Nat) (s1_0 : Int32) (s1_1 : Int32) (s1_2 : Int32) (s1_3 : Int32) (s1_4 : Int32) (f2 : Nat → Int32) (f3 : Nat → Int32) (a0 : Int32) (s1_0l : 0 ≤ s1_0.toInt) (s1_0u : s1_0.toInt ≤ 6) (s1_1l : 0 ≤ s1_1.toInt) (s1_1u : s1_1.toInt ≤ 4) (s1_2l : 0 ≤ s1_2.toInt) (s1_2u : s1_2.toInt ≤ 9) (s1_3l : 0 ≤ s1_3.toInt) (s1_3u : s1_3.toInt ≤ 9) (s1_4l : 0 ≤ s1_4.toInt) (s1_4u : s1_4.toInt ≤ 6) : ms_Mv l yX3_alter wsX3_alter ({ frames := 0, cells := 0, slots := 0, locals := 0 } : Room) D cA [.ref q0, .ref q1, .int 0, .int a0] [(q0, .inr (3, [.ref q4, .ref q3])), (q1, .inr (2, [.int s1_0, .int s1_1, .int s1_2, .int s1_3, .int s1_4, .ref q5, .ref q6, .ref q7, .ref q8, .ref q9, .ref q10, .ref q2, .ref q11])), (q2, .inl (cA 0, 6, .inl f2)), (q3, .inl (cA 0, 6, .inl f3))] (fun (u : ((Nat → Int32) × (Nat → Nat → Int32) × (Nat → Int64))) => True) (fun (u : ((Nat → Int32) × (Nat → Nat → Int32) × (Nat → Int64))) => [(q0, .inr (3, [.ref q4, .ref q3])), (q1, .inr (2, [.int s1_0, .int s1_1, .int s1_2, .int s1_3, .int s1_4, .ref q5, .ref q6, .ref q7, .ref q8, .ref q9, .ref q10, .ref q2, .ref q11])), (q2, .inl (cA 0, 6, .inl f2)), (q3, .inl (cA 0, 6, .inl (u.2.1 0)))]) := by
  refine ms_Mv_of (cc := cX3_alter) (maxL := 5) (ret := none) (by decide) rfl (Nat.le_of_ble_eq_true rfl) ?_
  intro p e s m args below meth c A ls hB hE hA hP hD hS hl
  obtain ⟨hx, hb, hr, hml, hown, hts, hlk, hnm⟩ := hB
  have hown : s.vm.findClass RX3 = some m.cls := hown
  have hnX2 : ∀ w ∈ u_ws RX2 TX2 13, w ∈ wsX3_alter := fun _ h => List.mem_cons_of_mem _ (List.mem_append_left _ (List.mem_append_right _ (h)))
  have hnX3 : ∀ w ∈ u_ws RX3 TX3 2, w ∈ wsX3_alter := fun _ h => List.mem_cons_of_mem _ (List.mem_append_right _ (h))
  have hl : lv_has ls 5 [(0, .ref q0), (1, .ref q1), (2, .int 0), (3, .int a0)] := hl
  refine lv_iconst (v := 0) hx hb dX3_alter_0 (by decide) ?_
  refine lv_istore (lv' := [(4, .int 0), (0, .ref q0), (1, .ref q1), (2, .int 0), (3, .int a0)]) hx hb dX3_alter_1 hl (by decide) rfl (fun ls hl => ?_)
  have lp6 : ∀ (n7 : Nat) (x1 : Int32) (w4 : Nat → Int32) (H : Heap) (locs : List Loc) (ls : Array Slot), 0 ≤ x1.toInt → x1.toInt ≤ 6 → rg_F w4 f3 0 5 → 6 + 1 ≤ x1.toInt + (n7 : Int) → va_P D vwCl [(q0, .inr (3, [.ref q4, .ref q3])), (q1, .inr (2, [.int s1_0, .int s1_1, .int s1_2, .int s1_3, .int s1_4, .ref q5, .ref q6, .ref q7, .ref q8, .ref q9, .ref q10, .ref q2, .ref q11])), (q2, .inl (cA 0, 6, .inl f2)), (q3, .inl (cA 0, 6, .inl w4))] H → va_D A [(q0, .inr (3, [.ref q4, .ref q3])), (q1, .inr (2, [.int s1_0, .int s1_1, .int s1_2, .int s1_3, .int s1_4, .ref q5, .ref q6, .ref q7, .ref q8, .ref q9, .ref q10, .ref q2, .ref q11])), (q2, .inl (cA 0, 6, .inl f2)), (q3, .inl (cA 0, 6, .inl w4))] → va_S A s.heap H locs → lv_has ls 5 [(4, .int x1), (0, .ref q0), (1, .ref q1), (2, .int 0), (3, .int a0)] → W p l e ({ frames := 0, cells := 0, slots := 0, locals := 0 } : Room) s m args below meth c H locs 0 0 (MQ below (ms_Qv D A (fun (u : ((Nat → Int32) × (Nat → Nat → Int32) × (Nat → Int64))) => True) (fun (u : ((Nat → Int32) × (Nat → Nat → Int32) × (Nat → Int64))) => [(q0, .inr (3, [.ref q4, .ref q3])), (q1, .inr (2, [.int s1_0, .int s1_1, .int s1_2, .int s1_3, .int s1_4, .ref q5, .ref q6, .ref q7, .ref q8, .ref q9, .ref q10, .ref q2, .ref q11])), (q2, .inl (cA 0, 6, .inl f2)), (q3, .inl (cA 0, 6, .inl (u.2.1 0)))])) args s 0 0 A) (F0 m 3 ls []) := by
    intro n7
    induction n7 with
    | zero => intro x1 w4 H locs ls l2 u3 fr5  hm9; exact (rg_m0 hm9 u3).elim
    | succ n7 ih8 =>
      intro x1 w4 H locs ls l2 u3 fr5  hm9 hP hD hS hl
      refine lv_iload hx hb dX3_alter_3 (lv_at hl 0 rfl) ?_
      refine lv_aload_n hx hb dX3_alter_5 rfl (lv_at hl 2 rfl) ?_
      refine va_get (D := D) (ci := 2) (v := .int s1_4) (C := RX2) (T := TX2) (N := 13) hx hb hts hnX2 hown hE.1 hP 1 rfl rfl 4 (by decide) (hts (.fieldLink RX3 18 "MovedStones$Land" "treaties" "I") (List.mem_cons_of_mem _ (List.mem_append_left _ (List.mem_append_left _ (List.mem_of_getElem? (i := 0) rfl))))) (fun _ h9 => h9) rfl dX3_alter_6 ?_
      refine lv_icmp_ge (tgt := 43) hx hb dX3_alter_9 (by decide) (fun c10 => ?_) (fun c10 => ?_)
      · exact ms_vret hx hb hr hlk (fun i => [].getD i 0, fun i => [w4].getD i ms_z, fun i => [].getD i 0) trivial hP hD hS (Nat.le_of_ble_eq_true rfl) (Nat.le_of_ble_eq_true rfl) dX3_alter_43
      · have h11 : x1.toInt ≤ 5 := rg_lt_hi (rg_nle c10) s1_4u (by decide)
        have h12 : 1 ≤ s1_4.toInt := rg_lt_lo (rg_nle c10) l2 (by decide)
        refine lv_aload_n hx hb dX3_alter_12 rfl (lv_at hl 2 rfl) ?_
        refine va_get (D := D) (ci := 2) (v := .ref q2) (C := RX2) (T := TX2) (N := 13) hx hb hts hnX2 hown hE.1 hP 1 rfl rfl 11 (by decide) (hts (.fieldLink RX3 24 "MovedStones$Land" "bound" "[I") (List.mem_cons_of_mem _ (List.mem_append_left _ (List.mem_append_left _ (List.mem_of_getElem? (i := 1) rfl))))) (fun _ h9 => h9) rfl dX3_alter_13 ?_
        refine lv_iload hx hb dX3_alter_16 (lv_at hl 0 rfl) ?_
        refine rg_iald0 hx hb hE hP (q0 := 2) rfl l2 h11 (by decide) dX3_alter_18 (fun v13 ev13 => ?_)
        refine lv_iload_n hx hb dX3_alter_19 rfl (lv_at hl 3 rfl) ?_
        refine lv_ishr hx hb dX3_alter_20 ?_
        refine lv_topi (fun v14 ev14 => ?_)
        refine lv_iconst (v := 1) hx hb dX3_alter_21 (by decide) ?_
        refine rg_iand1 hx hb dX3_alter_22 (fun v15 ev15 lv15 uv15 => ?_)
        have jn18 : ∀ (w16 : Nat → Int32) (H : Heap) (locs : List Loc) (ls : Array Slot), rg_F w16 f3 0 5 → va_P D vwCl [(q0, .inr (3, [.ref q4, .ref q3])), (q1, .inr (2, [.int s1_0, .int s1_1, .int s1_2, .int s1_3, .int s1_4, .ref q5, .ref q6, .ref q7, .ref q8, .ref q9, .ref q10, .ref q2, .ref q11])), (q2, .inl (cA 0, 6, .inl f2)), (q3, .inl (cA 0, 6, .inl w16))] H → va_D A [(q0, .inr (3, [.ref q4, .ref q3])), (q1, .inr (2, [.int s1_0, .int s1_1, .int s1_2, .int s1_3, .int s1_4, .ref q5, .ref q6, .ref q7, .ref q8, .ref q9, .ref q10, .ref q2, .ref q11])), (q2, .inl (cA 0, 6, .inl f2)), (q3, .inl (cA 0, 6, .inl w16))] → va_S A s.heap H locs → lv_has ls 5 [(4, .int x1), (0, .ref q0), (1, .ref q1), (2, .int 0), (3, .int a0)] → W p l e ({ frames := 0, cells := 0, slots := 0, locals := 0 } : Room) s m args below meth c H locs 0 0 (MQ below (ms_Qv D A (fun (u : ((Nat → Int32) × (Nat → Nat → Int32) × (Nat → Int64))) => True) (fun (u : ((Nat → Int32) × (Nat → Nat → Int32) × (Nat → Int64))) => [(q0, .inr (3, [.ref q4, .ref q3])), (q1, .inr (2, [.int s1_0, .int s1_1, .int s1_2, .int s1_3, .int s1_4, .ref q5, .ref q6, .ref q7, .ref q8, .ref q9, .ref q10, .ref q2, .ref q11])), (q2, .inl (cA 0, 6, .inl f2)), (q3, .inl (cA 0, 6, .inl (u.2.1 0)))])) args s 0 0 A) (F0 m 37 ls []) := by
          intro w16 H locs ls fr17  hP hD hS hl
          refine rg_iinc (lo := 1) (hi := 6) (fun z => [(4, .int z), (0, .ref q0), (1, .ref q1), (2, .int 0), (3, .int a0)]) hx hb dX3_alter_37 hl (k := 0) rfl (by decide) l2 h11 (by decide) (fun _ => rfl) (fun v19 ev19 lv19 uv19 ls hl => ?_)
          have hl : lv_has ls 5 [(4, .int v19), (0, .ref q0), (1, .ref q1), (2, .int 0), (3, .int a0)] := hl
          refine lv_goto (tgt := 3) hx hb dX3_alter_40 (by decide) ?_
          exact ih8 v19 w16 _ _ _ (rg_le lv19 (by decide)) (rg_ge uv19 (by decide)) (rg_Fmono fr17 (by decide))  (rg_ms hm9 ev19 (by decide)) hP hD hS (lv_sub hl [0, 1, 2, 3, 4] rfl)
        refine lv_if_eq (tgt := 37) hx hb dX3_alter_23 (by decide) (fun c20 => ?_) (fun c20 => ?_)
        · have h21 : v15.toInt ≤ 0 := rg_eq_hi c20 (by decide : (0 : Int32).toInt ≤ 0)
          exact jn18 w4 _ _ _ (rg_Fmono fr5 (by decide))  hP hD hS (lv_sub hl [0, 1, 2, 3, 4] rfl)
        · have h22 : 1 ≤ v15.toInt := rg_ne_lo c20 lv15 (by decide : (0 : Int) ≤ (0 : Int32).toInt) (by decide : (0 : Int32).toInt ≤ 0) (by decide)
          refine lv_aload_n hx hb dX3_alter_26 rfl (lv_at hl 1 rfl) ?_
          refine va_get (D := D) (ci := 3) (v := .ref q3) (C := RX3) (T := TX3) (N := 2) hx hb hts hnX3 hown hE.1 hP 0 rfl rfl 1 (by decide) (hts (.fieldLink RX3 15 "MovedStones$Mender" "sums" "[I") (List.mem_cons_of_mem _ (List.mem_append_left _ (List.mem_append_left _ (List.mem_of_getElem? (i := 2) rfl))))) (fun _ h9 => h9) rfl dX3_alter_27 ?_
          refine lv_iload hx hb dX3_alter_30 (lv_at hl 0 rfl) ?_
          refine lv_dup2_11 hx hb dX3_alter_32 rfl rfl ?_
          refine rg_iald0 hx hb hE hP (q0 := 3) rfl l2 h11 (by decide) dX3_alter_33 (fun v23 ev23 => ?_)
          refine lv_iload_n hx hb dX3_alter_34 rfl (lv_at hl 4 rfl) ?_
          refine lv_iadd hx hb dX3_alter_35 ?_
          refine lv_topi (fun v24 ev24 => ?_)
          refine rg_iast hx hb hE hP hD hS (q0 := 3) rfl l2 h11 (by decide) dX3_alter_36 (fun w25 H locs ew25 hP hD hS => ?_)
          have h26 : rg_F w25 f3 0 5 := rg_Ftr (rg_Fst ew25 l2 h11 (by decide)) fr5 (by decide)
          have hP : va_P D vwCl [(q0, .inr (3, [.ref q4, .ref q3])), (q1, .inr (2, [.int s1_0, .int s1_1, .int s1_2, .int s1_3, .int s1_4, .ref q5, .ref q6, .ref q7, .ref q8, .ref q9, .ref q10, .ref q2, .ref q11])), (q2, .inl (cA 0, 6, .inl f2)), (q3, .inl (cA 0, 6, .inl w25))] H := hP
          have hD : va_D A [(q0, .inr (3, [.ref q4, .ref q3])), (q1, .inr (2, [.int s1_0, .int s1_1, .int s1_2, .int s1_3, .int s1_4, .ref q5, .ref q6, .ref q7, .ref q8, .ref q9, .ref q10, .ref q2, .ref q11])), (q2, .inl (cA 0, 6, .inl f2)), (q3, .inl (cA 0, 6, .inl w25))] := hD
          exact jn18 w25 _ _ _ (rg_Fmono h26 (by decide))  hP hD hS (lv_sub hl [0, 1, 2, 3, 4] rfl)
  exact lp6 7 0 f3 _ _ _ (rg_le (by decide : (0 : Int) ≤ (0 : Int32).toInt) (by decide)) (rg_ge (by decide : (0 : Int32).toInt ≤ 0) (by decide)) (rg_Frefl _ _ _)  (rg_mi (by decide : (0 : Int) ≤ (0 : Int32).toInt) (by decide)) hP hD hS (lv_sub hl [0, 1, 2, 3, 4] rfl)
set_option maxHeartbeats 4000000 in
set_option maxRecDepth 100000 in
theorem kX3_canHold_42 (l : Launch) (D : va_G) (cA : Nat → ClassId) (q0 q1 q2 q3 q4 q5 q6 q7 q8 q9 q10 q11 : Nat) (s1_0 : Int32) (s1_1 : Int32) (s1_2 : Int32) (s1_3 : Int32) (s1_4 : Int32) (f2 : Nat → Int32) (f3 : Nat → Int32) (f4 : Nat → Int32) (f5 : Nat → Int32) (a0 : Int32) (s1_0l : 0 ≤ s1_0.toInt) (s1_0u : s1_0.toInt ≤ 6) (s1_1l : 0 ≤ s1_1.toInt) (s1_1u : s1_1.toInt ≤ 4) (s1_2l : 0 ≤ s1_2.toInt) (s1_2u : s1_2.toInt ≤ 9) (s1_3l : 0 ≤ s1_3.toInt) (s1_3u : s1_3.toInt ≤ 9) (s1_4l : 0 ≤ s1_4.toInt) (s1_4u : s1_4.toInt ≤ 6) (f4_0 : rg_S f4 0 6 0 999) (f5_0 : rg_S f5 0 6 0 2) (a0l : (-4) ≤ a0.toInt) (a0u : a0.toInt ≤ 4) : ms_Mi l yX3_canHold wsX3_canHold ({ frames := 2, cells := 0, slots := 0, locals := 63 } : Room) D cA [.ref q0, .ref q1, .int 1, .int a0] [(q0, .inr (3, [.ref q6, .ref q3])), (q1, .inr (2, [.int s1_0, .int s1_1, .int s1_2, .int s1_3, .int s1_4, .ref q7, .ref q8, .ref q9, .ref q10, .ref q11, .ref q5, .ref q2, .ref q4])), (q2, .inl (cA 0, 6, .inl f2)), (q3, .inl (cA 0, 6, .inl f3)), (q4, .inl (cA 0, 6, .inl f4)), (q5, .inl (cA 0, 6, .inl f5))] (fun (r : Int32) (_ : Unit) => (r = 0 ∧ (1 ≤ s1_4.toInt ∧ s1_4.toInt ≤ 6) ∧ True) ∨ (r = 1 ∧ True)) (fun (_ : Unit) => [(q0, .inr (3, [.ref q6, .ref q3])), (q1, .inr (2, [.int s1_0, .int s1_1, .int s1_2, .int s1_3, .int s1_4, .ref q7, .ref q8, .ref q9, .ref q10, .ref q11, .ref q5, .ref q2, .ref q4])), (q2, .inl (cA 0, 6, .inl f2)), (q3, .inl (cA 0, 6, .inl f3)), (q4, .inl (cA 0, 6, .inl f4)), (q5, .inl (cA 0, 6, .inl f5))]) := by
  refine ms_Mi_of (cc := cX3_canHold) (maxL := 6) (ret := (some .boolean)) (by decide) rfl (Nat.le_of_ble_eq_true rfl) ?_
  intro p e s m args below meth c A ls hB hE hA hP hD hS hl
  obtain ⟨hx, hb, hr, hml, hown, hts, hlk, hnm⟩ := hB
  have hown : s.vm.findClass RX3 = some m.cls := hown
  have hnX2 : ∀ w ∈ u_ws RX2 TX2 13, w ∈ wsX3_canHold := fun _ h => List.mem_cons_of_mem _ (List.mem_append_left _ (List.mem_append_right _ (h)))
  have hnX3 : ∀ w ∈ u_ws RX3 TX3 2, w ∈ wsX3_canHold := fun _ h => List.mem_cons_of_mem _ (List.mem_append_right _ (h))
  have hl : lv_has ls 6 [(0, .ref q0), (1, .ref q1), (2, .int 1), (3, .int a0)] := hl
  refine lv_iconst (v := 0) hx hb dX3_canHold_0 (by decide) ?_
  refine lv_istore (lv' := [(4, .int 0), (0, .ref q0), (1, .ref q1), (2, .int 1), (3, .int a0)]) hx hb dX3_canHold_1 hl (by decide) rfl (fun ls hl => ?_)
  have lp4 : ∀ (n5 : Nat) (x1 : Int32) (H : Heap) (locs : List Loc) (ls : Array Slot), 0 ≤ x1.toInt → x1.toInt ≤ 6 → 6 + 1 ≤ x1.toInt + (n5 : Int) → va_P D vwCl [(q0, .inr (3, [.ref q6, .ref q3])), (q1, .inr (2, [.int s1_0, .int s1_1, .int s1_2, .int s1_3, .int s1_4, .ref q7, .ref q8, .ref q9, .ref q10, .ref q11, .ref q5, .ref q2, .ref q4])), (q2, .inl (cA 0, 6, .inl f2)), (q3, .inl (cA 0, 6, .inl f3)), (q4, .inl (cA 0, 6, .inl f4)), (q5, .inl (cA 0, 6, .inl f5))] H → va_D A [(q0, .inr (3, [.ref q6, .ref q3])), (q1, .inr (2, [.int s1_0, .int s1_1, .int s1_2, .int s1_3, .int s1_4, .ref q7, .ref q8, .ref q9, .ref q10, .ref q11, .ref q5, .ref q2, .ref q4])), (q2, .inl (cA 0, 6, .inl f2)), (q3, .inl (cA 0, 6, .inl f3)), (q4, .inl (cA 0, 6, .inl f4)), (q5, .inl (cA 0, 6, .inl f5))] → va_S A s.heap H locs → lv_has ls 6 [(4, .int x1), (0, .ref q0), (1, .ref q1), (2, .int 1), (3, .int a0)] → W p l e ({ frames := 2, cells := 0, slots := 0, locals := 63 } : Room) s m args below meth c H locs 0 0 (MQ below (ms_Qi D A (fun (r : Int32) (_ : Unit) => (r = 0 ∧ (1 ≤ s1_4.toInt ∧ s1_4.toInt ≤ 6) ∧ True) ∨ (r = 1 ∧ True)) (fun (_ : Unit) => [(q0, .inr (3, [.ref q6, .ref q3])), (q1, .inr (2, [.int s1_0, .int s1_1, .int s1_2, .int s1_3, .int s1_4, .ref q7, .ref q8, .ref q9, .ref q10, .ref q11, .ref q5, .ref q2, .ref q4])), (q2, .inl (cA 0, 6, .inl f2)), (q3, .inl (cA 0, 6, .inl f3)), (q4, .inl (cA 0, 6, .inl f4)), (q5, .inl (cA 0, 6, .inl f5))])) args s 0 0 A) (F0 m 3 ls []) := by
    intro n5
    induction n5 with
    | zero => intro x1 H locs ls l2 u3  hm7; exact (rg_m0 hm7 u3).elim
    | succ n5 ih6 =>
      intro x1 H locs ls l2 u3  hm7 hP hD hS hl
      refine lv_iload hx hb dX3_canHold_3 (lv_at hl 0 rfl) ?_
      refine lv_aload_n hx hb dX3_canHold_5 rfl (lv_at hl 2 rfl) ?_
      refine va_get (D := D) (ci := 2) (v := .int s1_4) (C := RX2) (T := TX2) (N := 13) hx hb hts hnX2 hown hE.1 hP 1 rfl rfl 4 (by decide) (hts (.fieldLink RX3 18 "MovedStones$Land" "treaties" "I") (List.mem_cons_of_mem _ (List.mem_append_left _ (List.mem_append_left _ (List.mem_of_getElem? (i := 0) rfl))))) (fun _ h9 => h9) rfl dX3_canHold_6 ?_
      refine lv_icmp_ge (tgt := 57) hx hb dX3_canHold_9 (by decide) (fun c8 => ?_) (fun c8 => ?_)
      · refine lv_iconst (v := 1) hx hb dX3_canHold_57 (by decide) ?_
        exact ms_zret hx hb hr rfl hlk () (Or.inr ⟨rfl, trivial⟩) hP hD hS (Nat.le_of_ble_eq_true rfl) (Nat.le_of_ble_eq_true rfl) dX3_canHold_58
      · have h9 : x1.toInt ≤ 5 := rg_lt_hi (rg_nle c8) s1_4u (by decide)
        have h10 : 1 ≤ s1_4.toInt := rg_lt_lo (rg_nle c8) l2 (by decide)
        refine lv_aload_n hx hb dX3_canHold_12 rfl (lv_at hl 2 rfl) ?_
        refine va_get (D := D) (ci := 2) (v := .ref q2) (C := RX2) (T := TX2) (N := 13) hx hb hts hnX2 hown hE.1 hP 1 rfl rfl 11 (by decide) (hts (.fieldLink RX3 24 "MovedStones$Land" "bound" "[I") (List.mem_cons_of_mem _ (List.mem_append_left _ (List.mem_append_left _ (List.mem_of_getElem? (i := 1) rfl))))) (fun _ h9 => h9) rfl dX3_canHold_13 ?_
        refine lv_iload hx hb dX3_canHold_16 (lv_at hl 0 rfl) ?_
        refine rg_iald0 hx hb hE hP (q0 := 2) rfl l2 h9 (by decide) dX3_canHold_18 (fun v11 ev11 => ?_)
        refine lv_iload_n hx hb dX3_canHold_19 rfl (lv_at hl 3 rfl) ?_
        refine lv_ishr hx hb dX3_canHold_20 ?_
        refine lv_topi (fun v12 ev12 => ?_)
        have jn16 : ∀ (x13 : Int32) (H : Heap) (locs : List Loc) (ls : Array Slot), (-4) ≤ x13.toInt → x13.toInt ≤ 4 → va_P D vwCl [(q0, .inr (3, [.ref q6, .ref q3])), (q1, .inr (2, [.int s1_0, .int s1_1, .int s1_2, .int s1_3, .int s1_4, .ref q7, .ref q8, .ref q9, .ref q10, .ref q11, .ref q5, .ref q2, .ref q4])), (q2, .inl (cA 0, 6, .inl f2)), (q3, .inl (cA 0, 6, .inl f3)), (q4, .inl (cA 0, 6, .inl f4)), (q5, .inl (cA 0, 6, .inl f5))] H → va_D A [(q0, .inr (3, [.ref q6, .ref q3])), (q1, .inr (2, [.int s1_0, .int s1_1, .int s1_2, .int s1_3, .int s1_4, .ref q7, .ref q8, .ref q9, .ref q10, .ref q11, .ref q5, .ref q2, .ref q4])), (q2, .inl (cA 0, 6, .inl f2)), (q3, .inl (cA 0, 6, .inl f3)), (q4, .inl (cA 0, 6, .inl f4)), (q5, .inl (cA 0, 6, .inl f5))] → va_S A s.heap H locs → lv_has ls 6 [(4, .int x1), (0, .ref q0), (1, .ref q1), (2, .int 1), (3, .int a0)] → W p l e ({ frames := 2, cells := 0, slots := 0, locals := 63 } : Room) s m args below meth c H locs 0 0 (MQ below (ms_Qi D A (fun (r : Int32) (_ : Unit) => (r = 0 ∧ (1 ≤ s1_4.toInt ∧ s1_4.toInt ≤ 6) ∧ True) ∨ (r = 1 ∧ True)) (fun (_ : Unit) => [(q0, .inr (3, [.ref q6, .ref q3])), (q1, .inr (2, [.int s1_0, .int s1_1, .int s1_2, .int s1_3, .int s1_4, .ref q7, .ref q8, .ref q9, .ref q10, .ref q11, .ref q5, .ref q2, .ref q4])), (q2, .inl (cA 0, 6, .inl f2)), (q3, .inl (cA 0, 6, .inl f3)), (q4, .inl (cA 0, 6, .inl f4)), (q5, .inl (cA 0, 6, .inl f5))])) args s 0 0 A) (F0 m 29 ls [.int x13]) := by
          intro x13 H locs ls l14 u15  hP hD hS hl
          refine lv_istore (lv' := [(5, .int x13), (4, .int x1), (0, .ref q0), (1, .ref q1), (2, .int 1), (3, .int a0)]) hx hb dX3_canHold_29 hl (by decide) rfl (fun ls hl => ?_)
          refine lv_aload_n hx hb dX3_canHold_31 rfl (lv_at hl 3 rfl) ?_
          refine lv_iload hx hb dX3_canHold_32 (lv_at hl 1 rfl) ?_
          refine lv_aload_n hx hb dX3_canHold_34 rfl (lv_at hl 2 rfl) ?_
          refine va_get (D := D) (ci := 3) (v := .ref q3) (C := RX3) (T := TX3) (N := 2) hx hb hts hnX3 hown hE.1 hP 0 rfl rfl 1 (by decide) (hts (.fieldLink RX3 15 "MovedStones$Mender" "sums" "[I") (List.mem_cons_of_mem _ (List.mem_append_left _ (List.mem_append_left _ (List.mem_of_getElem? (i := 2) rfl))))) (fun _ h9 => h9) rfl dX3_canHold_35 ?_
          refine lv_iload hx hb dX3_canHold_38 (lv_at hl 1 rfl) ?_
          refine rg_iald0 hx hb hE hP (q0 := 3) rfl l2 h9 (by decide) dX3_canHold_40 (fun v17 ev17 => ?_)
          refine ms_cVi (qc := (RX2, TX2, 13)) (wc := [(q1, .inr (2, [.int s1_0, .int s1_1, .int s1_2, .int s1_3, .int s1_4, .ref q7, .ref q8, .ref q9, .ref q10, .ref q11, .ref q5, .ref q2, .ref q4])), (q4, .inl (cA 0, 6, .inl f4)), (q5, .inl (cA 0, 6, .inl f5))]) (wr := [(q0, .inr (3, [.ref q6, .ref q3])), (q2, .inl (cA 0, 6, .inl f2)), (q3, .inl (cA 0, 6, .inl f3))]) ⟨hx, hb, hml, hown, hts⟩ hE (kX2_missing_1 l D cA q1 q4 q5 q7 q8 q9 q10 q11 q2 s1_0 s1_1 s1_2 s1_3 s1_4 f4 f5 x1 v17 (rg_le s1_0l (by decide)) (rg_ge s1_0u (by decide)) (rg_le s1_1l (by decide)) (rg_ge s1_1u (by decide)) (rg_le s1_2l (by decide)) (rg_ge s1_2u (by decide)) (rg_le s1_3l (by decide)) (rg_ge s1_3u (by decide)) (rg_le h10 (by decide)) (rg_ge s1_4u (by decide)) (rg_Smono f4_0 (by decide) (by decide) (by decide) (by decide)) (rg_Smono f5_0 (by decide) (by decide) (by decide) (by decide)) (rg_le l2 (by decide)) (rg_ge h9 (by decide))) (cwV 2 hts gX3_canHold_X2_missing rfl rfl rfl (by decide +kernel) ⟨Nat.le_of_ble_eq_true rfl, Nat.le_of_ble_eq_true rfl⟩) hP hD hS hA [1, 4, 5] [0, 2, 3] rfl rfl rfl rfl (by decide) 0 2 rfl rfl rfl hl.1 rfl (Nat.le_of_ble_eq_true rfl) dX3_canHold_41 ⟨Nat.le_of_ble_eq_true rfl, Nat.le_of_ble_eq_true rfl⟩ (fun r19 u18 H locs hp hP hD hS => ?_)
          obtain ⟨⟨r19l, r19u⟩, -⟩ := hp
          have hP : va_P D vwCl [(q0, .inr (3, [.ref q6, .ref q3])), (q2, .inl (cA 0, 6, .inl f2)), (q3, .inl (cA 0, 6, .inl f3)), (q1, .inr (2, [.int s1_0, .int s1_1, .int s1_2, .int s1_3, .int s1_4, .ref q7, .ref q8, .ref q9, .ref q10, .ref q11, .ref q5, .ref q2, .ref q4])), (q4, .inl (cA 0, 6, .inl f4)), (q5, .inl (cA 0, 6, .inl f5))] H := hP
          have hD : va_D A [(q0, .inr (3, [.ref q6, .ref q3])), (q2, .inl (cA 0, 6, .inl f2)), (q3, .inl (cA 0, 6, .inl f3)), (q1, .inr (2, [.int s1_0, .int s1_1, .int s1_2, .int s1_3, .int s1_4, .ref q7, .ref q8, .ref q9, .ref q10, .ref q11, .ref q5, .ref q2, .ref q4])), (q4, .inl (cA 0, 6, .inl f4)), (q5, .inl (cA 0, 6, .inl f5))] := hD
          refine lv_iload hx hb dX3_canHold_44 (lv_at hl 0 rfl) ?_
          refine lv_icmp_le (tgt := 51) hx hb dX3_canHold_46 (by decide) (fun c20 => ?_) (fun c20 => ?_)
          · have h21 : r19.toInt ≤ 4 := rg_le_hi c20 u15
            refine rg_iinc (lo := 1) (hi := 6) (fun z => [(4, .int z), (5, .int x13), (0, .ref q0), (1, .ref q1), (2, .int 1), (3, .int a0)]) hx hb dX3_canHold_51 hl (k := 1) rfl (by decide) l2 h9 (by decide) (fun _ => rfl) (fun v22 ev22 lv22 uv22 ls hl => ?_)
            have hl : lv_has ls 6 [(4, .int v22), (5, .int x13), (0, .ref q0), (1, .ref q1), (2, .int 1), (3, .int a0)] := hl
            refine lv_goto (tgt := 3) hx hb dX3_canHold_54 (by decide) ?_
            exact ih6 v22 _ _ _ (rg_le lv22 (by decide)) (rg_ge uv22 (by decide))  (rg_ms hm7 ev22 (by decide)) (hP.sub [0, 3, 1, 2, 4, 5] rfl) (hD.sub [0, 3, 1, 2, 4, 5] (by decide) rfl) hS (lv_sub hl [0, 2, 3, 4, 5] rfl)
          · have h23 : (-3) ≤ r19.toInt := rg_lt_lo (rg_nle c20) l14 (by decide)
            refine lv_iconst (v := 0) hx hb dX3_canHold_49 (by decide) ?_
            exact ms_zret hx hb hr rfl hlk () (Or.inl ⟨rfl, ⟨rg_le h10 (by decide), rg_ge s1_4u (by decide)⟩, trivial⟩) (hP.sub [0, 3, 1, 2, 4, 5] rfl) (hD.sub [0, 3, 1, 2, 4, 5] (by decide) rfl) hS (Nat.le_of_ble_eq_true rfl) (Nat.le_of_ble_eq_true rfl) dX3_canHold_50
        refine lv_if_ne (tgt := 28) hx hb dX3_canHold_21 (by decide) (fun c24 => ?_) (fun c24 => ?_)
        · refine lv_iload_n hx hb dX3_canHold_28 rfl (lv_at hl 4 rfl) ?_
          exact jn16 a0 _ _ _ (rg_le a0l (by decide)) (rg_ge a0u (by decide))  hP hD hS (lv_sub hl [0, 1, 2, 3, 4] rfl)
        · have h25 : 0 ≤ v12.toInt := rg_eq_lo c24 (by decide : (0 : Int) ≤ (0 : Int32).toInt)
          have h26 : v12.toInt ≤ 0 := rg_eq_hi c24 (by decide : (0 : Int32).toInt ≤ 0)
          refine lv_iconst (v := 0) hx hb dX3_canHold_24 (by decide) ?_
          refine lv_goto (tgt := 29) hx hb dX3_canHold_25 (by decide) ?_
          exact jn16 0 _ _ _ (rg_le (by decide : (0 : Int) ≤ (0 : Int32).toInt) (by decide)) (rg_ge (by decide : (0 : Int32).toInt ≤ 0) (by decide))  hP hD hS (lv_sub hl [0, 1, 2, 3, 4] rfl)
  exact lp4 7 0 _ _ _ (rg_le (by decide : (0 : Int) ≤ (0 : Int32).toInt) (by decide)) (rg_ge (by decide : (0 : Int32).toInt ≤ 0) (by decide))  (rg_mi (by decide : (0 : Int) ≤ (0 : Int32).toInt) (by decide)) hP hD hS (lv_sub hl [0, 1, 2, 3, 4] rfl)
set_option maxHeartbeats 4000000 in
set_option maxRecDepth 100000 in
theorem kX3_alter_2 (l : Launch) (D : va_G) (cA : Nat → ClassId) (q0 q1 q2 q3 q4 q5 q6 q7 q8 q9 q10 q11 : Nat) (s1_0 : Int32) (s1_1 : Int32) (s1_2 : Int32) (s1_3 : Int32) (s1_4 : Int32) (f2 : Nat → Int32) (f3 : Nat → Int32) (a0 : Int32) (s1_0l : 0 ≤ s1_0.toInt) (s1_0u : s1_0.toInt ≤ 6) (s1_1l : 0 ≤ s1_1.toInt) (s1_1u : s1_1.toInt ≤ 4) (s1_2l : 0 ≤ s1_2.toInt) (s1_2u : s1_2.toInt ≤ 9) (s1_3l : 0 ≤ s1_3.toInt) (s1_3u : s1_3.toInt ≤ 9) (s1_4l : 0 ≤ s1_4.toInt) (s1_4u : s1_4.toInt ≤ 6) : ms_Mv l yX3_alter wsX3_alter ({ frames := 0, cells := 0, slots := 0, locals := 0 } : Room) D cA [.ref q0, .ref q1, .int 1, .int a0] [(q0, .inr (3, [.ref q4, .ref q3])), (q1, .inr (2, [.int s1_0, .int s1_1, .int s1_2, .int s1_3, .int s1_4, .ref q5, .ref q6, .ref q7, .ref q8, .ref q9, .ref q10, .ref q2, .ref q11])), (q2, .inl (cA 0, 6, .inl f2)), (q3, .inl (cA 0, 6, .inl f3))] (fun (u : ((Nat → Int32) × (Nat → Nat → Int32) × (Nat → Int64))) => True) (fun (u : ((Nat → Int32) × (Nat → Nat → Int32) × (Nat → Int64))) => [(q0, .inr (3, [.ref q4, .ref q3])), (q1, .inr (2, [.int s1_0, .int s1_1, .int s1_2, .int s1_3, .int s1_4, .ref q5, .ref q6, .ref q7, .ref q8, .ref q9, .ref q10, .ref q2, .ref q11])), (q2, .inl (cA 0, 6, .inl f2)), (q3, .inl (cA 0, 6, .inl (u.2.1 0)))]) := by
  refine ms_Mv_of (cc := cX3_alter) (maxL := 5) (ret := none) (by decide) rfl (Nat.le_of_ble_eq_true rfl) ?_
  intro p e s m args below meth c A ls hB hE hA hP hD hS hl
  obtain ⟨hx, hb, hr, hml, hown, hts, hlk, hnm⟩ := hB
  have hown : s.vm.findClass RX3 = some m.cls := hown
  have hnX2 : ∀ w ∈ u_ws RX2 TX2 13, w ∈ wsX3_alter := fun _ h => List.mem_cons_of_mem _ (List.mem_append_left _ (List.mem_append_right _ (h)))
  have hnX3 : ∀ w ∈ u_ws RX3 TX3 2, w ∈ wsX3_alter := fun _ h => List.mem_cons_of_mem _ (List.mem_append_right _ (h))
  have hl : lv_has ls 5 [(0, .ref q0), (1, .ref q1), (2, .int 1), (3, .int a0)] := hl
  refine lv_iconst (v := 0) hx hb dX3_alter_0 (by decide) ?_
  refine lv_istore (lv' := [(4, .int 0), (0, .ref q0), (1, .ref q1), (2, .int 1), (3, .int a0)]) hx hb dX3_alter_1 hl (by decide) rfl (fun ls hl => ?_)
  have lp6 : ∀ (n7 : Nat) (x1 : Int32) (w4 : Nat → Int32) (H : Heap) (locs : List Loc) (ls : Array Slot), 0 ≤ x1.toInt → x1.toInt ≤ 6 → rg_F w4 f3 0 5 → 6 + 1 ≤ x1.toInt + (n7 : Int) → va_P D vwCl [(q0, .inr (3, [.ref q4, .ref q3])), (q1, .inr (2, [.int s1_0, .int s1_1, .int s1_2, .int s1_3, .int s1_4, .ref q5, .ref q6, .ref q7, .ref q8, .ref q9, .ref q10, .ref q2, .ref q11])), (q2, .inl (cA 0, 6, .inl f2)), (q3, .inl (cA 0, 6, .inl w4))] H → va_D A [(q0, .inr (3, [.ref q4, .ref q3])), (q1, .inr (2, [.int s1_0, .int s1_1, .int s1_2, .int s1_3, .int s1_4, .ref q5, .ref q6, .ref q7, .ref q8, .ref q9, .ref q10, .ref q2, .ref q11])), (q2, .inl (cA 0, 6, .inl f2)), (q3, .inl (cA 0, 6, .inl w4))] → va_S A s.heap H locs → lv_has ls 5 [(4, .int x1), (0, .ref q0), (1, .ref q1), (2, .int 1), (3, .int a0)] → W p l e ({ frames := 0, cells := 0, slots := 0, locals := 0 } : Room) s m args below meth c H locs 0 0 (MQ below (ms_Qv D A (fun (u : ((Nat → Int32) × (Nat → Nat → Int32) × (Nat → Int64))) => True) (fun (u : ((Nat → Int32) × (Nat → Nat → Int32) × (Nat → Int64))) => [(q0, .inr (3, [.ref q4, .ref q3])), (q1, .inr (2, [.int s1_0, .int s1_1, .int s1_2, .int s1_3, .int s1_4, .ref q5, .ref q6, .ref q7, .ref q8, .ref q9, .ref q10, .ref q2, .ref q11])), (q2, .inl (cA 0, 6, .inl f2)), (q3, .inl (cA 0, 6, .inl (u.2.1 0)))])) args s 0 0 A) (F0 m 3 ls []) := by
    intro n7
    induction n7 with
    | zero => intro x1 w4 H locs ls l2 u3 fr5  hm9; exact (rg_m0 hm9 u3).elim
    | succ n7 ih8 =>
      intro x1 w4 H locs ls l2 u3 fr5  hm9 hP hD hS hl
      refine lv_iload hx hb dX3_alter_3 (lv_at hl 0 rfl) ?_
      refine lv_aload_n hx hb dX3_alter_5 rfl (lv_at hl 2 rfl) ?_
      refine va_get (D := D) (ci := 2) (v := .int s1_4) (C := RX2) (T := TX2) (N := 13) hx hb hts hnX2 hown hE.1 hP 1 rfl rfl 4 (by decide) (hts (.fieldLink RX3 18 "MovedStones$Land" "treaties" "I") (List.mem_cons_of_mem _ (List.mem_append_left _ (List.mem_append_left _ (List.mem_of_getElem? (i := 0) rfl))))) (fun _ h9 => h9) rfl dX3_alter_6 ?_
      refine lv_icmp_ge (tgt := 43) hx hb dX3_alter_9 (by decide) (fun c10 => ?_) (fun c10 => ?_)
      · exact ms_vret hx hb hr hlk (fun i => [].getD i 0, fun i => [w4].getD i ms_z, fun i => [].getD i 0) trivial hP hD hS (Nat.le_of_ble_eq_true rfl) (Nat.le_of_ble_eq_true rfl) dX3_alter_43
      · have h11 : x1.toInt ≤ 5 := rg_lt_hi (rg_nle c10) s1_4u (by decide)
        have h12 : 1 ≤ s1_4.toInt := rg_lt_lo (rg_nle c10) l2 (by decide)
        refine lv_aload_n hx hb dX3_alter_12 rfl (lv_at hl 2 rfl) ?_
        refine va_get (D := D) (ci := 2) (v := .ref q2) (C := RX2) (T := TX2) (N := 13) hx hb hts hnX2 hown hE.1 hP 1 rfl rfl 11 (by decide) (hts (.fieldLink RX3 24 "MovedStones$Land" "bound" "[I") (List.mem_cons_of_mem _ (List.mem_append_left _ (List.mem_append_left _ (List.mem_of_getElem? (i := 1) rfl))))) (fun _ h9 => h9) rfl dX3_alter_13 ?_
        refine lv_iload hx hb dX3_alter_16 (lv_at hl 0 rfl) ?_
        refine rg_iald0 hx hb hE hP (q0 := 2) rfl l2 h11 (by decide) dX3_alter_18 (fun v13 ev13 => ?_)
        refine lv_iload_n hx hb dX3_alter_19 rfl (lv_at hl 3 rfl) ?_
        refine lv_ishr hx hb dX3_alter_20 ?_
        refine lv_topi (fun v14 ev14 => ?_)
        refine lv_iconst (v := 1) hx hb dX3_alter_21 (by decide) ?_
        refine rg_iand1 hx hb dX3_alter_22 (fun v15 ev15 lv15 uv15 => ?_)
        have jn18 : ∀ (w16 : Nat → Int32) (H : Heap) (locs : List Loc) (ls : Array Slot), rg_F w16 f3 0 5 → va_P D vwCl [(q0, .inr (3, [.ref q4, .ref q3])), (q1, .inr (2, [.int s1_0, .int s1_1, .int s1_2, .int s1_3, .int s1_4, .ref q5, .ref q6, .ref q7, .ref q8, .ref q9, .ref q10, .ref q2, .ref q11])), (q2, .inl (cA 0, 6, .inl f2)), (q3, .inl (cA 0, 6, .inl w16))] H → va_D A [(q0, .inr (3, [.ref q4, .ref q3])), (q1, .inr (2, [.int s1_0, .int s1_1, .int s1_2, .int s1_3, .int s1_4, .ref q5, .ref q6, .ref q7, .ref q8, .ref q9, .ref q10, .ref q2, .ref q11])), (q2, .inl (cA 0, 6, .inl f2)), (q3, .inl (cA 0, 6, .inl w16))] → va_S A s.heap H locs → lv_has ls 5 [(4, .int x1), (0, .ref q0), (1, .ref q1), (2, .int 1), (3, .int a0)] → W p l e ({ frames := 0, cells := 0, slots := 0, locals := 0 } : Room) s m args below meth c H locs 0 0 (MQ below (ms_Qv D A (fun (u : ((Nat → Int32) × (Nat → Nat → Int32) × (Nat → Int64))) => True) (fun (u : ((Nat → Int32) × (Nat → Nat → Int32) × (Nat → Int64))) => [(q0, .inr (3, [.ref q4, .ref q3])), (q1, .inr (2, [.int s1_0, .int s1_1, .int s1_2, .int s1_3, .int s1_4, .ref q5, .ref q6, .ref q7, .ref q8, .ref q9, .ref q10, .ref q2, .ref q11])), (q2, .inl (cA 0, 6, .inl f2)), (q3, .inl (cA 0, 6, .inl (u.2.1 0)))])) args s 0 0 A) (F0 m 37 ls []) := by
          intro w16 H locs ls fr17  hP hD hS hl
          refine rg_iinc (lo := 1) (hi := 6) (fun z => [(4, .int z), (0, .ref q0), (1, .ref q1), (2, .int 1), (3, .int a0)]) hx hb dX3_alter_37 hl (k := 0) rfl (by decide) l2 h11 (by decide) (fun _ => rfl) (fun v19 ev19 lv19 uv19 ls hl => ?_)
          have hl : lv_has ls 5 [(4, .int v19), (0, .ref q0), (1, .ref q1), (2, .int 1), (3, .int a0)] := hl
          refine lv_goto (tgt := 3) hx hb dX3_alter_40 (by decide) ?_
          exact ih8 v19 w16 _ _ _ (rg_le lv19 (by decide)) (rg_ge uv19 (by decide)) (rg_Fmono fr17 (by decide))  (rg_ms hm9 ev19 (by decide)) hP hD hS (lv_sub hl [0, 1, 2, 3, 4] rfl)
        refine lv_if_eq (tgt := 37) hx hb dX3_alter_23 (by decide) (fun c20 => ?_) (fun c20 => ?_)
        · have h21 : v15.toInt ≤ 0 := rg_eq_hi c20 (by decide : (0 : Int32).toInt ≤ 0)
          exact jn18 w4 _ _ _ (rg_Fmono fr5 (by decide))  hP hD hS (lv_sub hl [0, 1, 2, 3, 4] rfl)
        · have h22 : 1 ≤ v15.toInt := rg_ne_lo c20 lv15 (by decide : (0 : Int) ≤ (0 : Int32).toInt) (by decide : (0 : Int32).toInt ≤ 0) (by decide)
          refine lv_aload_n hx hb dX3_alter_26 rfl (lv_at hl 1 rfl) ?_
          refine va_get (D := D) (ci := 3) (v := .ref q3) (C := RX3) (T := TX3) (N := 2) hx hb hts hnX3 hown hE.1 hP 0 rfl rfl 1 (by decide) (hts (.fieldLink RX3 15 "MovedStones$Mender" "sums" "[I") (List.mem_cons_of_mem _ (List.mem_append_left _ (List.mem_append_left _ (List.mem_of_getElem? (i := 2) rfl))))) (fun _ h9 => h9) rfl dX3_alter_27 ?_
          refine lv_iload hx hb dX3_alter_30 (lv_at hl 0 rfl) ?_
          refine lv_dup2_11 hx hb dX3_alter_32 rfl rfl ?_
          refine rg_iald0 hx hb hE hP (q0 := 3) rfl l2 h11 (by decide) dX3_alter_33 (fun v23 ev23 => ?_)
          refine lv_iload_n hx hb dX3_alter_34 rfl (lv_at hl 4 rfl) ?_
          refine lv_iadd hx hb dX3_alter_35 ?_
          refine lv_topi (fun v24 ev24 => ?_)
          refine rg_iast hx hb hE hP hD hS (q0 := 3) rfl l2 h11 (by decide) dX3_alter_36 (fun w25 H locs ew25 hP hD hS => ?_)
          have h26 : rg_F w25 f3 0 5 := rg_Ftr (rg_Fst ew25 l2 h11 (by decide)) fr5 (by decide)
          have hP : va_P D vwCl [(q0, .inr (3, [.ref q4, .ref q3])), (q1, .inr (2, [.int s1_0, .int s1_1, .int s1_2, .int s1_3, .int s1_4, .ref q5, .ref q6, .ref q7, .ref q8, .ref q9, .ref q10, .ref q2, .ref q11])), (q2, .inl (cA 0, 6, .inl f2)), (q3, .inl (cA 0, 6, .inl w25))] H := hP
          have hD : va_D A [(q0, .inr (3, [.ref q4, .ref q3])), (q1, .inr (2, [.int s1_0, .int s1_1, .int s1_2, .int s1_3, .int s1_4, .ref q5, .ref q6, .ref q7, .ref q8, .ref q9, .ref q10, .ref q2, .ref q11])), (q2, .inl (cA 0, 6, .inl f2)), (q3, .inl (cA 0, 6, .inl w25))] := hD
          exact jn18 w25 _ _ _ (rg_Fmono h26 (by decide))  hP hD hS (lv_sub hl [0, 1, 2, 3, 4] rfl)
  exact lp6 7 0 f3 _ _ _ (rg_le (by decide : (0 : Int) ≤ (0 : Int32).toInt) (by decide)) (rg_ge (by decide : (0 : Int32).toInt ≤ 0) (by decide)) (rg_Frefl _ _ _)  (rg_mi (by decide : (0 : Int) ≤ (0 : Int32).toInt) (by decide)) hP hD hS (lv_sub hl [0, 1, 2, 3, 4] rfl)
set_option maxHeartbeats 4000000 in
set_option maxRecDepth 100000 in
theorem kX3_canHold_43 (l : Launch) (D : va_G) (cA : Nat → ClassId) (q0 q1 q2 q3 q4 q5 q6 q7 q8 q9 q10 q11 : Nat) (s1_0 : Int32) (s1_1 : Int32) (s1_2 : Int32) (s1_3 : Int32) (s1_4 : Int32) (f2 : Nat → Int32) (f3 : Nat → Int32) (f4 : Nat → Int32) (f5 : Nat → Int32) (a0 : Int32) (s1_0l : 0 ≤ s1_0.toInt) (s1_0u : s1_0.toInt ≤ 6) (s1_1l : 0 ≤ s1_1.toInt) (s1_1u : s1_1.toInt ≤ 4) (s1_2l : 0 ≤ s1_2.toInt) (s1_2u : s1_2.toInt ≤ 9) (s1_3l : 0 ≤ s1_3.toInt) (s1_3u : s1_3.toInt ≤ 9) (s1_4l : 0 ≤ s1_4.toInt) (s1_4u : s1_4.toInt ≤ 6) (f4_0 : rg_S f4 0 6 0 999) (f5_0 : rg_S f5 0 6 0 2) (a0l : (-8) ≤ a0.toInt) (a0u : a0.toInt ≤ 4) : ms_Mi l yX3_canHold wsX3_canHold ({ frames := 2, cells := 0, slots := 0, locals := 63 } : Room) D cA [.ref q0, .ref q1, .int 2, .int a0] [(q0, .inr (3, [.ref q6, .ref q3])), (q1, .inr (2, [.int s1_0, .int s1_1, .int s1_2, .int s1_3, .int s1_4, .ref q7, .ref q8, .ref q9, .ref q10, .ref q11, .ref q5, .ref q2, .ref q4])), (q2, .inl (cA 0, 6, .inl f2)), (q3, .inl (cA 0, 6, .inl f3)), (q4, .inl (cA 0, 6, .inl f4)), (q5, .inl (cA 0, 6, .inl f5))] (fun (r : Int32) (_ : Unit) => (r = 0 ∧ (1 ≤ s1_4.toInt ∧ s1_4.toInt ≤ 6) ∧ True) ∨ (r = 1 ∧ True)) (fun (_ : Unit) => [(q0, .inr (3, [.ref q6, .ref q3])), (q1, .inr (2, [.int s1_0, .int s1_1, .int s1_2, .int s1_3, .int s1_4, .ref q7, .ref q8, .ref q9, .ref q10, .ref q11, .ref q5, .ref q2, .ref q4])), (q2, .inl (cA 0, 6, .inl f2)), (q3, .inl (cA 0, 6, .inl f3)), (q4, .inl (cA 0, 6, .inl f4)), (q5, .inl (cA 0, 6, .inl f5))]) := by
  refine ms_Mi_of (cc := cX3_canHold) (maxL := 6) (ret := (some .boolean)) (by decide) rfl (Nat.le_of_ble_eq_true rfl) ?_
  intro p e s m args below meth c A ls hB hE hA hP hD hS hl
  obtain ⟨hx, hb, hr, hml, hown, hts, hlk, hnm⟩ := hB
  have hown : s.vm.findClass RX3 = some m.cls := hown
  have hnX2 : ∀ w ∈ u_ws RX2 TX2 13, w ∈ wsX3_canHold := fun _ h => List.mem_cons_of_mem _ (List.mem_append_left _ (List.mem_append_right _ (h)))
  have hnX3 : ∀ w ∈ u_ws RX3 TX3 2, w ∈ wsX3_canHold := fun _ h => List.mem_cons_of_mem _ (List.mem_append_right _ (h))
  have hl : lv_has ls 6 [(0, .ref q0), (1, .ref q1), (2, .int 2), (3, .int a0)] := hl
  refine lv_iconst (v := 0) hx hb dX3_canHold_0 (by decide) ?_
  refine lv_istore (lv' := [(4, .int 0), (0, .ref q0), (1, .ref q1), (2, .int 2), (3, .int a0)]) hx hb dX3_canHold_1 hl (by decide) rfl (fun ls hl => ?_)
  have lp4 : ∀ (n5 : Nat) (x1 : Int32) (H : Heap) (locs : List Loc) (ls : Array Slot), 0 ≤ x1.toInt → x1.toInt ≤ 6 → 6 + 1 ≤ x1.toInt + (n5 : Int) → va_P D vwCl [(q0, .inr (3, [.ref q6, .ref q3])), (q1, .inr (2, [.int s1_0, .int s1_1, .int s1_2, .int s1_3, .int s1_4, .ref q7, .ref q8, .ref q9, .ref q10, .ref q11, .ref q5, .ref q2, .ref q4])), (q2, .inl (cA 0, 6, .inl f2)), (q3, .inl (cA 0, 6, .inl f3)), (q4, .inl (cA 0, 6, .inl f4)), (q5, .inl (cA 0, 6, .inl f5))] H → va_D A [(q0, .inr (3, [.ref q6, .ref q3])), (q1, .inr (2, [.int s1_0, .int s1_1, .int s1_2, .int s1_3, .int s1_4, .ref q7, .ref q8, .ref q9, .ref q10, .ref q11, .ref q5, .ref q2, .ref q4])), (q2, .inl (cA 0, 6, .inl f2)), (q3, .inl (cA 0, 6, .inl f3)), (q4, .inl (cA 0, 6, .inl f4)), (q5, .inl (cA 0, 6, .inl f5))] → va_S A s.heap H locs → lv_has ls 6 [(4, .int x1), (0, .ref q0), (1, .ref q1), (2, .int 2), (3, .int a0)] → W p l e ({ frames := 2, cells := 0, slots := 0, locals := 63 } : Room) s m args below meth c H locs 0 0 (MQ below (ms_Qi D A (fun (r : Int32) (_ : Unit) => (r = 0 ∧ (1 ≤ s1_4.toInt ∧ s1_4.toInt ≤ 6) ∧ True) ∨ (r = 1 ∧ True)) (fun (_ : Unit) => [(q0, .inr (3, [.ref q6, .ref q3])), (q1, .inr (2, [.int s1_0, .int s1_1, .int s1_2, .int s1_3, .int s1_4, .ref q7, .ref q8, .ref q9, .ref q10, .ref q11, .ref q5, .ref q2, .ref q4])), (q2, .inl (cA 0, 6, .inl f2)), (q3, .inl (cA 0, 6, .inl f3)), (q4, .inl (cA 0, 6, .inl f4)), (q5, .inl (cA 0, 6, .inl f5))])) args s 0 0 A) (F0 m 3 ls []) := by
    intro n5
    induction n5 with
    | zero => intro x1 H locs ls l2 u3  hm7; exact (rg_m0 hm7 u3).elim
    | succ n5 ih6 =>
      intro x1 H locs ls l2 u3  hm7 hP hD hS hl
      refine lv_iload hx hb dX3_canHold_3 (lv_at hl 0 rfl) ?_
      refine lv_aload_n hx hb dX3_canHold_5 rfl (lv_at hl 2 rfl) ?_
      refine va_get (D := D) (ci := 2) (v := .int s1_4) (C := RX2) (T := TX2) (N := 13) hx hb hts hnX2 hown hE.1 hP 1 rfl rfl 4 (by decide) (hts (.fieldLink RX3 18 "MovedStones$Land" "treaties" "I") (List.mem_cons_of_mem _ (List.mem_append_left _ (List.mem_append_left _ (List.mem_of_getElem? (i := 0) rfl))))) (fun _ h9 => h9) rfl dX3_canHold_6 ?_
      refine lv_icmp_ge (tgt := 57) hx hb dX3_canHold_9 (by decide) (fun c8 => ?_) (fun c8 => ?_)
      · refine lv_iconst (v := 1) hx hb dX3_canHold_57 (by decide) ?_
        exact ms_zret hx hb hr rfl hlk () (Or.inr ⟨rfl, trivial⟩) hP hD hS (Nat.le_of_ble_eq_true rfl) (Nat.le_of_ble_eq_true rfl) dX3_canHold_58
      · have h9 : x1.toInt ≤ 5 := rg_lt_hi (rg_nle c8) s1_4u (by decide)
        have h10 : 1 ≤ s1_4.toInt := rg_lt_lo (rg_nle c8) l2 (by decide)
        refine lv_aload_n hx hb dX3_canHold_12 rfl (lv_at hl 2 rfl) ?_
        refine va_get (D := D) (ci := 2) (v := .ref q2) (C := RX2) (T := TX2) (N := 13) hx hb hts hnX2 hown hE.1 hP 1 rfl rfl 11 (by decide) (hts (.fieldLink RX3 24 "MovedStones$Land" "bound" "[I") (List.mem_cons_of_mem _ (List.mem_append_left _ (List.mem_append_left _ (List.mem_of_getElem? (i := 1) rfl))))) (fun _ h9 => h9) rfl dX3_canHold_13 ?_
        refine lv_iload hx hb dX3_canHold_16 (lv_at hl 0 rfl) ?_
        refine rg_iald0 hx hb hE hP (q0 := 2) rfl l2 h9 (by decide) dX3_canHold_18 (fun v11 ev11 => ?_)
        refine lv_iload_n hx hb dX3_canHold_19 rfl (lv_at hl 3 rfl) ?_
        refine lv_ishr hx hb dX3_canHold_20 ?_
        refine lv_topi (fun v12 ev12 => ?_)
        have jn16 : ∀ (x13 : Int32) (H : Heap) (locs : List Loc) (ls : Array Slot), (-8) ≤ x13.toInt → x13.toInt ≤ 4 → va_P D vwCl [(q0, .inr (3, [.ref q6, .ref q3])), (q1, .inr (2, [.int s1_0, .int s1_1, .int s1_2, .int s1_3, .int s1_4, .ref q7, .ref q8, .ref q9, .ref q10, .ref q11, .ref q5, .ref q2, .ref q4])), (q2, .inl (cA 0, 6, .inl f2)), (q3, .inl (cA 0, 6, .inl f3)), (q4, .inl (cA 0, 6, .inl f4)), (q5, .inl (cA 0, 6, .inl f5))] H → va_D A [(q0, .inr (3, [.ref q6, .ref q3])), (q1, .inr (2, [.int s1_0, .int s1_1, .int s1_2, .int s1_3, .int s1_4, .ref q7, .ref q8, .ref q9, .ref q10, .ref q11, .ref q5, .ref q2, .ref q4])), (q2, .inl (cA 0, 6, .inl f2)), (q3, .inl (cA 0, 6, .inl f3)), (q4, .inl (cA 0, 6, .inl f4)), (q5, .inl (cA 0, 6, .inl f5))] → va_S A s.heap H locs → lv_has ls 6 [(4, .int x1), (0, .ref q0), (1, .ref q1), (2, .int 2), (3, .int a0)] → W p l e ({ frames := 2, cells := 0, slots := 0, locals := 63 } : Room) s m args below meth c H locs 0 0 (MQ below (ms_Qi D A (fun (r : Int32) (_ : Unit) => (r = 0 ∧ (1 ≤ s1_4.toInt ∧ s1_4.toInt ≤ 6) ∧ True) ∨ (r = 1 ∧ True)) (fun (_ : Unit) => [(q0, .inr (3, [.ref q6, .ref q3])), (q1, .inr (2, [.int s1_0, .int s1_1, .int s1_2, .int s1_3, .int s1_4, .ref q7, .ref q8, .ref q9, .ref q10, .ref q11, .ref q5, .ref q2, .ref q4])), (q2, .inl (cA 0, 6, .inl f2)), (q3, .inl (cA 0, 6, .inl f3)), (q4, .inl (cA 0, 6, .inl f4)), (q5, .inl (cA 0, 6, .inl f5))])) args s 0 0 A) (F0 m 29 ls [.int x13]) := by
          intro x13 H locs ls l14 u15  hP hD hS hl
          refine lv_istore (lv' := [(5, .int x13), (4, .int x1), (0, .ref q0), (1, .ref q1), (2, .int 2), (3, .int a0)]) hx hb dX3_canHold_29 hl (by decide) rfl (fun ls hl => ?_)
          refine lv_aload_n hx hb dX3_canHold_31 rfl (lv_at hl 3 rfl) ?_
          refine lv_iload hx hb dX3_canHold_32 (lv_at hl 1 rfl) ?_
          refine lv_aload_n hx hb dX3_canHold_34 rfl (lv_at hl 2 rfl) ?_
          refine va_get (D := D) (ci := 3) (v := .ref q3) (C := RX3) (T := TX3) (N := 2) hx hb hts hnX3 hown hE.1 hP 0 rfl rfl 1 (by decide) (hts (.fieldLink RX3 15 "MovedStones$Mender" "sums" "[I") (List.mem_cons_of_mem _ (List.mem_append_left _ (List.mem_append_left _ (List.mem_of_getElem? (i := 2) rfl))))) (fun _ h9 => h9) rfl dX3_canHold_35 ?_
          refine lv_iload hx hb dX3_canHold_38 (lv_at hl 1 rfl) ?_
          refine rg_iald0 hx hb hE hP (q0 := 3) rfl l2 h9 (by decide) dX3_canHold_40 (fun v17 ev17 => ?_)
          refine ms_cVi (qc := (RX2, TX2, 13)) (wc := [(q1, .inr (2, [.int s1_0, .int s1_1, .int s1_2, .int s1_3, .int s1_4, .ref q7, .ref q8, .ref q9, .ref q10, .ref q11, .ref q5, .ref q2, .ref q4])), (q4, .inl (cA 0, 6, .inl f4)), (q5, .inl (cA 0, 6, .inl f5))]) (wr := [(q0, .inr (3, [.ref q6, .ref q3])), (q2, .inl (cA 0, 6, .inl f2)), (q3, .inl (cA 0, 6, .inl f3))]) ⟨hx, hb, hml, hown, hts⟩ hE (kX2_missing_1 l D cA q1 q4 q5 q7 q8 q9 q10 q11 q2 s1_0 s1_1 s1_2 s1_3 s1_4 f4 f5 x1 v17 (rg_le s1_0l (by decide)) (rg_ge s1_0u (by decide)) (rg_le s1_1l (by decide)) (rg_ge s1_1u (by decide)) (rg_le s1_2l (by decide)) (rg_ge s1_2u (by decide)) (rg_le s1_3l (by decide)) (rg_ge s1_3u (by decide)) (rg_le h10 (by decide)) (rg_ge s1_4u (by decide)) (rg_Smono f4_0 (by decide) (by decide) (by decide) (by decide)) (rg_Smono f5_0 (by decide) (by decide) (by decide) (by decide)) (rg_le l2 (by decide)) (rg_ge h9 (by decide))) (cwV 2 hts gX3_canHold_X2_missing rfl rfl rfl (by decide +kernel) ⟨Nat.le_of_ble_eq_true rfl, Nat.le_of_ble_eq_true rfl⟩) hP hD hS hA [1, 4, 5] [0, 2, 3] rfl rfl rfl rfl (by decide) 0 2 rfl rfl rfl hl.1 rfl (Nat.le_of_ble_eq_true rfl) dX3_canHold_41 ⟨Nat.le_of_ble_eq_true rfl, Nat.le_of_ble_eq_true rfl⟩ (fun r19 u18 H locs hp hP hD hS => ?_)
          obtain ⟨⟨r19l, r19u⟩, -⟩ := hp
          have hP : va_P D vwCl [(q0, .inr (3, [.ref q6, .ref q3])), (q2, .inl (cA 0, 6, .inl f2)), (q3, .inl (cA 0, 6, .inl f3)), (q1, .inr (2, [.int s1_0, .int s1_1, .int s1_2, .int s1_3, .int s1_4, .ref q7, .ref q8, .ref q9, .ref q10, .ref q11, .ref q5, .ref q2, .ref q4])), (q4, .inl (cA 0, 6, .inl f4)), (q5, .inl (cA 0, 6, .inl f5))] H := hP
          have hD : va_D A [(q0, .inr (3, [.ref q6, .ref q3])), (q2, .inl (cA 0, 6, .inl f2)), (q3, .inl (cA 0, 6, .inl f3)), (q1, .inr (2, [.int s1_0, .int s1_1, .int s1_2, .int s1_3, .int s1_4, .ref q7, .ref q8, .ref q9, .ref q10, .ref q11, .ref q5, .ref q2, .ref q4])), (q4, .inl (cA 0, 6, .inl f4)), (q5, .inl (cA 0, 6, .inl f5))] := hD
          refine lv_iload hx hb dX3_canHold_44 (lv_at hl 0 rfl) ?_
          refine lv_icmp_le (tgt := 51) hx hb dX3_canHold_46 (by decide) (fun c20 => ?_) (fun c20 => ?_)
          · have h21 : r19.toInt ≤ 4 := rg_le_hi c20 u15
            refine rg_iinc (lo := 1) (hi := 6) (fun z => [(4, .int z), (5, .int x13), (0, .ref q0), (1, .ref q1), (2, .int 2), (3, .int a0)]) hx hb dX3_canHold_51 hl (k := 1) rfl (by decide) l2 h9 (by decide) (fun _ => rfl) (fun v22 ev22 lv22 uv22 ls hl => ?_)
            have hl : lv_has ls 6 [(4, .int v22), (5, .int x13), (0, .ref q0), (1, .ref q1), (2, .int 2), (3, .int a0)] := hl
            refine lv_goto (tgt := 3) hx hb dX3_canHold_54 (by decide) ?_
            exact ih6 v22 _ _ _ (rg_le lv22 (by decide)) (rg_ge uv22 (by decide))  (rg_ms hm7 ev22 (by decide)) (hP.sub [0, 3, 1, 2, 4, 5] rfl) (hD.sub [0, 3, 1, 2, 4, 5] (by decide) rfl) hS (lv_sub hl [0, 2, 3, 4, 5] rfl)
          · have h23 : (-7) ≤ r19.toInt := rg_lt_lo (rg_nle c20) l14 (by decide)
            refine lv_iconst (v := 0) hx hb dX3_canHold_49 (by decide) ?_
            exact ms_zret hx hb hr rfl hlk () (Or.inl ⟨rfl, ⟨rg_le h10 (by decide), rg_ge s1_4u (by decide)⟩, trivial⟩) (hP.sub [0, 3, 1, 2, 4, 5] rfl) (hD.sub [0, 3, 1, 2, 4, 5] (by decide) rfl) hS (Nat.le_of_ble_eq_true rfl) (Nat.le_of_ble_eq_true rfl) dX3_canHold_50
        refine lv_if_ne (tgt := 28) hx hb dX3_canHold_21 (by decide) (fun c24 => ?_) (fun c24 => ?_)
        · refine lv_iload_n hx hb dX3_canHold_28 rfl (lv_at hl 4 rfl) ?_
          exact jn16 a0 _ _ _ (rg_le a0l (by decide)) (rg_ge a0u (by decide))  hP hD hS (lv_sub hl [0, 1, 2, 3, 4] rfl)
        · have h25 : 0 ≤ v12.toInt := rg_eq_lo c24 (by decide : (0 : Int) ≤ (0 : Int32).toInt)
          have h26 : v12.toInt ≤ 0 := rg_eq_hi c24 (by decide : (0 : Int32).toInt ≤ 0)
          refine lv_iconst (v := 0) hx hb dX3_canHold_24 (by decide) ?_
          refine lv_goto (tgt := 29) hx hb dX3_canHold_25 (by decide) ?_
          exact jn16 0 _ _ _ (rg_le (by decide : (0 : Int) ≤ (0 : Int32).toInt) (by decide)) (rg_ge (by decide : (0 : Int32).toInt ≤ 0) (by decide))  hP hD hS (lv_sub hl [0, 1, 2, 3, 4] rfl)
  exact lp4 7 0 _ _ _ (rg_le (by decide : (0 : Int) ≤ (0 : Int32).toInt) (by decide)) (rg_ge (by decide : (0 : Int32).toInt ≤ 0) (by decide))  (rg_mi (by decide : (0 : Int) ≤ (0 : Int32).toInt) (by decide)) hP hD hS (lv_sub hl [0, 1, 2, 3, 4] rfl)
set_option maxHeartbeats 4000000 in
set_option maxRecDepth 100000 in
theorem kX3_alter_3 (l : Launch) (D : va_G) (cA : Nat → ClassId) (q0 q1 q2 q3 q4 q5 q6 q7 q8 q9 q10 q11 : Nat) (s1_0 : Int32) (s1_1 : Int32) (s1_2 : Int32) (s1_3 : Int32) (s1_4 : Int32) (f2 : Nat → Int32) (f3 : Nat → Int32) (a0 : Int32) (s1_0l : 0 ≤ s1_0.toInt) (s1_0u : s1_0.toInt ≤ 6) (s1_1l : 0 ≤ s1_1.toInt) (s1_1u : s1_1.toInt ≤ 4) (s1_2l : 0 ≤ s1_2.toInt) (s1_2u : s1_2.toInt ≤ 9) (s1_3l : 0 ≤ s1_3.toInt) (s1_3u : s1_3.toInt ≤ 9) (s1_4l : 0 ≤ s1_4.toInt) (s1_4u : s1_4.toInt ≤ 6) : ms_Mv l yX3_alter wsX3_alter ({ frames := 0, cells := 0, slots := 0, locals := 0 } : Room) D cA [.ref q0, .ref q1, .int 2, .int a0] [(q0, .inr (3, [.ref q4, .ref q3])), (q1, .inr (2, [.int s1_0, .int s1_1, .int s1_2, .int s1_3, .int s1_4, .ref q5, .ref q6, .ref q7, .ref q8, .ref q9, .ref q10, .ref q2, .ref q11])), (q2, .inl (cA 0, 6, .inl f2)), (q3, .inl (cA 0, 6, .inl f3))] (fun (u : ((Nat → Int32) × (Nat → Nat → Int32) × (Nat → Int64))) => True) (fun (u : ((Nat → Int32) × (Nat → Nat → Int32) × (Nat → Int64))) => [(q0, .inr (3, [.ref q4, .ref q3])), (q1, .inr (2, [.int s1_0, .int s1_1, .int s1_2, .int s1_3, .int s1_4, .ref q5, .ref q6, .ref q7, .ref q8, .ref q9, .ref q10, .ref q2, .ref q11])), (q2, .inl (cA 0, 6, .inl f2)), (q3, .inl (cA 0, 6, .inl (u.2.1 0)))]) := by
  refine ms_Mv_of (cc := cX3_alter) (maxL := 5) (ret := none) (by decide) rfl (Nat.le_of_ble_eq_true rfl) ?_
  intro p e s m args below meth c A ls hB hE hA hP hD hS hl
  obtain ⟨hx, hb, hr, hml, hown, hts, hlk, hnm⟩ := hB
  have hown : s.vm.findClass RX3 = some m.cls := hown
  have hnX2 : ∀ w ∈ u_ws RX2 TX2 13, w ∈ wsX3_alter := fun _ h => List.mem_cons_of_mem _ (List.mem_append_left _ (List.mem_append_right _ (h)))
  have hnX3 : ∀ w ∈ u_ws RX3 TX3 2, w ∈ wsX3_alter := fun _ h => List.mem_cons_of_mem _ (List.mem_append_right _ (h))
  have hl : lv_has ls 5 [(0, .ref q0), (1, .ref q1), (2, .int 2), (3, .int a0)] := hl
  refine lv_iconst (v := 0) hx hb dX3_alter_0 (by decide) ?_
  refine lv_istore (lv' := [(4, .int 0), (0, .ref q0), (1, .ref q1), (2, .int 2), (3, .int a0)]) hx hb dX3_alter_1 hl (by decide) rfl (fun ls hl => ?_)
  have lp6 : ∀ (n7 : Nat) (x1 : Int32) (w4 : Nat → Int32) (H : Heap) (locs : List Loc) (ls : Array Slot), 0 ≤ x1.toInt → x1.toInt ≤ 6 → rg_F w4 f3 0 5 → 6 + 1 ≤ x1.toInt + (n7 : Int) → va_P D vwCl [(q0, .inr (3, [.ref q4, .ref q3])), (q1, .inr (2, [.int s1_0, .int s1_1, .int s1_2, .int s1_3, .int s1_4, .ref q5, .ref q6, .ref q7, .ref q8, .ref q9, .ref q10, .ref q2, .ref q11])), (q2, .inl (cA 0, 6, .inl f2)), (q3, .inl (cA 0, 6, .inl w4))] H → va_D A [(q0, .inr (3, [.ref q4, .ref q3])), (q1, .inr (2, [.int s1_0, .int s1_1, .int s1_2, .int s1_3, .int s1_4, .ref q5, .ref q6, .ref q7, .ref q8, .ref q9, .ref q10, .ref q2, .ref q11])), (q2, .inl (cA 0, 6, .inl f2)), (q3, .inl (cA 0, 6, .inl w4))] → va_S A s.heap H locs → lv_has ls 5 [(4, .int x1), (0, .ref q0), (1, .ref q1), (2, .int 2), (3, .int a0)] → W p l e ({ frames := 0, cells := 0, slots := 0, locals := 0 } : Room) s m args below meth c H locs 0 0 (MQ below (ms_Qv D A (fun (u : ((Nat → Int32) × (Nat → Nat → Int32) × (Nat → Int64))) => True) (fun (u : ((Nat → Int32) × (Nat → Nat → Int32) × (Nat → Int64))) => [(q0, .inr (3, [.ref q4, .ref q3])), (q1, .inr (2, [.int s1_0, .int s1_1, .int s1_2, .int s1_3, .int s1_4, .ref q5, .ref q6, .ref q7, .ref q8, .ref q9, .ref q10, .ref q2, .ref q11])), (q2, .inl (cA 0, 6, .inl f2)), (q3, .inl (cA 0, 6, .inl (u.2.1 0)))])) args s 0 0 A) (F0 m 3 ls []) := by
    intro n7
    induction n7 with
    | zero => intro x1 w4 H locs ls l2 u3 fr5  hm9; exact (rg_m0 hm9 u3).elim
    | succ n7 ih8 =>
      intro x1 w4 H locs ls l2 u3 fr5  hm9 hP hD hS hl
      refine lv_iload hx hb dX3_alter_3 (lv_at hl 0 rfl) ?_
      refine lv_aload_n hx hb dX3_alter_5 rfl (lv_at hl 2 rfl) ?_
      refine va_get (D := D) (ci := 2) (v := .int s1_4) (C := RX2) (T := TX2) (N := 13) hx hb hts hnX2 hown hE.1 hP 1 rfl rfl 4 (by decide) (hts (.fieldLink RX3 18 "MovedStones$Land" "treaties" "I") (List.mem_cons_of_mem _ (List.mem_append_left _ (List.mem_append_left _ (List.mem_of_getElem? (i := 0) rfl))))) (fun _ h9 => h9) rfl dX3_alter_6 ?_
      refine lv_icmp_ge (tgt := 43) hx hb dX3_alter_9 (by decide) (fun c10 => ?_) (fun c10 => ?_)
      · exact ms_vret hx hb hr hlk (fun i => [].getD i 0, fun i => [w4].getD i ms_z, fun i => [].getD i 0) trivial hP hD hS (Nat.le_of_ble_eq_true rfl) (Nat.le_of_ble_eq_true rfl) dX3_alter_43
      · have h11 : x1.toInt ≤ 5 := rg_lt_hi (rg_nle c10) s1_4u (by decide)
        have h12 : 1 ≤ s1_4.toInt := rg_lt_lo (rg_nle c10) l2 (by decide)
        refine lv_aload_n hx hb dX3_alter_12 rfl (lv_at hl 2 rfl) ?_
        refine va_get (D := D) (ci := 2) (v := .ref q2) (C := RX2) (T := TX2) (N := 13) hx hb hts hnX2 hown hE.1 hP 1 rfl rfl 11 (by decide) (hts (.fieldLink RX3 24 "MovedStones$Land" "bound" "[I") (List.mem_cons_of_mem _ (List.mem_append_left _ (List.mem_append_left _ (List.mem_of_getElem? (i := 1) rfl))))) (fun _ h9 => h9) rfl dX3_alter_13 ?_
        refine lv_iload hx hb dX3_alter_16 (lv_at hl 0 rfl) ?_
        refine rg_iald0 hx hb hE hP (q0 := 2) rfl l2 h11 (by decide) dX3_alter_18 (fun v13 ev13 => ?_)
        refine lv_iload_n hx hb dX3_alter_19 rfl (lv_at hl 3 rfl) ?_
        refine lv_ishr hx hb dX3_alter_20 ?_
        refine lv_topi (fun v14 ev14 => ?_)
        refine lv_iconst (v := 1) hx hb dX3_alter_21 (by decide) ?_
        refine rg_iand1 hx hb dX3_alter_22 (fun v15 ev15 lv15 uv15 => ?_)
        have jn18 : ∀ (w16 : Nat → Int32) (H : Heap) (locs : List Loc) (ls : Array Slot), rg_F w16 f3 0 5 → va_P D vwCl [(q0, .inr (3, [.ref q4, .ref q3])), (q1, .inr (2, [.int s1_0, .int s1_1, .int s1_2, .int s1_3, .int s1_4, .ref q5, .ref q6, .ref q7, .ref q8, .ref q9, .ref q10, .ref q2, .ref q11])), (q2, .inl (cA 0, 6, .inl f2)), (q3, .inl (cA 0, 6, .inl w16))] H → va_D A [(q0, .inr (3, [.ref q4, .ref q3])), (q1, .inr (2, [.int s1_0, .int s1_1, .int s1_2, .int s1_3, .int s1_4, .ref q5, .ref q6, .ref q7, .ref q8, .ref q9, .ref q10, .ref q2, .ref q11])), (q2, .inl (cA 0, 6, .inl f2)), (q3, .inl (cA 0, 6, .inl w16))] → va_S A s.heap H locs → lv_has ls 5 [(4, .int x1), (0, .ref q0), (1, .ref q1), (2, .int 2), (3, .int a0)] → W p l e ({ frames := 0, cells := 0, slots := 0, locals := 0 } : Room) s m args below meth c H locs 0 0 (MQ below (ms_Qv D A (fun (u : ((Nat → Int32) × (Nat → Nat → Int32) × (Nat → Int64))) => True) (fun (u : ((Nat → Int32) × (Nat → Nat → Int32) × (Nat → Int64))) => [(q0, .inr (3, [.ref q4, .ref q3])), (q1, .inr (2, [.int s1_0, .int s1_1, .int s1_2, .int s1_3, .int s1_4, .ref q5, .ref q6, .ref q7, .ref q8, .ref q9, .ref q10, .ref q2, .ref q11])), (q2, .inl (cA 0, 6, .inl f2)), (q3, .inl (cA 0, 6, .inl (u.2.1 0)))])) args s 0 0 A) (F0 m 37 ls []) := by
          intro w16 H locs ls fr17  hP hD hS hl
          refine rg_iinc (lo := 1) (hi := 6) (fun z => [(4, .int z), (0, .ref q0), (1, .ref q1), (2, .int 2), (3, .int a0)]) hx hb dX3_alter_37 hl (k := 0) rfl (by decide) l2 h11 (by decide) (fun _ => rfl) (fun v19 ev19 lv19 uv19 ls hl => ?_)
          have hl : lv_has ls 5 [(4, .int v19), (0, .ref q0), (1, .ref q1), (2, .int 2), (3, .int a0)] := hl
          refine lv_goto (tgt := 3) hx hb dX3_alter_40 (by decide) ?_
          exact ih8 v19 w16 _ _ _ (rg_le lv19 (by decide)) (rg_ge uv19 (by decide)) (rg_Fmono fr17 (by decide))  (rg_ms hm9 ev19 (by decide)) hP hD hS (lv_sub hl [0, 1, 2, 3, 4] rfl)
        refine lv_if_eq (tgt := 37) hx hb dX3_alter_23 (by decide) (fun c20 => ?_) (fun c20 => ?_)
        · have h21 : v15.toInt ≤ 0 := rg_eq_hi c20 (by decide : (0 : Int32).toInt ≤ 0)
          exact jn18 w4 _ _ _ (rg_Fmono fr5 (by decide))  hP hD hS (lv_sub hl [0, 1, 2, 3, 4] rfl)
        · have h22 : 1 ≤ v15.toInt := rg_ne_lo c20 lv15 (by decide : (0 : Int) ≤ (0 : Int32).toInt) (by decide : (0 : Int32).toInt ≤ 0) (by decide)
          refine lv_aload_n hx hb dX3_alter_26 rfl (lv_at hl 1 rfl) ?_
          refine va_get (D := D) (ci := 3) (v := .ref q3) (C := RX3) (T := TX3) (N := 2) hx hb hts hnX3 hown hE.1 hP 0 rfl rfl 1 (by decide) (hts (.fieldLink RX3 15 "MovedStones$Mender" "sums" "[I") (List.mem_cons_of_mem _ (List.mem_append_left _ (List.mem_append_left _ (List.mem_of_getElem? (i := 2) rfl))))) (fun _ h9 => h9) rfl dX3_alter_27 ?_
          refine lv_iload hx hb dX3_alter_30 (lv_at hl 0 rfl) ?_
          refine lv_dup2_11 hx hb dX3_alter_32 rfl rfl ?_
          refine rg_iald0 hx hb hE hP (q0 := 3) rfl l2 h11 (by decide) dX3_alter_33 (fun v23 ev23 => ?_)
          refine lv_iload_n hx hb dX3_alter_34 rfl (lv_at hl 4 rfl) ?_
          refine lv_iadd hx hb dX3_alter_35 ?_
          refine lv_topi (fun v24 ev24 => ?_)
          refine rg_iast hx hb hE hP hD hS (q0 := 3) rfl l2 h11 (by decide) dX3_alter_36 (fun w25 H locs ew25 hP hD hS => ?_)
          have h26 : rg_F w25 f3 0 5 := rg_Ftr (rg_Fst ew25 l2 h11 (by decide)) fr5 (by decide)
          have hP : va_P D vwCl [(q0, .inr (3, [.ref q4, .ref q3])), (q1, .inr (2, [.int s1_0, .int s1_1, .int s1_2, .int s1_3, .int s1_4, .ref q5, .ref q6, .ref q7, .ref q8, .ref q9, .ref q10, .ref q2, .ref q11])), (q2, .inl (cA 0, 6, .inl f2)), (q3, .inl (cA 0, 6, .inl w25))] H := hP
          have hD : va_D A [(q0, .inr (3, [.ref q4, .ref q3])), (q1, .inr (2, [.int s1_0, .int s1_1, .int s1_2, .int s1_3, .int s1_4, .ref q5, .ref q6, .ref q7, .ref q8, .ref q9, .ref q10, .ref q2, .ref q11])), (q2, .inl (cA 0, 6, .inl f2)), (q3, .inl (cA 0, 6, .inl w25))] := hD
          exact jn18 w25 _ _ _ (rg_Fmono h26 (by decide))  hP hD hS (lv_sub hl [0, 1, 2, 3, 4] rfl)
  exact lp6 7 0 f3 _ _ _ (rg_le (by decide : (0 : Int) ≤ (0 : Int32).toInt) (by decide)) (rg_ge (by decide : (0 : Int32).toInt ≤ 0) (by decide)) (rg_Frefl _ _ _)  (rg_mi (by decide : (0 : Int) ≤ (0 : Int32).toInt) (by decide)) hP hD hS (lv_sub hl [0, 1, 2, 3, 4] rfl)
set_option maxHeartbeats 4000000 in
set_option maxRecDepth 100000 in
theorem kX3_canHold_44 (l : Launch) (D : va_G) (cA : Nat → ClassId) (q0 q1 q2 q3 q4 q5 q6 q7 q8 q9 q10 q11 : Nat) (s1_0 : Int32) (s1_1 : Int32) (s1_2 : Int32) (s1_3 : Int32) (s1_4 : Int32) (f2 : Nat → Int32) (f3 : Nat → Int32) (f4 : Nat → Int32) (f5 : Nat → Int32) (a0 : Int32) (s1_0l : 0 ≤ s1_0.toInt) (s1_0u : s1_0.toInt ≤ 6) (s1_1l : 0 ≤ s1_1.toInt) (s1_1u : s1_1.toInt ≤ 4) (s1_2l : 0 ≤ s1_2.toInt) (s1_2u : s1_2.toInt ≤ 9) (s1_3l : 0 ≤ s1_3.toInt) (s1_3u : s1_3.toInt ≤ 9) (s1_4l : 0 ≤ s1_4.toInt) (s1_4u : s1_4.toInt ≤ 6) (f4_0 : rg_S f4 0 6 0 999) (f5_0 : rg_S f5 0 6 0 2) (a0l : (-8) ≤ a0.toInt) (a0u : a0.toInt ≤ 4) : ms_Mi l yX3_canHold wsX3_canHold ({ frames := 2, cells := 0, slots := 0, locals := 63 } : Room) D cA [.ref q0, .ref q1, .int 3, .int a0] [(q0, .inr (3, [.ref q6, .ref q3])), (q1, .inr (2, [.int s1_0, .int s1_1, .int s1_2, .int s1_3, .int s1_4, .ref q7, .ref q8, .ref q9, .ref q10, .ref q11, .ref q5, .ref q2, .ref q4])), (q2, .inl (cA 0, 6, .inl f2)), (q3, .inl (cA 0, 6, .inl f3)), (q4, .inl (cA 0, 6, .inl f4)), (q5, .inl (cA 0, 6, .inl f5))] (fun (r : Int32) (_ : Unit) => (r = 0 ∧ (1 ≤ s1_4.toInt ∧ s1_4.toInt ≤ 6) ∧ True) ∨ (r = 1 ∧ True)) (fun (_ : Unit) => [(q0, .inr (3, [.ref q6, .ref q3])), (q1, .inr (2, [.int s1_0, .int s1_1, .int s1_2, .int s1_3, .int s1_4, .ref q7, .ref q8, .ref q9, .ref q10, .ref q11, .ref q5, .ref q2, .ref q4])), (q2, .inl (cA 0, 6, .inl f2)), (q3, .inl (cA 0, 6, .inl f3)), (q4, .inl (cA 0, 6, .inl f4)), (q5, .inl (cA 0, 6, .inl f5))]) := by
  refine ms_Mi_of (cc := cX3_canHold) (maxL := 6) (ret := (some .boolean)) (by decide) rfl (Nat.le_of_ble_eq_true rfl) ?_
  intro p e s m args below meth c A ls hB hE hA hP hD hS hl
  obtain ⟨hx, hb, hr, hml, hown, hts, hlk, hnm⟩ := hB
  have hown : s.vm.findClass RX3 = some m.cls := hown
  have hnX2 : ∀ w ∈ u_ws RX2 TX2 13, w ∈ wsX3_canHold := fun _ h => List.mem_cons_of_mem _ (List.mem_append_left _ (List.mem_append_right _ (h)))
  have hnX3 : ∀ w ∈ u_ws RX3 TX3 2, w ∈ wsX3_canHold := fun _ h => List.mem_cons_of_mem _ (List.mem_append_right _ (h))
  have hl : lv_has ls 6 [(0, .ref q0), (1, .ref q1), (2, .int 3), (3, .int a0)] := hl
  refine lv_iconst (v := 0) hx hb dX3_canHold_0 (by decide) ?_
  refine lv_istore (lv' := [(4, .int 0), (0, .ref q0), (1, .ref q1), (2, .int 3), (3, .int a0)]) hx hb dX3_canHold_1 hl (by decide) rfl (fun ls hl => ?_)
  have lp4 : ∀ (n5 : Nat) (x1 : Int32) (H : Heap) (locs : List Loc) (ls : Array Slot), 0 ≤ x1.toInt → x1.toInt ≤ 6 → 6 + 1 ≤ x1.toInt + (n5 : Int) → va_P D vwCl [(q0, .inr (3, [.ref q6, .ref q3])), (q1, .inr (2, [.int s1_0, .int s1_1, .int s1_2, .int s1_3, .int s1_4, .ref q7, .ref q8, .ref q9, .ref q10, .ref q11, .ref q5, .ref q2, .ref q4])), (q2, .inl (cA 0, 6, .inl f2)), (q3, .inl (cA 0, 6, .inl f3)), (q4, .inl (cA 0, 6, .inl f4)), (q5, .inl (cA 0, 6, .inl f5))] H → va_D A [(q0, .inr (3, [.ref q6, .ref q3])), (q1, .inr (2, [.int s1_0, .int s1_1, .int s1_2, .int s1_3, .int s1_4, .ref q7, .ref q8, .ref q9, .ref q10, .ref q11, .ref q5, .ref q2, .ref q4])), (q2, .inl (cA 0, 6, .inl f2)), (q3, .inl (cA 0, 6, .inl f3)), (q4, .inl (cA 0, 6, .inl f4)), (q5, .inl (cA 0, 6, .inl f5))] → va_S A s.heap H locs → lv_has ls 6 [(4, .int x1), (0, .ref q0), (1, .ref q1), (2, .int 3), (3, .int a0)] → W p l e ({ frames := 2, cells := 0, slots := 0, locals := 63 } : Room) s m args below meth c H locs 0 0 (MQ below (ms_Qi D A (fun (r : Int32) (_ : Unit) => (r = 0 ∧ (1 ≤ s1_4.toInt ∧ s1_4.toInt ≤ 6) ∧ True) ∨ (r = 1 ∧ True)) (fun (_ : Unit) => [(q0, .inr (3, [.ref q6, .ref q3])), (q1, .inr (2, [.int s1_0, .int s1_1, .int s1_2, .int s1_3, .int s1_4, .ref q7, .ref q8, .ref q9, .ref q10, .ref q11, .ref q5, .ref q2, .ref q4])), (q2, .inl (cA 0, 6, .inl f2)), (q3, .inl (cA 0, 6, .inl f3)), (q4, .inl (cA 0, 6, .inl f4)), (q5, .inl (cA 0, 6, .inl f5))])) args s 0 0 A) (F0 m 3 ls []) := by
    intro n5
    induction n5 with
    | zero => intro x1 H locs ls l2 u3  hm7; exact (rg_m0 hm7 u3).elim
    | succ n5 ih6 =>
      intro x1 H locs ls l2 u3  hm7 hP hD hS hl
      refine lv_iload hx hb dX3_canHold_3 (lv_at hl 0 rfl) ?_
      refine lv_aload_n hx hb dX3_canHold_5 rfl (lv_at hl 2 rfl) ?_
      refine va_get (D := D) (ci := 2) (v := .int s1_4) (C := RX2) (T := TX2) (N := 13) hx hb hts hnX2 hown hE.1 hP 1 rfl rfl 4 (by decide) (hts (.fieldLink RX3 18 "MovedStones$Land" "treaties" "I") (List.mem_cons_of_mem _ (List.mem_append_left _ (List.mem_append_left _ (List.mem_of_getElem? (i := 0) rfl))))) (fun _ h9 => h9) rfl dX3_canHold_6 ?_
      refine lv_icmp_ge (tgt := 57) hx hb dX3_canHold_9 (by decide) (fun c8 => ?_) (fun c8 => ?_)
      · refine lv_iconst (v := 1) hx hb dX3_canHold_57 (by decide) ?_
        exact ms_zret hx hb hr rfl hlk () (Or.inr ⟨rfl, trivial⟩) hP hD hS (Nat.le_of_ble_eq_true rfl) (Nat.le_of_ble_eq_true rfl) dX3_canHold_58
      · have h9 : x1.toInt ≤ 5 := rg_lt_hi (rg_nle c8) s1_4u (by decide)
        have h10 : 1 ≤ s1_4.toInt := rg_lt_lo (rg_nle c8) l2 (by decide)
        refine lv_aload_n hx hb dX3_canHold_12 rfl (lv_at hl 2 rfl) ?_
        refine va_get (D := D) (ci := 2) (v := .ref q2) (C := RX2) (T := TX2) (N := 13) hx hb hts hnX2 hown hE.1 hP 1 rfl rfl 11 (by decide) (hts (.fieldLink RX3 24 "MovedStones$Land" "bound" "[I") (List.mem_cons_of_mem _ (List.mem_append_left _ (List.mem_append_left _ (List.mem_of_getElem? (i := 1) rfl))))) (fun _ h9 => h9) rfl dX3_canHold_13 ?_
        refine lv_iload hx hb dX3_canHold_16 (lv_at hl 0 rfl) ?_
        refine rg_iald0 hx hb hE hP (q0 := 2) rfl l2 h9 (by decide) dX3_canHold_18 (fun v11 ev11 => ?_)
        refine lv_iload_n hx hb dX3_canHold_19 rfl (lv_at hl 3 rfl) ?_
        refine lv_ishr hx hb dX3_canHold_20 ?_
        refine lv_topi (fun v12 ev12 => ?_)
        have jn16 : ∀ (x13 : Int32) (H : Heap) (locs : List Loc) (ls : Array Slot), (-8) ≤ x13.toInt → x13.toInt ≤ 4 → va_P D vwCl [(q0, .inr (3, [.ref q6, .ref q3])), (q1, .inr (2, [.int s1_0, .int s1_1, .int s1_2, .int s1_3, .int s1_4, .ref q7, .ref q8, .ref q9, .ref q10, .ref q11, .ref q5, .ref q2, .ref q4])), (q2, .inl (cA 0, 6, .inl f2)), (q3, .inl (cA 0, 6, .inl f3)), (q4, .inl (cA 0, 6, .inl f4)), (q5, .inl (cA 0, 6, .inl f5))] H → va_D A [(q0, .inr (3, [.ref q6, .ref q3])), (q1, .inr (2, [.int s1_0, .int s1_1, .int s1_2, .int s1_3, .int s1_4, .ref q7, .ref q8, .ref q9, .ref q10, .ref q11, .ref q5, .ref q2, .ref q4])), (q2, .inl (cA 0, 6, .inl f2)), (q3, .inl (cA 0, 6, .inl f3)), (q4, .inl (cA 0, 6, .inl f4)), (q5, .inl (cA 0, 6, .inl f5))] → va_S A s.heap H locs → lv_has ls 6 [(4, .int x1), (0, .ref q0), (1, .ref q1), (2, .int 3), (3, .int a0)] → W p l e ({ frames := 2, cells := 0, slots := 0, locals := 63 } : Room) s m args below meth c H locs 0 0 (MQ below (ms_Qi D A (fun (r : Int32) (_ : Unit) => (r = 0 ∧ (1 ≤ s1_4.toInt ∧ s1_4.toInt ≤ 6) ∧ True) ∨ (r = 1 ∧ True)) (fun (_ : Unit) => [(q0, .inr (3, [.ref q6, .ref q3])), (q1, .inr (2, [.int s1_0, .int s1_1, .int s1_2, .int s1_3, .int s1_4, .ref q7, .ref q8, .ref q9, .ref q10, .ref q11, .ref q5, .ref q2, .ref q4])), (q2, .inl (cA 0, 6, .inl f2)), (q3, .inl (cA 0, 6, .inl f3)), (q4, .inl (cA 0, 6, .inl f4)), (q5, .inl (cA 0, 6, .inl f5))])) args s 0 0 A) (F0 m 29 ls [.int x13]) := by
          intro x13 H locs ls l14 u15  hP hD hS hl
          refine lv_istore (lv' := [(5, .int x13), (4, .int x1), (0, .ref q0), (1, .ref q1), (2, .int 3), (3, .int a0)]) hx hb dX3_canHold_29 hl (by decide) rfl (fun ls hl => ?_)
          refine lv_aload_n hx hb dX3_canHold_31 rfl (lv_at hl 3 rfl) ?_
          refine lv_iload hx hb dX3_canHold_32 (lv_at hl 1 rfl) ?_
          refine lv_aload_n hx hb dX3_canHold_34 rfl (lv_at hl 2 rfl) ?_
          refine va_get (D := D) (ci := 3) (v := .ref q3) (C := RX3) (T := TX3) (N := 2) hx hb hts hnX3 hown hE.1 hP 0 rfl rfl 1 (by decide) (hts (.fieldLink RX3 15 "MovedStones$Mender" "sums" "[I") (List.mem_cons_of_mem _ (List.mem_append_left _ (List.mem_append_left _ (List.mem_of_getElem? (i := 2) rfl))))) (fun _ h9 => h9) rfl dX3_canHold_35 ?_
          refine lv_iload hx hb dX3_canHold_38 (lv_at hl 1 rfl) ?_
          refine rg_iald0 hx hb hE hP (q0 := 3) rfl l2 h9 (by decide) dX3_canHold_40 (fun v17 ev17 => ?_)
          refine ms_cVi (qc := (RX2, TX2, 13)) (wc := [(q1, .inr (2, [.int s1_0, .int s1_1, .int s1_2, .int s1_3, .int s1_4, .ref q7, .ref q8, .ref q9, .ref q10, .ref q11, .ref q5, .ref q2, .ref q4])), (q4, .inl (cA 0, 6, .inl f4)), (q5, .inl (cA 0, 6, .inl f5))]) (wr := [(q0, .inr (3, [.ref q6, .ref q3])), (q2, .inl (cA 0, 6, .inl f2)), (q3, .inl (cA 0, 6, .inl f3))]) ⟨hx, hb, hml, hown, hts⟩ hE (kX2_missing_1 l D cA q1 q4 q5 q7 q8 q9 q10 q11 q2 s1_0 s1_1 s1_2 s1_3 s1_4 f4 f5 x1 v17 (rg_le s1_0l (by decide)) (rg_ge s1_0u (by decide)) (rg_le s1_1l (by decide)) (rg_ge s1_1u (by decide)) (rg_le s1_2l (by decide)) (rg_ge s1_2u (by decide)) (rg_le s1_3l (by decide)) (rg_ge s1_3u (by decide)) (rg_le h10 (by decide)) (rg_ge s1_4u (by decide)) (rg_Smono f4_0 (by decide) (by decide) (by decide) (by decide)) (rg_Smono f5_0 (by decide) (by decide) (by decide) (by decide)) (rg_le l2 (by decide)) (rg_ge h9 (by decide))) (cwV 2 hts gX3_canHold_X2_missing rfl rfl rfl (by decide +kernel) ⟨Nat.le_of_ble_eq_true rfl, Nat.le_of_ble_eq_true rfl⟩) hP hD hS hA [1, 4, 5] [0, 2, 3] rfl rfl rfl rfl (by decide) 0 2 rfl rfl rfl hl.1 rfl (Nat.le_of_ble_eq_true rfl) dX3_canHold_41 ⟨Nat.le_of_ble_eq_true rfl, Nat.le_of_ble_eq_true rfl⟩ (fun r19 u18 H locs hp hP hD hS => ?_)
          obtain ⟨⟨r19l, r19u⟩, -⟩ := hp
          have hP : va_P D vwCl [(q0, .inr (3, [.ref q6, .ref q3])), (q2, .inl (cA 0, 6, .inl f2)), (q3, .inl (cA 0, 6, .inl f3)), (q1, .inr (2, [.int s1_0, .int s1_1, .int s1_2, .int s1_3, .int s1_4, .ref q7, .ref q8, .ref q9, .ref q10, .ref q11, .ref q5, .ref q2, .ref q4])), (q4, .inl (cA 0, 6, .inl f4)), (q5, .inl (cA 0, 6, .inl f5))] H := hP
          have hD : va_D A [(q0, .inr (3, [.ref q6, .ref q3])), (q2, .inl (cA 0, 6, .inl f2)), (q3, .inl (cA 0, 6, .inl f3)), (q1, .inr (2, [.int s1_0, .int s1_1, .int s1_2, .int s1_3, .int s1_4, .ref q7, .ref q8, .ref q9, .ref q10, .ref q11, .ref q5, .ref q2, .ref q4])), (q4, .inl (cA 0, 6, .inl f4)), (q5, .inl (cA 0, 6, .inl f5))] := hD
          refine lv_iload hx hb dX3_canHold_44 (lv_at hl 0 rfl) ?_
          refine lv_icmp_le (tgt := 51) hx hb dX3_canHold_46 (by decide) (fun c20 => ?_) (fun c20 => ?_)
          · have h21 : r19.toInt ≤ 4 := rg_le_hi c20 u15
            refine rg_iinc (lo := 1) (hi := 6) (fun z => [(4, .int z), (5, .int x13), (0, .ref q0), (1, .ref q1), (2, .int 3), (3, .int a0)]) hx hb dX3_canHold_51 hl (k := 1) rfl (by decide) l2 h9 (by decide) (fun _ => rfl) (fun v22 ev22 lv22 uv22 ls hl => ?_)
            have hl : lv_has ls 6 [(4, .int v22), (5, .int x13), (0, .ref q0), (1, .ref q1), (2, .int 3), (3, .int a0)] := hl
            refine lv_goto (tgt := 3) hx hb dX3_canHold_54 (by decide) ?_
            exact ih6 v22 _ _ _ (rg_le lv22 (by decide)) (rg_ge uv22 (by decide))  (rg_ms hm7 ev22 (by decide)) (hP.sub [0, 3, 1, 2, 4, 5] rfl) (hD.sub [0, 3, 1, 2, 4, 5] (by decide) rfl) hS (lv_sub hl [0, 2, 3, 4, 5] rfl)
          · have h23 : (-7) ≤ r19.toInt := rg_lt_lo (rg_nle c20) l14 (by decide)
            refine lv_iconst (v := 0) hx hb dX3_canHold_49 (by decide) ?_
            exact ms_zret hx hb hr rfl hlk () (Or.inl ⟨rfl, ⟨rg_le h10 (by decide), rg_ge s1_4u (by decide)⟩, trivial⟩) (hP.sub [0, 3, 1, 2, 4, 5] rfl) (hD.sub [0, 3, 1, 2, 4, 5] (by decide) rfl) hS (Nat.le_of_ble_eq_true rfl) (Nat.le_of_ble_eq_true rfl) dX3_canHold_50
        refine lv_if_ne (tgt := 28) hx hb dX3_canHold_21 (by decide) (fun c24 => ?_) (fun c24 => ?_)
        · refine lv_iload_n hx hb dX3_canHold_28 rfl (lv_at hl 4 rfl) ?_
          exact jn16 a0 _ _ _ (rg_le a0l (by decide)) (rg_ge a0u (by decide))  hP hD hS (lv_sub hl [0, 1, 2, 3, 4] rfl)
        · have h25 : 0 ≤ v12.toInt := rg_eq_lo c24 (by decide : (0 : Int) ≤ (0 : Int32).toInt)
          have h26 : v12.toInt ≤ 0 := rg_eq_hi c24 (by decide : (0 : Int32).toInt ≤ 0)
          refine lv_iconst (v := 0) hx hb dX3_canHold_24 (by decide) ?_
          refine lv_goto (tgt := 29) hx hb dX3_canHold_25 (by decide) ?_
          exact jn16 0 _ _ _ (rg_le (by decide : (0 : Int) ≤ (0 : Int32).toInt) (by decide)) (rg_ge (by decide : (0 : Int32).toInt ≤ 0) (by decide))  hP hD hS (lv_sub hl [0, 1, 2, 3, 4] rfl)
  exact lp4 7 0 _ _ _ (rg_le (by decide : (0 : Int) ≤ (0 : Int32).toInt) (by decide)) (rg_ge (by decide : (0 : Int32).toInt ≤ 0) (by decide))  (rg_mi (by decide : (0 : Int) ≤ (0 : Int32).toInt) (by decide)) hP hD hS (lv_sub hl [0, 1, 2, 3, 4] rfl)
set_option maxHeartbeats 4000000 in
set_option maxRecDepth 100000 in
theorem kX3_alter_4 (l : Launch) (D : va_G) (cA : Nat → ClassId) (q0 q1 q2 q3 q4 q5 q6 q7 q8 q9 q10 q11 : Nat) (s1_0 : Int32) (s1_1 : Int32) (s1_2 : Int32) (s1_3 : Int32) (s1_4 : Int32) (f2 : Nat → Int32) (f3 : Nat → Int32) (a0 : Int32) (s1_0l : 0 ≤ s1_0.toInt) (s1_0u : s1_0.toInt ≤ 6) (s1_1l : 0 ≤ s1_1.toInt) (s1_1u : s1_1.toInt ≤ 4) (s1_2l : 0 ≤ s1_2.toInt) (s1_2u : s1_2.toInt ≤ 9) (s1_3l : 0 ≤ s1_3.toInt) (s1_3u : s1_3.toInt ≤ 9) (s1_4l : 0 ≤ s1_4.toInt) (s1_4u : s1_4.toInt ≤ 6) : ms_Mv l yX3_alter wsX3_alter ({ frames := 0, cells := 0, slots := 0, locals := 0 } : Room) D cA [.ref q0, .ref q1, .int 3, .int a0] [(q0, .inr (3, [.ref q4, .ref q3])), (q1, .inr (2, [.int s1_0, .int s1_1, .int s1_2, .int s1_3, .int s1_4, .ref q5, .ref q6, .ref q7, .ref q8, .ref q9, .ref q10, .ref q2, .ref q11])), (q2, .inl (cA 0, 6, .inl f2)), (q3, .inl (cA 0, 6, .inl f3))] (fun (u : ((Nat → Int32) × (Nat → Nat → Int32) × (Nat → Int64))) => True) (fun (u : ((Nat → Int32) × (Nat → Nat → Int32) × (Nat → Int64))) => [(q0, .inr (3, [.ref q4, .ref q3])), (q1, .inr (2, [.int s1_0, .int s1_1, .int s1_2, .int s1_3, .int s1_4, .ref q5, .ref q6, .ref q7, .ref q8, .ref q9, .ref q10, .ref q2, .ref q11])), (q2, .inl (cA 0, 6, .inl f2)), (q3, .inl (cA 0, 6, .inl (u.2.1 0)))]) := by
  refine ms_Mv_of (cc := cX3_alter) (maxL := 5) (ret := none) (by decide) rfl (Nat.le_of_ble_eq_true rfl) ?_
  intro p e s m args below meth c A ls hB hE hA hP hD hS hl
  obtain ⟨hx, hb, hr, hml, hown, hts, hlk, hnm⟩ := hB
  have hown : s.vm.findClass RX3 = some m.cls := hown
  have hnX2 : ∀ w ∈ u_ws RX2 TX2 13, w ∈ wsX3_alter := fun _ h => List.mem_cons_of_mem _ (List.mem_append_left _ (List.mem_append_right _ (h)))
  have hnX3 : ∀ w ∈ u_ws RX3 TX3 2, w ∈ wsX3_alter := fun _ h => List.mem_cons_of_mem _ (List.mem_append_right _ (h))
  have hl : lv_has ls 5 [(0, .ref q0), (1, .ref q1), (2, .int 3), (3, .int a0)] := hl
  refine lv_iconst (v := 0) hx hb dX3_alter_0 (by decide) ?_
  refine lv_istore (lv' := [(4, .int 0), (0, .ref q0), (1, .ref q1), (2, .int 3), (3, .int a0)]) hx hb dX3_alter_1 hl (by decide) rfl (fun ls hl => ?_)
  have lp6 : ∀ (n7 : Nat) (x1 : Int32) (w4 : Nat → Int32) (H : Heap) (locs : List Loc) (ls : Array Slot), 0 ≤ x1.toInt → x1.toInt ≤ 6 → rg_F w4 f3 0 5 → 6 + 1 ≤ x1.toInt + (n7 : Int) → va_P D vwCl [(q0, .inr (3, [.ref q4, .ref q3])), (q1, .inr (2, [.int s1_0, .int s1_1, .int s1_2, .int s1_3, .int s1_4, .ref q5, .ref q6, .ref q7, .ref q8, .ref q9, .ref q10, .ref q2, .ref q11])), (q2, .inl (cA 0, 6, .inl f2)), (q3, .inl (cA 0, 6, .inl w4))] H → va_D A [(q0, .inr (3, [.ref q4, .ref q3])), (q1, .inr (2, [.int s1_0, .int s1_1, .int s1_2, .int s1_3, .int s1_4, .ref q5, .ref q6, .ref q7, .ref q8, .ref q9, .ref q10, .ref q2, .ref q11])), (q2, .inl (cA 0, 6, .inl f2)), (q3, .inl (cA 0, 6, .inl w4))] → va_S A s.heap H locs → lv_has ls 5 [(4, .int x1), (0, .ref q0), (1, .ref q1), (2, .int 3), (3, .int a0)] → W p l e ({ frames := 0, cells := 0, slots := 0, locals := 0 } : Room) s m args below meth c H locs 0 0 (MQ below (ms_Qv D A (fun (u : ((Nat → Int32) × (Nat → Nat → Int32) × (Nat → Int64))) => True) (fun (u : ((Nat → Int32) × (Nat → Nat → Int32) × (Nat → Int64))) => [(q0, .inr (3, [.ref q4, .ref q3])), (q1, .inr (2, [.int s1_0, .int s1_1, .int s1_2, .int s1_3, .int s1_4, .ref q5, .ref q6, .ref q7, .ref q8, .ref q9, .ref q10, .ref q2, .ref q11])), (q2, .inl (cA 0, 6, .inl f2)), (q3, .inl (cA 0, 6, .inl (u.2.1 0)))])) args s 0 0 A) (F0 m 3 ls []) := by
    intro n7
    induction n7 with
    | zero => intro x1 w4 H locs ls l2 u3 fr5  hm9; exact (rg_m0 hm9 u3).elim
    | succ n7 ih8 =>
      intro x1 w4 H locs ls l2 u3 fr5  hm9 hP hD hS hl
      refine lv_iload hx hb dX3_alter_3 (lv_at hl 0 rfl) ?_
      refine lv_aload_n hx hb dX3_alter_5 rfl (lv_at hl 2 rfl) ?_
      refine va_get (D := D) (ci := 2) (v := .int s1_4) (C := RX2) (T := TX2) (N := 13) hx hb hts hnX2 hown hE.1 hP 1 rfl rfl 4 (by decide) (hts (.fieldLink RX3 18 "MovedStones$Land" "treaties" "I") (List.mem_cons_of_mem _ (List.mem_append_left _ (List.mem_append_left _ (List.mem_of_getElem? (i := 0) rfl))))) (fun _ h9 => h9) rfl dX3_alter_6 ?_
      refine lv_icmp_ge (tgt := 43) hx hb dX3_alter_9 (by decide) (fun c10 => ?_) (fun c10 => ?_)
      · exact ms_vret hx hb hr hlk (fun i => [].getD i 0, fun i => [w4].getD i ms_z, fun i => [].getD i 0) trivial hP hD hS (Nat.le_of_ble_eq_true rfl) (Nat.le_of_ble_eq_true rfl) dX3_alter_43
      · have h11 : x1.toInt ≤ 5 := rg_lt_hi (rg_nle c10) s1_4u (by decide)
        have h12 : 1 ≤ s1_4.toInt := rg_lt_lo (rg_nle c10) l2 (by decide)
        refine lv_aload_n hx hb dX3_alter_12 rfl (lv_at hl 2 rfl) ?_
        refine va_get (D := D) (ci := 2) (v := .ref q2) (C := RX2) (T := TX2) (N := 13) hx hb hts hnX2 hown hE.1 hP 1 rfl rfl 11 (by decide) (hts (.fieldLink RX3 24 "MovedStones$Land" "bound" "[I") (List.mem_cons_of_mem _ (List.mem_append_left _ (List.mem_append_left _ (List.mem_of_getElem? (i := 1) rfl))))) (fun _ h9 => h9) rfl dX3_alter_13 ?_
        refine lv_iload hx hb dX3_alter_16 (lv_at hl 0 rfl) ?_
        refine rg_iald0 hx hb hE hP (q0 := 2) rfl l2 h11 (by decide) dX3_alter_18 (fun v13 ev13 => ?_)
        refine lv_iload_n hx hb dX3_alter_19 rfl (lv_at hl 3 rfl) ?_
        refine lv_ishr hx hb dX3_alter_20 ?_
        refine lv_topi (fun v14 ev14 => ?_)
        refine lv_iconst (v := 1) hx hb dX3_alter_21 (by decide) ?_
        refine rg_iand1 hx hb dX3_alter_22 (fun v15 ev15 lv15 uv15 => ?_)
        have jn18 : ∀ (w16 : Nat → Int32) (H : Heap) (locs : List Loc) (ls : Array Slot), rg_F w16 f3 0 5 → va_P D vwCl [(q0, .inr (3, [.ref q4, .ref q3])), (q1, .inr (2, [.int s1_0, .int s1_1, .int s1_2, .int s1_3, .int s1_4, .ref q5, .ref q6, .ref q7, .ref q8, .ref q9, .ref q10, .ref q2, .ref q11])), (q2, .inl (cA 0, 6, .inl f2)), (q3, .inl (cA 0, 6, .inl w16))] H → va_D A [(q0, .inr (3, [.ref q4, .ref q3])), (q1, .inr (2, [.int s1_0, .int s1_1, .int s1_2, .int s1_3, .int s1_4, .ref q5, .ref q6, .ref q7, .ref q8, .ref q9, .ref q10, .ref q2, .ref q11])), (q2, .inl (cA 0, 6, .inl f2)), (q3, .inl (cA 0, 6, .inl w16))] → va_S A s.heap H locs → lv_has ls 5 [(4, .int x1), (0, .ref q0), (1, .ref q1), (2, .int 3), (3, .int a0)] → W p l e ({ frames := 0, cells := 0, slots := 0, locals := 0 } : Room) s m args below meth c H locs 0 0 (MQ below (ms_Qv D A (fun (u : ((Nat → Int32) × (Nat → Nat → Int32) × (Nat → Int64))) => True) (fun (u : ((Nat → Int32) × (Nat → Nat → Int32) × (Nat → Int64))) => [(q0, .inr (3, [.ref q4, .ref q3])), (q1, .inr (2, [.int s1_0, .int s1_1, .int s1_2, .int s1_3, .int s1_4, .ref q5, .ref q6, .ref q7, .ref q8, .ref q9, .ref q10, .ref q2, .ref q11])), (q2, .inl (cA 0, 6, .inl f2)), (q3, .inl (cA 0, 6, .inl (u.2.1 0)))])) args s 0 0 A) (F0 m 37 ls []) := by
          intro w16 H locs ls fr17  hP hD hS hl
          refine rg_iinc (lo := 1) (hi := 6) (fun z => [(4, .int z), (0, .ref q0), (1, .ref q1), (2, .int 3), (3, .int a0)]) hx hb dX3_alter_37 hl (k := 0) rfl (by decide) l2 h11 (by decide) (fun _ => rfl) (fun v19 ev19 lv19 uv19 ls hl => ?_)
          have hl : lv_has ls 5 [(4, .int v19), (0, .ref q0), (1, .ref q1), (2, .int 3), (3, .int a0)] := hl
          refine lv_goto (tgt := 3) hx hb dX3_alter_40 (by decide) ?_
          exact ih8 v19 w16 _ _ _ (rg_le lv19 (by decide)) (rg_ge uv19 (by decide)) (rg_Fmono fr17 (by decide))  (rg_ms hm9 ev19 (by decide)) hP hD hS (lv_sub hl [0, 1, 2, 3, 4] rfl)
        refine lv_if_eq (tgt := 37) hx hb dX3_alter_23 (by decide) (fun c20 => ?_) (fun c20 => ?_)
        · have h21 : v15.toInt ≤ 0 := rg_eq_hi c20 (by decide : (0 : Int32).toInt ≤ 0)
          exact jn18 w4 _ _ _ (rg_Fmono fr5 (by decide))  hP hD hS (lv_sub hl [0, 1, 2, 3, 4] rfl)
        · have h22 : 1 ≤ v15.toInt := rg_ne_lo c20 lv15 (by decide : (0 : Int) ≤ (0 : Int32).toInt) (by decide : (0 : Int32).toInt ≤ 0) (by decide)
          refine lv_aload_n hx hb dX3_alter_26 rfl (lv_at hl 1 rfl) ?_
          refine va_get (D := D) (ci := 3) (v := .ref q3) (C := RX3) (T := TX3) (N := 2) hx hb hts hnX3 hown hE.1 hP 0 rfl rfl 1 (by decide) (hts (.fieldLink RX3 15 "MovedStones$Mender" "sums" "[I") (List.mem_cons_of_mem _ (List.mem_append_left _ (List.mem_append_left _ (List.mem_of_getElem? (i := 2) rfl))))) (fun _ h9 => h9) rfl dX3_alter_27 ?_
          refine lv_iload hx hb dX3_alter_30 (lv_at hl 0 rfl) ?_
          refine lv_dup2_11 hx hb dX3_alter_32 rfl rfl ?_
          refine rg_iald0 hx hb hE hP (q0 := 3) rfl l2 h11 (by decide) dX3_alter_33 (fun v23 ev23 => ?_)
          refine lv_iload_n hx hb dX3_alter_34 rfl (lv_at hl 4 rfl) ?_
          refine lv_iadd hx hb dX3_alter_35 ?_
          refine lv_topi (fun v24 ev24 => ?_)
          refine rg_iast hx hb hE hP hD hS (q0 := 3) rfl l2 h11 (by decide) dX3_alter_36 (fun w25 H locs ew25 hP hD hS => ?_)
          have h26 : rg_F w25 f3 0 5 := rg_Ftr (rg_Fst ew25 l2 h11 (by decide)) fr5 (by decide)
          have hP : va_P D vwCl [(q0, .inr (3, [.ref q4, .ref q3])), (q1, .inr (2, [.int s1_0, .int s1_1, .int s1_2, .int s1_3, .int s1_4, .ref q5, .ref q6, .ref q7, .ref q8, .ref q9, .ref q10, .ref q2, .ref q11])), (q2, .inl (cA 0, 6, .inl f2)), (q3, .inl (cA 0, 6, .inl w25))] H := hP
          have hD : va_D A [(q0, .inr (3, [.ref q4, .ref q3])), (q1, .inr (2, [.int s1_0, .int s1_1, .int s1_2, .int s1_3, .int s1_4, .ref q5, .ref q6, .ref q7, .ref q8, .ref q9, .ref q10, .ref q2, .ref q11])), (q2, .inl (cA 0, 6, .inl f2)), (q3, .inl (cA 0, 6, .inl w25))] := hD
          exact jn18 w25 _ _ _ (rg_Fmono h26 (by decide))  hP hD hS (lv_sub hl [0, 1, 2, 3, 4] rfl)
  exact lp6 7 0 f3 _ _ _ (rg_le (by decide : (0 : Int) ≤ (0 : Int32).toInt) (by decide)) (rg_ge (by decide : (0 : Int32).toInt ≤ 0) (by decide)) (rg_Frefl _ _ _)  (rg_mi (by decide : (0 : Int) ≤ (0 : Int32).toInt) (by decide)) hP hD hS (lv_sub hl [0, 1, 2, 3, 4] rfl)
set_option maxHeartbeats 4000000 in
set_option maxRecDepth 100000 in
theorem kX3_canHold_45 (l : Launch) (D : va_G) (cA : Nat → ClassId) (q0 q1 q2 q3 q4 q5 q6 q7 q8 q9 q10 q11 : Nat) (s1_0 : Int32) (s1_1 : Int32) (s1_2 : Int32) (s1_3 : Int32) (s1_4 : Int32) (f2 : Nat → Int32) (f3 : Nat → Int32) (f4 : Nat → Int32) (f5 : Nat → Int32) (a0 : Int32) (s1_0l : 0 ≤ s1_0.toInt) (s1_0u : s1_0.toInt ≤ 6) (s1_1l : 0 ≤ s1_1.toInt) (s1_1u : s1_1.toInt ≤ 4) (s1_2l : 0 ≤ s1_2.toInt) (s1_2u : s1_2.toInt ≤ 9) (s1_3l : 0 ≤ s1_3.toInt) (s1_3u : s1_3.toInt ≤ 9) (s1_4l : 0 ≤ s1_4.toInt) (s1_4u : s1_4.toInt ≤ 6) (f4_0 : rg_S f4 0 6 0 999) (f5_0 : rg_S f5 0 6 0 2) (a0l : (-8) ≤ a0.toInt) (a0u : a0.toInt ≤ 4) : ms_Mi l yX3_canHold wsX3_canHold ({ frames := 2, cells := 0, slots := 0, locals := 63 } : Room) D cA [.ref q0, .ref q1, .int 4, .int a0] [(q0, .inr (3, [.ref q6, .ref q3])), (q1, .inr (2, [.int s1_0, .int s1_1, .int s1_2, .int s1_3, .int s1_4, .ref q7, .ref q8, .ref q9, .ref q10, .ref q11, .ref q5, .ref q2, .ref q4])), (q2, .inl (cA 0, 6, .inl f2)), (q3, .inl (cA 0, 6, .inl f3)), (q4, .inl (cA 0, 6, .inl f4)), (q5, .inl (cA 0, 6, .inl f5))] (fun (r : Int32) (_ : Unit) => (r = 0 ∧ (1 ≤ s1_4.toInt ∧ s1_4.toInt ≤ 6) ∧ True) ∨ (r = 1 ∧ True)) (fun (_ : Unit) => [(q0, .inr (3, [.ref q6, .ref q3])), (q1, .inr (2, [.int s1_0, .int s1_1, .int s1_2, .int s1_3, .int s1_4, .ref q7, .ref q8, .ref q9, .ref q10, .ref q11, .ref q5, .ref q2, .ref q4])), (q2, .inl (cA 0, 6, .inl f2)), (q3, .inl (cA 0, 6, .inl f3)), (q4, .inl (cA 0, 6, .inl f4)), (q5, .inl (cA 0, 6, .inl f5))]) := by
  refine ms_Mi_of (cc := cX3_canHold) (maxL := 6) (ret := (some .boolean)) (by decide) rfl (Nat.le_of_ble_eq_true rfl) ?_
  intro p e s m args below meth c A ls hB hE hA hP hD hS hl
  obtain ⟨hx, hb, hr, hml, hown, hts, hlk, hnm⟩ := hB
  have hown : s.vm.findClass RX3 = some m.cls := hown
  have hnX2 : ∀ w ∈ u_ws RX2 TX2 13, w ∈ wsX3_canHold := fun _ h => List.mem_cons_of_mem _ (List.mem_append_left _ (List.mem_append_right _ (h)))
  have hnX3 : ∀ w ∈ u_ws RX3 TX3 2, w ∈ wsX3_canHold := fun _ h => List.mem_cons_of_mem _ (List.mem_append_right _ (h))
  have hl : lv_has ls 6 [(0, .ref q0), (1, .ref q1), (2, .int 4), (3, .int a0)] := hl
  refine lv_iconst (v := 0) hx hb dX3_canHold_0 (by decide) ?_
  refine lv_istore (lv' := [(4, .int 0), (0, .ref q0), (1, .ref q1), (2, .int 4), (3, .int a0)]) hx hb dX3_canHold_1 hl (by decide) rfl (fun ls hl => ?_)
  have lp4 : ∀ (n5 : Nat) (x1 : Int32) (H : Heap) (locs : List Loc) (ls : Array Slot), 0 ≤ x1.toInt → x1.toInt ≤ 6 → 6 + 1 ≤ x1.toInt + (n5 : Int) → va_P D vwCl [(q0, .inr (3, [.ref q6, .ref q3])), (q1, .inr (2, [.int s1_0, .int s1_1, .int s1_2, .int s1_3, .int s1_4, .ref q7, .ref q8, .ref q9, .ref q10, .ref q11, .ref q5, .ref q2, .ref q4])), (q2, .inl (cA 0, 6, .inl f2)), (q3, .inl (cA 0, 6, .inl f3)), (q4, .inl (cA 0, 6, .inl f4)), (q5, .inl (cA 0, 6, .inl f5))] H → va_D A [(q0, .inr (3, [.ref q6, .ref q3])), (q1, .inr (2, [.int s1_0, .int s1_1, .int s1_2, .int s1_3, .int s1_4, .ref q7, .ref q8, .ref q9, .ref q10, .ref q11, .ref q5, .ref q2, .ref q4])), (q2, .inl (cA 0, 6, .inl f2)), (q3, .inl (cA 0, 6, .inl f3)), (q4, .inl (cA 0, 6, .inl f4)), (q5, .inl (cA 0, 6, .inl f5))] → va_S A s.heap H locs → lv_has ls 6 [(4, .int x1), (0, .ref q0), (1, .ref q1), (2, .int 4), (3, .int a0)] → W p l e ({ frames := 2, cells := 0, slots := 0, locals := 63 } : Room) s m args below meth c H locs 0 0 (MQ below (ms_Qi D A (fun (r : Int32) (_ : Unit) => (r = 0 ∧ (1 ≤ s1_4.toInt ∧ s1_4.toInt ≤ 6) ∧ True) ∨ (r = 1 ∧ True)) (fun (_ : Unit) => [(q0, .inr (3, [.ref q6, .ref q3])), (q1, .inr (2, [.int s1_0, .int s1_1, .int s1_2, .int s1_3, .int s1_4, .ref q7, .ref q8, .ref q9, .ref q10, .ref q11, .ref q5, .ref q2, .ref q4])), (q2, .inl (cA 0, 6, .inl f2)), (q3, .inl (cA 0, 6, .inl f3)), (q4, .inl (cA 0, 6, .inl f4)), (q5, .inl (cA 0, 6, .inl f5))])) args s 0 0 A) (F0 m 3 ls []) := by
    intro n5
    induction n5 with
    | zero => intro x1 H locs ls l2 u3  hm7; exact (rg_m0 hm7 u3).elim
    | succ n5 ih6 =>
      intro x1 H locs ls l2 u3  hm7 hP hD hS hl
      refine lv_iload hx hb dX3_canHold_3 (lv_at hl 0 rfl) ?_
      refine lv_aload_n hx hb dX3_canHold_5 rfl (lv_at hl 2 rfl) ?_
      refine va_get (D := D) (ci := 2) (v := .int s1_4) (C := RX2) (T := TX2) (N := 13) hx hb hts hnX2 hown hE.1 hP 1 rfl rfl 4 (by decide) (hts (.fieldLink RX3 18 "MovedStones$Land" "treaties" "I") (List.mem_cons_of_mem _ (List.mem_append_left _ (List.mem_append_left _ (List.mem_of_getElem? (i := 0) rfl))))) (fun _ h9 => h9) rfl dX3_canHold_6 ?_
      refine lv_icmp_ge (tgt := 57) hx hb dX3_canHold_9 (by decide) (fun c8 => ?_) (fun c8 => ?_)
      · refine lv_iconst (v := 1) hx hb dX3_canHold_57 (by decide) ?_
        exact ms_zret hx hb hr rfl hlk () (Or.inr ⟨rfl, trivial⟩) hP hD hS (Nat.le_of_ble_eq_true rfl) (Nat.le_of_ble_eq_true rfl) dX3_canHold_58
      · have h9 : x1.toInt ≤ 5 := rg_lt_hi (rg_nle c8) s1_4u (by decide)
        have h10 : 1 ≤ s1_4.toInt := rg_lt_lo (rg_nle c8) l2 (by decide)
        refine lv_aload_n hx hb dX3_canHold_12 rfl (lv_at hl 2 rfl) ?_
        refine va_get (D := D) (ci := 2) (v := .ref q2) (C := RX2) (T := TX2) (N := 13) hx hb hts hnX2 hown hE.1 hP 1 rfl rfl 11 (by decide) (hts (.fieldLink RX3 24 "MovedStones$Land" "bound" "[I") (List.mem_cons_of_mem _ (List.mem_append_left _ (List.mem_append_left _ (List.mem_of_getElem? (i := 1) rfl))))) (fun _ h9 => h9) rfl dX3_canHold_13 ?_
        refine lv_iload hx hb dX3_canHold_16 (lv_at hl 0 rfl) ?_
        refine rg_iald0 hx hb hE hP (q0 := 2) rfl l2 h9 (by decide) dX3_canHold_18 (fun v11 ev11 => ?_)
        refine lv_iload_n hx hb dX3_canHold_19 rfl (lv_at hl 3 rfl) ?_
        refine lv_ishr hx hb dX3_canHold_20 ?_
        refine lv_topi (fun v12 ev12 => ?_)
        have jn16 : ∀ (x13 : Int32) (H : Heap) (locs : List Loc) (ls : Array Slot), (-8) ≤ x13.toInt → x13.toInt ≤ 4 → va_P D vwCl [(q0, .inr (3, [.ref q6, .ref q3])), (q1, .inr (2, [.int s1_0, .int s1_1, .int s1_2, .int s1_3, .int s1_4, .ref q7, .ref q8, .ref q9, .ref q10, .ref q11, .ref q5, .ref q2, .ref q4])), (q2, .inl (cA 0, 6, .inl f2)), (q3, .inl (cA 0, 6, .inl f3)), (q4, .inl (cA 0, 6, .inl f4)), (q5, .inl (cA 0, 6, .inl f5))] H → va_D A [(q0, .inr (3, [.ref q6, .ref q3])), (q1, .inr (2, [.int s1_0, .int s1_1, .int s1_2, .int s1_3, .int s1_4, .ref q7, .ref q8, .ref q9, .ref q10, .ref q11, .ref q5, .ref q2, .ref q4])), (q2, .inl (cA 0, 6, .inl f2)), (q3, .inl (cA 0, 6, .inl f3)), (q4, .inl (cA 0, 6, .inl f4)), (q5, .inl (cA 0, 6, .inl f5))] → va_S A s.heap H locs → lv_has ls 6 [(4, .int x1), (0, .ref q0), (1, .ref q1), (2, .int 4), (3, .int a0)] → W p l e ({ frames := 2, cells := 0, slots := 0, locals := 63 } : Room) s m args below meth c H locs 0 0 (MQ below (ms_Qi D A (fun (r : Int32) (_ : Unit) => (r = 0 ∧ (1 ≤ s1_4.toInt ∧ s1_4.toInt ≤ 6) ∧ True) ∨ (r = 1 ∧ True)) (fun (_ : Unit) => [(q0, .inr (3, [.ref q6, .ref q3])), (q1, .inr (2, [.int s1_0, .int s1_1, .int s1_2, .int s1_3, .int s1_4, .ref q7, .ref q8, .ref q9, .ref q10, .ref q11, .ref q5, .ref q2, .ref q4])), (q2, .inl (cA 0, 6, .inl f2)), (q3, .inl (cA 0, 6, .inl f3)), (q4, .inl (cA 0, 6, .inl f4)), (q5, .inl (cA 0, 6, .inl f5))])) args s 0 0 A) (F0 m 29 ls [.int x13]) := by
          intro x13 H locs ls l14 u15  hP hD hS hl
          refine lv_istore (lv' := [(5, .int x13), (4, .int x1), (0, .ref q0), (1, .ref q1), (2, .int 4), (3, .int a0)]) hx hb dX3_canHold_29 hl (by decide) rfl (fun ls hl => ?_)
          refine lv_aload_n hx hb dX3_canHold_31 rfl (lv_at hl 3 rfl) ?_
          refine lv_iload hx hb dX3_canHold_32 (lv_at hl 1 rfl) ?_
          refine lv_aload_n hx hb dX3_canHold_34 rfl (lv_at hl 2 rfl) ?_
          refine va_get (D := D) (ci := 3) (v := .ref q3) (C := RX3) (T := TX3) (N := 2) hx hb hts hnX3 hown hE.1 hP 0 rfl rfl 1 (by decide) (hts (.fieldLink RX3 15 "MovedStones$Mender" "sums" "[I") (List.mem_cons_of_mem _ (List.mem_append_left _ (List.mem_append_left _ (List.mem_of_getElem? (i := 2) rfl))))) (fun _ h9 => h9) rfl dX3_canHold_35 ?_
          refine lv_iload hx hb dX3_canHold_38 (lv_at hl 1 rfl) ?_
          refine rg_iald0 hx hb hE hP (q0 := 3) rfl l2 h9 (by decide) dX3_canHold_40 (fun v17 ev17 => ?_)
          refine ms_cVi (qc := (RX2, TX2, 13)) (wc := [(q1, .inr (2, [.int s1_0, .int s1_1, .int s1_2, .int s1_3, .int s1_4, .ref q7, .ref q8, .ref q9, .ref q10, .ref q11, .ref q5, .ref q2, .ref q4])), (q4, .inl (cA 0, 6, .inl f4)), (q5, .inl (cA 0, 6, .inl f5))]) (wr := [(q0, .inr (3, [.ref q6, .ref q3])), (q2, .inl (cA 0, 6, .inl f2)), (q3, .inl (cA 0, 6, .inl f3))]) ⟨hx, hb, hml, hown, hts⟩ hE (kX2_missing_1 l D cA q1 q4 q5 q7 q8 q9 q10 q11 q2 s1_0 s1_1 s1_2 s1_3 s1_4 f4 f5 x1 v17 (rg_le s1_0l (by decide)) (rg_ge s1_0u (by decide)) (rg_le s1_1l (by decide)) (rg_ge s1_1u (by decide)) (rg_le s1_2l (by decide)) (rg_ge s1_2u (by decide)) (rg_le s1_3l (by decide)) (rg_ge s1_3u (by decide)) (rg_le h10 (by decide)) (rg_ge s1_4u (by decide)) (rg_Smono f4_0 (by decide) (by decide) (by decide) (by decide)) (rg_Smono f5_0 (by decide) (by decide) (by decide) (by decide)) (rg_le l2 (by decide)) (rg_ge h9 (by decide))) (cwV 2 hts gX3_canHold_X2_missing rfl rfl rfl (by decide +kernel) ⟨Nat.le_of_ble_eq_true rfl, Nat.le_of_ble_eq_true rfl⟩) hP hD hS hA [1, 4, 5] [0, 2, 3] rfl rfl rfl rfl (by decide) 0 2 rfl rfl rfl hl.1 rfl (Nat.le_of_ble_eq_true rfl) dX3_canHold_41 ⟨Nat.le_of_ble_eq_true rfl, Nat.le_of_ble_eq_true rfl⟩ (fun r19 u18 H locs hp hP hD hS => ?_)
          obtain ⟨⟨r19l, r19u⟩, -⟩ := hp
          have hP : va_P D vwCl [(q0, .inr (3, [.ref q6, .ref q3])), (q2, .inl (cA 0, 6, .inl f2)), (q3, .inl (cA 0, 6, .inl f3)), (q1, .inr (2, [.int s1_0, .int s1_1, .int s1_2, .int s1_3, .int s1_4, .ref q7, .ref q8, .ref q9, .ref q10, .ref q11, .ref q5, .ref q2, .ref q4])), (q4, .inl (cA 0, 6, .inl f4)), (q5, .inl (cA 0, 6, .inl f5))] H := hP
          have hD : va_D A [(q0, .inr (3, [.ref q6, .ref q3])), (q2, .inl (cA 0, 6, .inl f2)), (q3, .inl (cA 0, 6, .inl f3)), (q1, .inr (2, [.int s1_0, .int s1_1, .int s1_2, .int s1_3, .int s1_4, .ref q7, .ref q8, .ref q9, .ref q10, .ref q11, .ref q5, .ref q2, .ref q4])), (q4, .inl (cA 0, 6, .inl f4)), (q5, .inl (cA 0, 6, .inl f5))] := hD
          refine lv_iload hx hb dX3_canHold_44 (lv_at hl 0 rfl) ?_
          refine lv_icmp_le (tgt := 51) hx hb dX3_canHold_46 (by decide) (fun c20 => ?_) (fun c20 => ?_)
          · have h21 : r19.toInt ≤ 4 := rg_le_hi c20 u15
            refine rg_iinc (lo := 1) (hi := 6) (fun z => [(4, .int z), (5, .int x13), (0, .ref q0), (1, .ref q1), (2, .int 4), (3, .int a0)]) hx hb dX3_canHold_51 hl (k := 1) rfl (by decide) l2 h9 (by decide) (fun _ => rfl) (fun v22 ev22 lv22 uv22 ls hl => ?_)
            have hl : lv_has ls 6 [(4, .int v22), (5, .int x13), (0, .ref q0), (1, .ref q1), (2, .int 4), (3, .int a0)] := hl
            refine lv_goto (tgt := 3) hx hb dX3_canHold_54 (by decide) ?_
            exact ih6 v22 _ _ _ (rg_le lv22 (by decide)) (rg_ge uv22 (by decide))  (rg_ms hm7 ev22 (by decide)) (hP.sub [0, 3, 1, 2, 4, 5] rfl) (hD.sub [0, 3, 1, 2, 4, 5] (by decide) rfl) hS (lv_sub hl [0, 2, 3, 4, 5] rfl)
          · have h23 : (-7) ≤ r19.toInt := rg_lt_lo (rg_nle c20) l14 (by decide)
            refine lv_iconst (v := 0) hx hb dX3_canHold_49 (by decide) ?_
            exact ms_zret hx hb hr rfl hlk () (Or.inl ⟨rfl, ⟨rg_le h10 (by decide), rg_ge s1_4u (by decide)⟩, trivial⟩) (hP.sub [0, 3, 1, 2, 4, 5] rfl) (hD.sub [0, 3, 1, 2, 4, 5] (by decide) rfl) hS (Nat.le_of_ble_eq_true rfl) (Nat.le_of_ble_eq_true rfl) dX3_canHold_50
        refine lv_if_ne (tgt := 28) hx hb dX3_canHold_21 (by decide) (fun c24 => ?_) (fun c24 => ?_)
        · refine lv_iload_n hx hb dX3_canHold_28 rfl (lv_at hl 4 rfl) ?_
          exact jn16 a0 _ _ _ (rg_le a0l (by decide)) (rg_ge a0u (by decide))  hP hD hS (lv_sub hl [0, 1, 2, 3, 4] rfl)
        · have h25 : 0 ≤ v12.toInt := rg_eq_lo c24 (by decide : (0 : Int) ≤ (0 : Int32).toInt)
          have h26 : v12.toInt ≤ 0 := rg_eq_hi c24 (by decide : (0 : Int32).toInt ≤ 0)
          refine lv_iconst (v := 0) hx hb dX3_canHold_24 (by decide) ?_
          refine lv_goto (tgt := 29) hx hb dX3_canHold_25 (by decide) ?_
          exact jn16 0 _ _ _ (rg_le (by decide : (0 : Int) ≤ (0 : Int32).toInt) (by decide)) (rg_ge (by decide : (0 : Int32).toInt ≤ 0) (by decide))  hP hD hS (lv_sub hl [0, 1, 2, 3, 4] rfl)
  exact lp4 7 0 _ _ _ (rg_le (by decide : (0 : Int) ≤ (0 : Int32).toInt) (by decide)) (rg_ge (by decide : (0 : Int32).toInt ≤ 0) (by decide))  (rg_mi (by decide : (0 : Int) ≤ (0 : Int32).toInt) (by decide)) hP hD hS (lv_sub hl [0, 1, 2, 3, 4] rfl)
set_option maxHeartbeats 4000000 in
set_option maxRecDepth 100000 in
theorem kX3_alter_5 (l : Launch) (D : va_G) (cA : Nat → ClassId) (q0 q1 q2 q3 q4 q5 q6 q7 q8 q9 q10 q11 : Nat) (s1_0 : Int32) (s1_1 : Int32) (s1_2 : Int32) (s1_3 : Int32) (s1_4 : Int32) (f2 : Nat → Int32) (f3 : Nat → Int32) (a0 : Int32) (s1_0l : 0 ≤ s1_0.toInt) (s1_0u : s1_0.toInt ≤ 6) (s1_1l : 0 ≤ s1_1.toInt) (s1_1u : s1_1.toInt ≤ 4) (s1_2l : 0 ≤ s1_2.toInt) (s1_2u : s1_2.toInt ≤ 9) (s1_3l : 0 ≤ s1_3.toInt) (s1_3u : s1_3.toInt ≤ 9) (s1_4l : 0 ≤ s1_4.toInt) (s1_4u : s1_4.toInt ≤ 6) : ms_Mv l yX3_alter wsX3_alter ({ frames := 0, cells := 0, slots := 0, locals := 0 } : Room) D cA [.ref q0, .ref q1, .int 4, .int a0] [(q0, .inr (3, [.ref q4, .ref q3])), (q1, .inr (2, [.int s1_0, .int s1_1, .int s1_2, .int s1_3, .int s1_4, .ref q5, .ref q6, .ref q7, .ref q8, .ref q9, .ref q10, .ref q2, .ref q11])), (q2, .inl (cA 0, 6, .inl f2)), (q3, .inl (cA 0, 6, .inl f3))] (fun (u : ((Nat → Int32) × (Nat → Nat → Int32) × (Nat → Int64))) => True) (fun (u : ((Nat → Int32) × (Nat → Nat → Int32) × (Nat → Int64))) => [(q0, .inr (3, [.ref q4, .ref q3])), (q1, .inr (2, [.int s1_0, .int s1_1, .int s1_2, .int s1_3, .int s1_4, .ref q5, .ref q6, .ref q7, .ref q8, .ref q9, .ref q10, .ref q2, .ref q11])), (q2, .inl (cA 0, 6, .inl f2)), (q3, .inl (cA 0, 6, .inl (u.2.1 0)))]) := by
  refine ms_Mv_of (cc := cX3_alter) (maxL := 5) (ret := none) (by decide) rfl (Nat.le_of_ble_eq_true rfl) ?_
  intro p e s m args below meth c A ls hB hE hA hP hD hS hl
  obtain ⟨hx, hb, hr, hml, hown, hts, hlk, hnm⟩ := hB
  have hown : s.vm.findClass RX3 = some m.cls := hown
  have hnX2 : ∀ w ∈ u_ws RX2 TX2 13, w ∈ wsX3_alter := fun _ h => List.mem_cons_of_mem _ (List.mem_append_left _ (List.mem_append_right _ (h)))
  have hnX3 : ∀ w ∈ u_ws RX3 TX3 2, w ∈ wsX3_alter := fun _ h => List.mem_cons_of_mem _ (List.mem_append_right _ (h))
  have hl : lv_has ls 5 [(0, .ref q0), (1, .ref q1), (2, .int 4), (3, .int a0)] := hl
  refine lv_iconst (v := 0) hx hb dX3_alter_0 (by decide) ?_
  refine lv_istore (lv' := [(4, .int 0), (0, .ref q0), (1, .ref q1), (2, .int 4), (3, .int a0)]) hx hb dX3_alter_1 hl (by decide) rfl (fun ls hl => ?_)
  have lp6 : ∀ (n7 : Nat) (x1 : Int32) (w4 : Nat → Int32) (H : Heap) (locs : List Loc) (ls : Array Slot), 0 ≤ x1.toInt → x1.toInt ≤ 6 → rg_F w4 f3 0 5 → 6 + 1 ≤ x1.toInt + (n7 : Int) → va_P D vwCl [(q0, .inr (3, [.ref q4, .ref q3])), (q1, .inr (2, [.int s1_0, .int s1_1, .int s1_2, .int s1_3, .int s1_4, .ref q5, .ref q6, .ref q7, .ref q8, .ref q9, .ref q10, .ref q2, .ref q11])), (q2, .inl (cA 0, 6, .inl f2)), (q3, .inl (cA 0, 6, .inl w4))] H → va_D A [(q0, .inr (3, [.ref q4, .ref q3])), (q1, .inr (2, [.int s1_0, .int s1_1, .int s1_2, .int s1_3, .int s1_4, .ref q5, .ref q6, .ref q7, .ref q8, .ref q9, .ref q10, .ref q2, .ref q11])), (q2, .inl (cA 0, 6, .inl f2)), (q3, .inl (cA 0, 6, .inl w4))] → va_S A s.heap H locs → lv_has ls 5 [(4, .int x1), (0, .ref q0), (1, .ref q1), (2, .int 4), (3, .int a0)] → W p l e ({ frames := 0, cells := 0, slots := 0, locals := 0 } : Room) s m args below meth c H locs 0 0 (MQ below (ms_Qv D A (fun (u : ((Nat → Int32) × (Nat → Nat → Int32) × (Nat → Int64))) => True) (fun (u : ((Nat → Int32) × (Nat → Nat → Int32) × (Nat → Int64))) => [(q0, .inr (3, [.ref q4, .ref q3])), (q1, .inr (2, [.int s1_0, .int s1_1, .int s1_2, .int s1_3, .int s1_4, .ref q5, .ref q6, .ref q7, .ref q8, .ref q9, .ref q10, .ref q2, .ref q11])), (q2, .inl (cA 0, 6, .inl f2)), (q3, .inl (cA 0, 6, .inl (u.2.1 0)))])) args s 0 0 A) (F0 m 3 ls []) := by
    intro n7
    induction n7 with
    | zero => intro x1 w4 H locs ls l2 u3 fr5  hm9; exact (rg_m0 hm9 u3).elim
    | succ n7 ih8 =>
      intro x1 w4 H locs ls l2 u3 fr5  hm9 hP hD hS hl
      refine lv_iload hx hb dX3_alter_3 (lv_at hl 0 rfl) ?_
      refine lv_aload_n hx hb dX3_alter_5 rfl (lv_at hl 2 rfl) ?_
      refine va_get (D := D) (ci := 2) (v := .int s1_4) (C := RX2) (T := TX2) (N := 13) hx hb hts hnX2 hown hE.1 hP 1 rfl rfl 4 (by decide) (hts (.fieldLink RX3 18 "MovedStones$Land" "treaties" "I") (List.mem_cons_of_mem _ (List.mem_append_left _ (List.mem_append_left _ (List.mem_of_getElem? (i := 0) rfl))))) (fun _ h9 => h9) rfl dX3_alter_6 ?_
      refine lv_icmp_ge (tgt := 43) hx hb dX3_alter_9 (by decide) (fun c10 => ?_) (fun c10 => ?_)
      · exact ms_vret hx hb hr hlk (fun i => [].getD i 0, fun i => [w4].getD i ms_z, fun i => [].getD i 0) trivial hP hD hS (Nat.le_of_ble_eq_true rfl) (Nat.le_of_ble_eq_true rfl) dX3_alter_43
      · have h11 : x1.toInt ≤ 5 := rg_lt_hi (rg_nle c10) s1_4u (by decide)
        have h12 : 1 ≤ s1_4.toInt := rg_lt_lo (rg_nle c10) l2 (by decide)
        refine lv_aload_n hx hb dX3_alter_12 rfl (lv_at hl 2 rfl) ?_
        refine va_get (D := D) (ci := 2) (v := .ref q2) (C := RX2) (T := TX2) (N := 13) hx hb hts hnX2 hown hE.1 hP 1 rfl rfl 11 (by decide) (hts (.fieldLink RX3 24 "MovedStones$Land" "bound" "[I") (List.mem_cons_of_mem _ (List.mem_append_left _ (List.mem_append_left _ (List.mem_of_getElem? (i := 1) rfl))))) (fun _ h9 => h9) rfl dX3_alter_13 ?_
        refine lv_iload hx hb dX3_alter_16 (lv_at hl 0 rfl) ?_
        refine rg_iald0 hx hb hE hP (q0 := 2) rfl l2 h11 (by decide) dX3_alter_18 (fun v13 ev13 => ?_)
        refine lv_iload_n hx hb dX3_alter_19 rfl (lv_at hl 3 rfl) ?_
        refine lv_ishr hx hb dX3_alter_20 ?_
        refine lv_topi (fun v14 ev14 => ?_)
        refine lv_iconst (v := 1) hx hb dX3_alter_21 (by decide) ?_
        refine rg_iand1 hx hb dX3_alter_22 (fun v15 ev15 lv15 uv15 => ?_)
        have jn18 : ∀ (w16 : Nat → Int32) (H : Heap) (locs : List Loc) (ls : Array Slot), rg_F w16 f3 0 5 → va_P D vwCl [(q0, .inr (3, [.ref q4, .ref q3])), (q1, .inr (2, [.int s1_0, .int s1_1, .int s1_2, .int s1_3, .int s1_4, .ref q5, .ref q6, .ref q7, .ref q8, .ref q9, .ref q10, .ref q2, .ref q11])), (q2, .inl (cA 0, 6, .inl f2)), (q3, .inl (cA 0, 6, .inl w16))] H → va_D A [(q0, .inr (3, [.ref q4, .ref q3])), (q1, .inr (2, [.int s1_0, .int s1_1, .int s1_2, .int s1_3, .int s1_4, .ref q5, .ref q6, .ref q7, .ref q8, .ref q9, .ref q10, .ref q2, .ref q11])), (q2, .inl (cA 0, 6, .inl f2)), (q3, .inl (cA 0, 6, .inl w16))] → va_S A s.heap H locs → lv_has ls 5 [(4, .int x1), (0, .ref q0), (1, .ref q1), (2, .int 4), (3, .int a0)] → W p l e ({ frames := 0, cells := 0, slots := 0, locals := 0 } : Room) s m args below meth c H locs 0 0 (MQ below (ms_Qv D A (fun (u : ((Nat → Int32) × (Nat → Nat → Int32) × (Nat → Int64))) => True) (fun (u : ((Nat → Int32) × (Nat → Nat → Int32) × (Nat → Int64))) => [(q0, .inr (3, [.ref q4, .ref q3])), (q1, .inr (2, [.int s1_0, .int s1_1, .int s1_2, .int s1_3, .int s1_4, .ref q5, .ref q6, .ref q7, .ref q8, .ref q9, .ref q10, .ref q2, .ref q11])), (q2, .inl (cA 0, 6, .inl f2)), (q3, .inl (cA 0, 6, .inl (u.2.1 0)))])) args s 0 0 A) (F0 m 37 ls []) := by
          intro w16 H locs ls fr17  hP hD hS hl
          refine rg_iinc (lo := 1) (hi := 6) (fun z => [(4, .int z), (0, .ref q0), (1, .ref q1), (2, .int 4), (3, .int a0)]) hx hb dX3_alter_37 hl (k := 0) rfl (by decide) l2 h11 (by decide) (fun _ => rfl) (fun v19 ev19 lv19 uv19 ls hl => ?_)
          have hl : lv_has ls 5 [(4, .int v19), (0, .ref q0), (1, .ref q1), (2, .int 4), (3, .int a0)] := hl
          refine lv_goto (tgt := 3) hx hb dX3_alter_40 (by decide) ?_
          exact ih8 v19 w16 _ _ _ (rg_le lv19 (by decide)) (rg_ge uv19 (by decide)) (rg_Fmono fr17 (by decide))  (rg_ms hm9 ev19 (by decide)) hP hD hS (lv_sub hl [0, 1, 2, 3, 4] rfl)
        refine lv_if_eq (tgt := 37) hx hb dX3_alter_23 (by decide) (fun c20 => ?_) (fun c20 => ?_)
        · have h21 : v15.toInt ≤ 0 := rg_eq_hi c20 (by decide : (0 : Int32).toInt ≤ 0)
          exact jn18 w4 _ _ _ (rg_Fmono fr5 (by decide))  hP hD hS (lv_sub hl [0, 1, 2, 3, 4] rfl)
        · have h22 : 1 ≤ v15.toInt := rg_ne_lo c20 lv15 (by decide : (0 : Int) ≤ (0 : Int32).toInt) (by decide : (0 : Int32).toInt ≤ 0) (by decide)
          refine lv_aload_n hx hb dX3_alter_26 rfl (lv_at hl 1 rfl) ?_
          refine va_get (D := D) (ci := 3) (v := .ref q3) (C := RX3) (T := TX3) (N := 2) hx hb hts hnX3 hown hE.1 hP 0 rfl rfl 1 (by decide) (hts (.fieldLink RX3 15 "MovedStones$Mender" "sums" "[I") (List.mem_cons_of_mem _ (List.mem_append_left _ (List.mem_append_left _ (List.mem_of_getElem? (i := 2) rfl))))) (fun _ h9 => h9) rfl dX3_alter_27 ?_
          refine lv_iload hx hb dX3_alter_30 (lv_at hl 0 rfl) ?_
          refine lv_dup2_11 hx hb dX3_alter_32 rfl rfl ?_
          refine rg_iald0 hx hb hE hP (q0 := 3) rfl l2 h11 (by decide) dX3_alter_33 (fun v23 ev23 => ?_)
          refine lv_iload_n hx hb dX3_alter_34 rfl (lv_at hl 4 rfl) ?_
          refine lv_iadd hx hb dX3_alter_35 ?_
          refine lv_topi (fun v24 ev24 => ?_)
          refine rg_iast hx hb hE hP hD hS (q0 := 3) rfl l2 h11 (by decide) dX3_alter_36 (fun w25 H locs ew25 hP hD hS => ?_)
          have h26 : rg_F w25 f3 0 5 := rg_Ftr (rg_Fst ew25 l2 h11 (by decide)) fr5 (by decide)
          have hP : va_P D vwCl [(q0, .inr (3, [.ref q4, .ref q3])), (q1, .inr (2, [.int s1_0, .int s1_1, .int s1_2, .int s1_3, .int s1_4, .ref q5, .ref q6, .ref q7, .ref q8, .ref q9, .ref q10, .ref q2, .ref q11])), (q2, .inl (cA 0, 6, .inl f2)), (q3, .inl (cA 0, 6, .inl w25))] H := hP
          have hD : va_D A [(q0, .inr (3, [.ref q4, .ref q3])), (q1, .inr (2, [.int s1_0, .int s1_1, .int s1_2, .int s1_3, .int s1_4, .ref q5, .ref q6, .ref q7, .ref q8, .ref q9, .ref q10, .ref q2, .ref q11])), (q2, .inl (cA 0, 6, .inl f2)), (q3, .inl (cA 0, 6, .inl w25))] := hD
          exact jn18 w25 _ _ _ (rg_Fmono h26 (by decide))  hP hD hS (lv_sub hl [0, 1, 2, 3, 4] rfl)
  exact lp6 7 0 f3 _ _ _ (rg_le (by decide : (0 : Int) ≤ (0 : Int32).toInt) (by decide)) (rg_ge (by decide : (0 : Int32).toInt ≤ 0) (by decide)) (rg_Frefl _ _ _)  (rg_mi (by decide : (0 : Int) ≤ (0 : Int32).toInt) (by decide)) hP hD hS (lv_sub hl [0, 1, 2, 3, 4] rfl)
set_option maxHeartbeats 4000000 in
set_option maxRecDepth 100000 in
theorem kX3_canHold_46 (l : Launch) (D : va_G) (cA : Nat → ClassId) (q0 q1 q2 q3 q4 q5 q6 q7 q8 q9 q10 q11 : Nat) (s1_0 : Int32) (s1_1 : Int32) (s1_2 : Int32) (s1_3 : Int32) (s1_4 : Int32) (f2 : Nat → Int32) (f3 : Nat → Int32) (f4 : Nat → Int32) (f5 : Nat → Int32) (a0 : Int32) (s1_0l : 0 ≤ s1_0.toInt) (s1_0u : s1_0.toInt ≤ 6) (s1_1l : 0 ≤ s1_1.toInt) (s1_1u : s1_1.toInt ≤ 4) (s1_2l : 0 ≤ s1_2.toInt) (s1_2u : s1_2.toInt ≤ 9) (s1_3l : 0 ≤ s1_3.toInt) (s1_3u : s1_3.toInt ≤ 9) (s1_4l : 0 ≤ s1_4.toInt) (s1_4u : s1_4.toInt ≤ 6) (f4_0 : rg_S f4 0 6 0 999) (f5_0 : rg_S f5 0 6 0 2) (a0l : (-8) ≤ a0.toInt) (a0u : a0.toInt ≤ 4) : ms_Mi l yX3_canHold wsX3_canHold ({ frames := 2, cells := 0, slots := 0, locals := 63 } : Room) D cA [.ref q0, .ref q1, .int 5, .int a0] [(q0, .inr (3, [.ref q6, .ref q3])), (q1, .inr (2, [.int s1_0, .int s1_1, .int s1_2, .int s1_3, .int s1_4, .ref q7, .ref q8, .ref q9, .ref q10, .ref q11, .ref q5, .ref q2, .ref q4])), (q2, .inl (cA 0, 6, .inl f2)), (q3, .inl (cA 0, 6, .inl f3)), (q4, .inl (cA 0, 6, .inl f4)), (q5, .inl (cA 0, 6, .inl f5))] (fun (r : Int32) (_ : Unit) => (r = 0 ∧ (1 ≤ s1_4.toInt ∧ s1_4.toInt ≤ 6) ∧ True) ∨ (r = 1 ∧ True)) (fun (_ : Unit) => [(q0, .inr (3, [.ref q6, .ref q3])), (q1, .inr (2, [.int s1_0, .int s1_1, .int s1_2, .int s1_3, .int s1_4, .ref q7, .ref q8, .ref q9, .ref q10, .ref q11, .ref q5, .ref q2, .ref q4])), (q2, .inl (cA 0, 6, .inl f2)), (q3, .inl (cA 0, 6, .inl f3)), (q4, .inl (cA 0, 6, .inl f4)), (q5, .inl (cA 0, 6, .inl f5))]) := by
  refine ms_Mi_of (cc := cX3_canHold) (maxL := 6) (ret := (some .boolean)) (by decide) rfl (Nat.le_of_ble_eq_true rfl) ?_
  intro p e s m args below meth c A ls hB hE hA hP hD hS hl
  obtain ⟨hx, hb, hr, hml, hown, hts, hlk, hnm⟩ := hB
  have hown : s.vm.findClass RX3 = some m.cls := hown
  have hnX2 : ∀ w ∈ u_ws RX2 TX2 13, w ∈ wsX3_canHold := fun _ h => List.mem_cons_of_mem _ (List.mem_append_left _ (List.mem_append_right _ (h)))
  have hnX3 : ∀ w ∈ u_ws RX3 TX3 2, w ∈ wsX3_canHold := fun _ h => List.mem_cons_of_mem _ (List.mem_append_right _ (h))
  have hl : lv_has ls 6 [(0, .ref q0), (1, .ref q1), (2, .int 5), (3, .int a0)] := hl
  refine lv_iconst (v := 0) hx hb dX3_canHold_0 (by decide) ?_
  refine lv_istore (lv' := [(4, .int 0), (0, .ref q0), (1, .ref q1), (2, .int 5), (3, .int a0)]) hx hb dX3_canHold_1 hl (by decide) rfl (fun ls hl => ?_)
  have lp4 : ∀ (n5 : Nat) (x1 : Int32) (H : Heap) (locs : List Loc) (ls : Array Slot), 0 ≤ x1.toInt → x1.toInt ≤ 6 → 6 + 1 ≤ x1.toInt + (n5 : Int) → va_P D vwCl [(q0, .inr (3, [.ref q6, .ref q3])), (q1, .inr (2, [.int s1_0, .int s1_1, .int s1_2, .int s1_3, .int s1_4, .ref q7, .ref q8, .ref q9, .ref q10, .ref q11, .ref q5, .ref q2, .ref q4])), (q2, .inl (cA 0, 6, .inl f2)), (q3, .inl (cA 0, 6, .inl f3)), (q4, .inl (cA 0, 6, .inl f4)), (q5, .inl (cA 0, 6, .inl f5))] H → va_D A [(q0, .inr (3, [.ref q6, .ref q3])), (q1, .inr (2, [.int s1_0, .int s1_1, .int s1_2, .int s1_3, .int s1_4, .ref q7, .ref q8, .ref q9, .ref q10, .ref q11, .ref q5, .ref q2, .ref q4])), (q2, .inl (cA 0, 6, .inl f2)), (q3, .inl (cA 0, 6, .inl f3)), (q4, .inl (cA 0, 6, .inl f4)), (q5, .inl (cA 0, 6, .inl f5))] → va_S A s.heap H locs → lv_has ls 6 [(4, .int x1), (0, .ref q0), (1, .ref q1), (2, .int 5), (3, .int a0)] → W p l e ({ frames := 2, cells := 0, slots := 0, locals := 63 } : Room) s m args below meth c H locs 0 0 (MQ below (ms_Qi D A (fun (r : Int32) (_ : Unit) => (r = 0 ∧ (1 ≤ s1_4.toInt ∧ s1_4.toInt ≤ 6) ∧ True) ∨ (r = 1 ∧ True)) (fun (_ : Unit) => [(q0, .inr (3, [.ref q6, .ref q3])), (q1, .inr (2, [.int s1_0, .int s1_1, .int s1_2, .int s1_3, .int s1_4, .ref q7, .ref q8, .ref q9, .ref q10, .ref q11, .ref q5, .ref q2, .ref q4])), (q2, .inl (cA 0, 6, .inl f2)), (q3, .inl (cA 0, 6, .inl f3)), (q4, .inl (cA 0, 6, .inl f4)), (q5, .inl (cA 0, 6, .inl f5))])) args s 0 0 A) (F0 m 3 ls []) := by
    intro n5
    induction n5 with
    | zero => intro x1 H locs ls l2 u3  hm7; exact (rg_m0 hm7 u3).elim
    | succ n5 ih6 =>
      intro x1 H locs ls l2 u3  hm7 hP hD hS hl
      refine lv_iload hx hb dX3_canHold_3 (lv_at hl 0 rfl) ?_
      refine lv_aload_n hx hb dX3_canHold_5 rfl (lv_at hl 2 rfl) ?_
      refine va_get (D := D) (ci := 2) (v := .int s1_4) (C := RX2) (T := TX2) (N := 13) hx hb hts hnX2 hown hE.1 hP 1 rfl rfl 4 (by decide) (hts (.fieldLink RX3 18 "MovedStones$Land" "treaties" "I") (List.mem_cons_of_mem _ (List.mem_append_left _ (List.mem_append_left _ (List.mem_of_getElem? (i := 0) rfl))))) (fun _ h9 => h9) rfl dX3_canHold_6 ?_
      refine lv_icmp_ge (tgt := 57) hx hb dX3_canHold_9 (by decide) (fun c8 => ?_) (fun c8 => ?_)
      · refine lv_iconst (v := 1) hx hb dX3_canHold_57 (by decide) ?_
        exact ms_zret hx hb hr rfl hlk () (Or.inr ⟨rfl, trivial⟩) hP hD hS (Nat.le_of_ble_eq_true rfl) (Nat.le_of_ble_eq_true rfl) dX3_canHold_58
      · have h9 : x1.toInt ≤ 5 := rg_lt_hi (rg_nle c8) s1_4u (by decide)
        have h10 : 1 ≤ s1_4.toInt := rg_lt_lo (rg_nle c8) l2 (by decide)
        refine lv_aload_n hx hb dX3_canHold_12 rfl (lv_at hl 2 rfl) ?_
        refine va_get (D := D) (ci := 2) (v := .ref q2) (C := RX2) (T := TX2) (N := 13) hx hb hts hnX2 hown hE.1 hP 1 rfl rfl 11 (by decide) (hts (.fieldLink RX3 24 "MovedStones$Land" "bound" "[I") (List.mem_cons_of_mem _ (List.mem_append_left _ (List.mem_append_left _ (List.mem_of_getElem? (i := 1) rfl))))) (fun _ h9 => h9) rfl dX3_canHold_13 ?_
        refine lv_iload hx hb dX3_canHold_16 (lv_at hl 0 rfl) ?_
        refine rg_iald0 hx hb hE hP (q0 := 2) rfl l2 h9 (by decide) dX3_canHold_18 (fun v11 ev11 => ?_)
        refine lv_iload_n hx hb dX3_canHold_19 rfl (lv_at hl 3 rfl) ?_
        refine lv_ishr hx hb dX3_canHold_20 ?_
        refine lv_topi (fun v12 ev12 => ?_)
        have jn16 : ∀ (x13 : Int32) (H : Heap) (locs : List Loc) (ls : Array Slot), (-8) ≤ x13.toInt → x13.toInt ≤ 4 → va_P D vwCl [(q0, .inr (3, [.ref q6, .ref q3])), (q1, .inr (2, [.int s1_0, .int s1_1, .int s1_2, .int s1_3, .int s1_4, .ref q7, .ref q8, .ref q9, .ref q10, .ref q11, .ref q5, .ref q2, .ref q4])), (q2, .inl (cA 0, 6, .inl f2)), (q3, .inl (cA 0, 6, .inl f3)), (q4, .inl (cA 0, 6, .inl f4)), (q5, .inl (cA 0, 6, .inl f5))] H → va_D A [(q0, .inr (3, [.ref q6, .ref q3])), (q1, .inr (2, [.int s1_0, .int s1_1, .int s1_2, .int s1_3, .int s1_4, .ref q7, .ref q8, .ref q9, .ref q10, .ref q11, .ref q5, .ref q2, .ref q4])), (q2, .inl (cA 0, 6, .inl f2)), (q3, .inl (cA 0, 6, .inl f3)), (q4, .inl (cA 0, 6, .inl f4)), (q5, .inl (cA 0, 6, .inl f5))] → va_S A s.heap H locs → lv_has ls 6 [(4, .int x1), (0, .ref q0), (1, .ref q1), (2, .int 5), (3, .int a0)] → W p l e ({ frames := 2, cells := 0, slots := 0, locals := 63 } : Room) s m args below meth c H locs 0 0 (MQ below (ms_Qi D A (fun (r : Int32) (_ : Unit) => (r = 0 ∧ (1 ≤ s1_4.toInt ∧ s1_4.toInt ≤ 6) ∧ True) ∨ (r = 1 ∧ True)) (fun (_ : Unit) => [(q0, .inr (3, [.ref q6, .ref q3])), (q1, .inr (2, [.int s1_0, .int s1_1, .int s1_2, .int s1_3, .int s1_4, .ref q7, .ref q8, .ref q9, .ref q10, .ref q11, .ref q5, .ref q2, .ref q4])), (q2, .inl (cA 0, 6, .inl f2)), (q3, .inl (cA 0, 6, .inl f3)), (q4, .inl (cA 0, 6, .inl f4)), (q5, .inl (cA 0, 6, .inl f5))])) args s 0 0 A) (F0 m 29 ls [.int x13]) := by
          intro x13 H locs ls l14 u15  hP hD hS hl
          refine lv_istore (lv' := [(5, .int x13), (4, .int x1), (0, .ref q0), (1, .ref q1), (2, .int 5), (3, .int a0)]) hx hb dX3_canHold_29 hl (by decide) rfl (fun ls hl => ?_)
          refine lv_aload_n hx hb dX3_canHold_31 rfl (lv_at hl 3 rfl) ?_
          refine lv_iload hx hb dX3_canHold_32 (lv_at hl 1 rfl) ?_
          refine lv_aload_n hx hb dX3_canHold_34 rfl (lv_at hl 2 rfl) ?_
          refine va_get (D := D) (ci := 3) (v := .ref q3) (C := RX3) (T := TX3) (N := 2) hx hb hts hnX3 hown hE.1 hP 0 rfl rfl 1 (by decide) (hts (.fieldLink RX3 15 "MovedStones$Mender" "sums" "[I") (List.mem_cons_of_mem _ (List.mem_append_left _ (List.mem_append_left _ (List.mem_of_getElem? (i := 2) rfl))))) (fun _ h9 => h9) rfl dX3_canHold_35 ?_
          refine lv_iload hx hb dX3_canHold_38 (lv_at hl 1 rfl) ?_
          refine rg_iald0 hx hb hE hP (q0 := 3) rfl l2 h9 (by decide) dX3_canHold_40 (fun v17 ev17 => ?_)
          refine ms_cVi (qc := (RX2, TX2, 13)) (wc := [(q1, .inr (2, [.int s1_0, .int s1_1, .int s1_2, .int s1_3, .int s1_4, .ref q7, .ref q8, .ref q9, .ref q10, .ref q11, .ref q5, .ref q2, .ref q4])), (q4, .inl (cA 0, 6, .inl f4)), (q5, .inl (cA 0, 6, .inl f5))]) (wr := [(q0, .inr (3, [.ref q6, .ref q3])), (q2, .inl (cA 0, 6, .inl f2)), (q3, .inl (cA 0, 6, .inl f3))]) ⟨hx, hb, hml, hown, hts⟩ hE (kX2_missing_1 l D cA q1 q4 q5 q7 q8 q9 q10 q11 q2 s1_0 s1_1 s1_2 s1_3 s1_4 f4 f5 x1 v17 (rg_le s1_0l (by decide)) (rg_ge s1_0u (by decide)) (rg_le s1_1l (by decide)) (rg_ge s1_1u (by decide)) (rg_le s1_2l (by decide)) (rg_ge s1_2u (by decide)) (rg_le s1_3l (by decide)) (rg_ge s1_3u (by decide)) (rg_le h10 (by decide)) (rg_ge s1_4u (by decide)) (rg_Smono f4_0 (by decide) (by decide) (by decide) (by decide)) (rg_Smono f5_0 (by decide) (by decide) (by decide) (by decide)) (rg_le l2 (by decide)) (rg_ge h9 (by decide))) (cwV 2 hts gX3_canHold_X2_missing rfl rfl rfl (by decide +kernel) ⟨Nat.le_of_ble_eq_true rfl, Nat.le_of_ble_eq_true rfl⟩) hP hD hS hA [1, 4, 5] [0, 2, 3] rfl rfl rfl rfl (by decide) 0 2 rfl rfl rfl hl.1 rfl (Nat.le_of_ble_eq_true rfl) dX3_canHold_41 ⟨Nat.le_of_ble_eq_true rfl, Nat.le_of_ble_eq_true rfl⟩ (fun r19 u18 H locs hp hP hD hS => ?_)
          obtain ⟨⟨r19l, r19u⟩, -⟩ := hp
          have hP : va_P D vwCl [(q0, .inr (3, [.ref q6, .ref q3])), (q2, .inl (cA 0, 6, .inl f2)), (q3, .inl (cA 0, 6, .inl f3)), (q1, .inr (2, [.int s1_0, .int s1_1, .int s1_2, .int s1_3, .int s1_4, .ref q7, .ref q8, .ref q9, .ref q10, .ref q11, .ref q5, .ref q2, .ref q4])), (q4, .inl (cA 0, 6, .inl f4)), (q5, .inl (cA 0, 6, .inl f5))] H := hP
          have hD : va_D A [(q0, .inr (3, [.ref q6, .ref q3])), (q2, .inl (cA 0, 6, .inl f2)), (q3, .inl (cA 0, 6, .inl f3)), (q1, .inr (2, [.int s1_0, .int s1_1, .int s1_2, .int s1_3, .int s1_4, .ref q7, .ref q8, .ref q9, .ref q10, .ref q11, .ref q5, .ref q2, .ref q4])), (q4, .inl (cA 0, 6, .inl f4)), (q5, .inl (cA 0, 6, .inl f5))] := hD
          refine lv_iload hx hb dX3_canHold_44 (lv_at hl 0 rfl) ?_
          refine lv_icmp_le (tgt := 51) hx hb dX3_canHold_46 (by decide) (fun c20 => ?_) (fun c20 => ?_)
          · have h21 : r19.toInt ≤ 4 := rg_le_hi c20 u15
            refine rg_iinc (lo := 1) (hi := 6) (fun z => [(4, .int z), (5, .int x13), (0, .ref q0), (1, .ref q1), (2, .int 5), (3, .int a0)]) hx hb dX3_canHold_51 hl (k := 1) rfl (by decide) l2 h9 (by decide) (fun _ => rfl) (fun v22 ev22 lv22 uv22 ls hl => ?_)
            have hl : lv_has ls 6 [(4, .int v22), (5, .int x13), (0, .ref q0), (1, .ref q1), (2, .int 5), (3, .int a0)] := hl
            refine lv_goto (tgt := 3) hx hb dX3_canHold_54 (by decide) ?_
            exact ih6 v22 _ _ _ (rg_le lv22 (by decide)) (rg_ge uv22 (by decide))  (rg_ms hm7 ev22 (by decide)) (hP.sub [0, 3, 1, 2, 4, 5] rfl) (hD.sub [0, 3, 1, 2, 4, 5] (by decide) rfl) hS (lv_sub hl [0, 2, 3, 4, 5] rfl)
          · have h23 : (-7) ≤ r19.toInt := rg_lt_lo (rg_nle c20) l14 (by decide)
            refine lv_iconst (v := 0) hx hb dX3_canHold_49 (by decide) ?_
            exact ms_zret hx hb hr rfl hlk () (Or.inl ⟨rfl, ⟨rg_le h10 (by decide), rg_ge s1_4u (by decide)⟩, trivial⟩) (hP.sub [0, 3, 1, 2, 4, 5] rfl) (hD.sub [0, 3, 1, 2, 4, 5] (by decide) rfl) hS (Nat.le_of_ble_eq_true rfl) (Nat.le_of_ble_eq_true rfl) dX3_canHold_50
        refine lv_if_ne (tgt := 28) hx hb dX3_canHold_21 (by decide) (fun c24 => ?_) (fun c24 => ?_)
        · refine lv_iload_n hx hb dX3_canHold_28 rfl (lv_at hl 4 rfl) ?_
          exact jn16 a0 _ _ _ (rg_le a0l (by decide)) (rg_ge a0u (by decide))  hP hD hS (lv_sub hl [0, 1, 2, 3, 4] rfl)
        · have h25 : 0 ≤ v12.toInt := rg_eq_lo c24 (by decide : (0 : Int) ≤ (0 : Int32).toInt)
          have h26 : v12.toInt ≤ 0 := rg_eq_hi c24 (by decide : (0 : Int32).toInt ≤ 0)
          refine lv_iconst (v := 0) hx hb dX3_canHold_24 (by decide) ?_
          refine lv_goto (tgt := 29) hx hb dX3_canHold_25 (by decide) ?_
          exact jn16 0 _ _ _ (rg_le (by decide : (0 : Int) ≤ (0 : Int32).toInt) (by decide)) (rg_ge (by decide : (0 : Int32).toInt ≤ 0) (by decide))  hP hD hS (lv_sub hl [0, 1, 2, 3, 4] rfl)
  exact lp4 7 0 _ _ _ (rg_le (by decide : (0 : Int) ≤ (0 : Int32).toInt) (by decide)) (rg_ge (by decide : (0 : Int32).toInt ≤ 0) (by decide))  (rg_mi (by decide : (0 : Int) ≤ (0 : Int32).toInt) (by decide)) hP hD hS (lv_sub hl [0, 1, 2, 3, 4] rfl)
set_option maxHeartbeats 4000000 in
set_option maxRecDepth 100000 in
theorem kX3_alter_6 (l : Launch) (D : va_G) (cA : Nat → ClassId) (q0 q1 q2 q3 q4 q5 q6 q7 q8 q9 q10 q11 : Nat) (s1_0 : Int32) (s1_1 : Int32) (s1_2 : Int32) (s1_3 : Int32) (s1_4 : Int32) (f2 : Nat → Int32) (f3 : Nat → Int32) (a0 : Int32) (s1_0l : 0 ≤ s1_0.toInt) (s1_0u : s1_0.toInt ≤ 6) (s1_1l : 0 ≤ s1_1.toInt) (s1_1u : s1_1.toInt ≤ 4) (s1_2l : 0 ≤ s1_2.toInt) (s1_2u : s1_2.toInt ≤ 9) (s1_3l : 0 ≤ s1_3.toInt) (s1_3u : s1_3.toInt ≤ 9) (s1_4l : 0 ≤ s1_4.toInt) (s1_4u : s1_4.toInt ≤ 6) : ms_Mv l yX3_alter wsX3_alter ({ frames := 0, cells := 0, slots := 0, locals := 0 } : Room) D cA [.ref q0, .ref q1, .int 5, .int a0] [(q0, .inr (3, [.ref q4, .ref q3])), (q1, .inr (2, [.int s1_0, .int s1_1, .int s1_2, .int s1_3, .int s1_4, .ref q5, .ref q6, .ref q7, .ref q8, .ref q9, .ref q10, .ref q2, .ref q11])), (q2, .inl (cA 0, 6, .inl f2)), (q3, .inl (cA 0, 6, .inl f3))] (fun (u : ((Nat → Int32) × (Nat → Nat → Int32) × (Nat → Int64))) => True) (fun (u : ((Nat → Int32) × (Nat → Nat → Int32) × (Nat → Int64))) => [(q0, .inr (3, [.ref q4, .ref q3])), (q1, .inr (2, [.int s1_0, .int s1_1, .int s1_2, .int s1_3, .int s1_4, .ref q5, .ref q6, .ref q7, .ref q8, .ref q9, .ref q10, .ref q2, .ref q11])), (q2, .inl (cA 0, 6, .inl f2)), (q3, .inl (cA 0, 6, .inl (u.2.1 0)))]) := by
  refine ms_Mv_of (cc := cX3_alter) (maxL := 5) (ret := none) (by decide) rfl (Nat.le_of_ble_eq_true rfl) ?_
  intro p e s m args below meth c A ls hB hE hA hP hD hS hl
  obtain ⟨hx, hb, hr, hml, hown, hts, hlk, hnm⟩ := hB
  have hown : s.vm.findClass RX3 = some m.cls := hown
  have hnX2 : ∀ w ∈ u_ws RX2 TX2 13, w ∈ wsX3_alter := fun _ h => List.mem_cons_of_mem _ (List.mem_append_left _ (List.mem_append_right _ (h)))
  have hnX3 : ∀ w ∈ u_ws RX3 TX3 2, w ∈ wsX3_alter := fun _ h => List.mem_cons_of_mem _ (List.mem_append_right _ (h))
  have hl : lv_has ls 5 [(0, .ref q0), (1, .ref q1), (2, .int 5), (3, .int a0)] := hl
  refine lv_iconst (v := 0) hx hb dX3_alter_0 (by decide) ?_
  refine lv_istore (lv' := [(4, .int 0), (0, .ref q0), (1, .ref q1), (2, .int 5), (3, .int a0)]) hx hb dX3_alter_1 hl (by decide) rfl (fun ls hl => ?_)
  have lp6 : ∀ (n7 : Nat) (x1 : Int32) (w4 : Nat → Int32) (H : Heap) (locs : List Loc) (ls : Array Slot), 0 ≤ x1.toInt → x1.toInt ≤ 6 → rg_F w4 f3 0 5 → 6 + 1 ≤ x1.toInt + (n7 : Int) → va_P D vwCl [(q0, .inr (3, [.ref q4, .ref q3])), (q1, .inr (2, [.int s1_0, .int s1_1, .int s1_2, .int s1_3, .int s1_4, .ref q5, .ref q6, .ref q7, .ref q8, .ref q9, .ref q10, .ref q2, .ref q11])), (q2, .inl (cA 0, 6, .inl f2)), (q3, .inl (cA 0, 6, .inl w4))] H → va_D A [(q0, .inr (3, [.ref q4, .ref q3])), (q1, .inr (2, [.int s1_0, .int s1_1, .int s1_2, .int s1_3, .int s1_4, .ref q5, .ref q6, .ref q7, .ref q8, .ref q9, .ref q10, .ref q2, .ref q11])), (q2, .inl (cA 0, 6, .inl f2)), (q3, .inl (cA 0, 6, .inl w4))] → va_S A s.heap H locs → lv_has ls 5 [(4, .int x1), (0, .ref q0), (1, .ref q1), (2, .int 5), (3, .int a0)] → W p l e ({ frames := 0, cells := 0, slots := 0, locals := 0 } : Room) s m args below meth c H locs 0 0 (MQ below (ms_Qv D A (fun (u : ((Nat → Int32) × (Nat → Nat → Int32) × (Nat → Int64))) => True) (fun (u : ((Nat → Int32) × (Nat → Nat → Int32) × (Nat → Int64))) => [(q0, .inr (3, [.ref q4, .ref q3])), (q1, .inr (2, [.int s1_0, .int s1_1, .int s1_2, .int s1_3, .int s1_4, .ref q5, .ref q6, .ref q7, .ref q8, .ref q9, .ref q10, .ref q2, .ref q11])), (q2, .inl (cA 0, 6, .inl f2)), (q3, .inl (cA 0, 6, .inl (u.2.1 0)))])) args s 0 0 A) (F0 m 3 ls []) := by
    intro n7
    induction n7 with
    | zero => intro x1 w4 H locs ls l2 u3 fr5  hm9; exact (rg_m0 hm9 u3).elim
    | succ n7 ih8 =>
      intro x1 w4 H locs ls l2 u3 fr5  hm9 hP hD hS hl
      refine lv_iload hx hb dX3_alter_3 (lv_at hl 0 rfl) ?_
      refine lv_aload_n hx hb dX3_alter_5 rfl (lv_at hl 2 rfl) ?_
      refine va_get (D := D) (ci := 2) (v := .int s1_4) (C := RX2) (T := TX2) (N := 13) hx hb hts hnX2 hown hE.1 hP 1 rfl rfl 4 (by decide) (hts (.fieldLink RX3 18 "MovedStones$Land" "treaties" "I") (List.mem_cons_of_mem _ (List.mem_append_left _ (List.mem_append_left _ (List.mem_of_getElem? (i := 0) rfl))))) (fun _ h9 => h9) rfl dX3_alter_6 ?_
      refine lv_icmp_ge (tgt := 43) hx hb dX3_alter_9 (by decide) (fun c10 => ?_) (fun c10 => ?_)
      · exact ms_vret hx hb hr hlk (fun i => [].getD i 0, fun i => [w4].getD i ms_z, fun i => [].getD i 0) trivial hP hD hS (Nat.le_of_ble_eq_true rfl) (Nat.le_of_ble_eq_true rfl) dX3_alter_43
      · have h11 : x1.toInt ≤ 5 := rg_lt_hi (rg_nle c10) s1_4u (by decide)
        have h12 : 1 ≤ s1_4.toInt := rg_lt_lo (rg_nle c10) l2 (by decide)
        refine lv_aload_n hx hb dX3_alter_12 rfl (lv_at hl 2 rfl) ?_
        refine va_get (D := D) (ci := 2) (v := .ref q2) (C := RX2) (T := TX2) (N := 13) hx hb hts hnX2 hown hE.1 hP 1 rfl rfl 11 (by decide) (hts (.fieldLink RX3 24 "MovedStones$Land" "bound" "[I") (List.mem_cons_of_mem _ (List.mem_append_left _ (List.mem_append_left _ (List.mem_of_getElem? (i := 1) rfl))))) (fun _ h9 => h9) rfl dX3_alter_13 ?_
        refine lv_iload hx hb dX3_alter_16 (lv_at hl 0 rfl) ?_
        refine rg_iald0 hx hb hE hP (q0 := 2) rfl l2 h11 (by decide) dX3_alter_18 (fun v13 ev13 => ?_)
        refine lv_iload_n hx hb dX3_alter_19 rfl (lv_at hl 3 rfl) ?_
        refine lv_ishr hx hb dX3_alter_20 ?_
        refine lv_topi (fun v14 ev14 => ?_)
        refine lv_iconst (v := 1) hx hb dX3_alter_21 (by decide) ?_
        refine rg_iand1 hx hb dX3_alter_22 (fun v15 ev15 lv15 uv15 => ?_)
        have jn18 : ∀ (w16 : Nat → Int32) (H : Heap) (locs : List Loc) (ls : Array Slot), rg_F w16 f3 0 5 → va_P D vwCl [(q0, .inr (3, [.ref q4, .ref q3])), (q1, .inr (2, [.int s1_0, .int s1_1, .int s1_2, .int s1_3, .int s1_4, .ref q5, .ref q6, .ref q7, .ref q8, .ref q9, .ref q10, .ref q2, .ref q11])), (q2, .inl (cA 0, 6, .inl f2)), (q3, .inl (cA 0, 6, .inl w16))] H → va_D A [(q0, .inr (3, [.ref q4, .ref q3])), (q1, .inr (2, [.int s1_0, .int s1_1, .int s1_2, .int s1_3, .int s1_4, .ref q5, .ref q6, .ref q7, .ref q8, .ref q9, .ref q10, .ref q2, .ref q11])), (q2, .inl (cA 0, 6, .inl f2)), (q3, .inl (cA 0, 6, .inl w16))] → va_S A s.heap H locs → lv_has ls 5 [(4, .int x1), (0, .ref q0), (1, .ref q1), (2, .int 5), (3, .int a0)] → W p l e ({ frames := 0, cells := 0, slots := 0, locals := 0 } : Room) s m args below meth c H locs 0 0 (MQ below (ms_Qv D A (fun (u : ((Nat → Int32) × (Nat → Nat → Int32) × (Nat → Int64))) => True) (fun (u : ((Nat → Int32) × (Nat → Nat → Int32) × (Nat → Int64))) => [(q0, .inr (3, [.ref q4, .ref q3])), (q1, .inr (2, [.int s1_0, .int s1_1, .int s1_2, .int s1_3, .int s1_4, .ref q5, .ref q6, .ref q7, .ref q8, .ref q9, .ref q10, .ref q2, .ref q11])), (q2, .inl (cA 0, 6, .inl f2)), (q3, .inl (cA 0, 6, .inl (u.2.1 0)))])) args s 0 0 A) (F0 m 37 ls []) := by
          intro w16 H locs ls fr17  hP hD hS hl
          refine rg_iinc (lo := 1) (hi := 6) (fun z => [(4, .int z), (0, .ref q0), (1, .ref q1), (2, .int 5), (3, .int a0)]) hx hb dX3_alter_37 hl (k := 0) rfl (by decide) l2 h11 (by decide) (fun _ => rfl) (fun v19 ev19 lv19 uv19 ls hl => ?_)
          have hl : lv_has ls 5 [(4, .int v19), (0, .ref q0), (1, .ref q1), (2, .int 5), (3, .int a0)] := hl
          refine lv_goto (tgt := 3) hx hb dX3_alter_40 (by decide) ?_
          exact ih8 v19 w16 _ _ _ (rg_le lv19 (by decide)) (rg_ge uv19 (by decide)) (rg_Fmono fr17 (by decide))  (rg_ms hm9 ev19 (by decide)) hP hD hS (lv_sub hl [0, 1, 2, 3, 4] rfl)
        refine lv_if_eq (tgt := 37) hx hb dX3_alter_23 (by decide) (fun c20 => ?_) (fun c20 => ?_)
        · have h21 : v15.toInt ≤ 0 := rg_eq_hi c20 (by decide : (0 : Int32).toInt ≤ 0)
          exact jn18 w4 _ _ _ (rg_Fmono fr5 (by decide))  hP hD hS (lv_sub hl [0, 1, 2, 3, 4] rfl)
        · have h22 : 1 ≤ v15.toInt := rg_ne_lo c20 lv15 (by decide : (0 : Int) ≤ (0 : Int32).toInt) (by decide : (0 : Int32).toInt ≤ 0) (by decide)
          refine lv_aload_n hx hb dX3_alter_26 rfl (lv_at hl 1 rfl) ?_
          refine va_get (D := D) (ci := 3) (v := .ref q3) (C := RX3) (T := TX3) (N := 2) hx hb hts hnX3 hown hE.1 hP 0 rfl rfl 1 (by decide) (hts (.fieldLink RX3 15 "MovedStones$Mender" "sums" "[I") (List.mem_cons_of_mem _ (List.mem_append_left _ (List.mem_append_left _ (List.mem_of_getElem? (i := 2) rfl))))) (fun _ h9 => h9) rfl dX3_alter_27 ?_
          refine lv_iload hx hb dX3_alter_30 (lv_at hl 0 rfl) ?_
          refine lv_dup2_11 hx hb dX3_alter_32 rfl rfl ?_
          refine rg_iald0 hx hb hE hP (q0 := 3) rfl l2 h11 (by decide) dX3_alter_33 (fun v23 ev23 => ?_)
          refine lv_iload_n hx hb dX3_alter_34 rfl (lv_at hl 4 rfl) ?_
          refine lv_iadd hx hb dX3_alter_35 ?_
          refine lv_topi (fun v24 ev24 => ?_)
          refine rg_iast hx hb hE hP hD hS (q0 := 3) rfl l2 h11 (by decide) dX3_alter_36 (fun w25 H locs ew25 hP hD hS => ?_)
          have h26 : rg_F w25 f3 0 5 := rg_Ftr (rg_Fst ew25 l2 h11 (by decide)) fr5 (by decide)
          have hP : va_P D vwCl [(q0, .inr (3, [.ref q4, .ref q3])), (q1, .inr (2, [.int s1_0, .int s1_1, .int s1_2, .int s1_3, .int s1_4, .ref q5, .ref q6, .ref q7, .ref q8, .ref q9, .ref q10, .ref q2, .ref q11])), (q2, .inl (cA 0, 6, .inl f2)), (q3, .inl (cA 0, 6, .inl w25))] H := hP
          have hD : va_D A [(q0, .inr (3, [.ref q4, .ref q3])), (q1, .inr (2, [.int s1_0, .int s1_1, .int s1_2, .int s1_3, .int s1_4, .ref q5, .ref q6, .ref q7, .ref q8, .ref q9, .ref q10, .ref q2, .ref q11])), (q2, .inl (cA 0, 6, .inl f2)), (q3, .inl (cA 0, 6, .inl w25))] := hD
          exact jn18 w25 _ _ _ (rg_Fmono h26 (by decide))  hP hD hS (lv_sub hl [0, 1, 2, 3, 4] rfl)
  exact lp6 7 0 f3 _ _ _ (rg_le (by decide : (0 : Int) ≤ (0 : Int32).toInt) (by decide)) (rg_ge (by decide : (0 : Int32).toInt ≤ 0) (by decide)) (rg_Frefl _ _ _)  (rg_mi (by decide : (0 : Int) ≤ (0 : Int32).toInt) (by decide)) hP hD hS (lv_sub hl [0, 1, 2, 3, 4] rfl)
set_option maxHeartbeats 4000000 in
set_option maxRecDepth 100000 in
theorem kX3_canHold_47 (l : Launch) (D : va_G) (cA : Nat → ClassId) (q0 q1 q2 q3 q4 q5 q6 q7 q8 q9 q10 q11 : Nat) (s1_0 : Int32) (s1_1 : Int32) (s1_2 : Int32) (s1_3 : Int32) (s1_4 : Int32) (f2 : Nat → Int32) (f3 : Nat → Int32) (f4 : Nat → Int32) (f5 : Nat → Int32) (a0 : Int32) (s1_0l : 0 ≤ s1_0.toInt) (s1_0u : s1_0.toInt ≤ 6) (s1_1l : 0 ≤ s1_1.toInt) (s1_1u : s1_1.toInt ≤ 4) (s1_2l : 0 ≤ s1_2.toInt) (s1_2u : s1_2.toInt ≤ 9) (s1_3l : 0 ≤ s1_3.toInt) (s1_3u : s1_3.toInt ≤ 9) (s1_4l : 0 ≤ s1_4.toInt) (s1_4u : s1_4.toInt ≤ 6) (f4_0 : rg_S f4 0 6 0 999) (f5_0 : rg_S f5 0 6 0 2) (a0l : (-8) ≤ a0.toInt) (a0u : a0.toInt ≤ 4) : ms_Mi l yX3_canHold wsX3_canHold ({ frames := 2, cells := 0, slots := 0, locals := 63 } : Room) D cA [.ref q0, .ref q1, .int 6, .int a0] [(q0, .inr (3, [.ref q6, .ref q3])), (q1, .inr (2, [.int s1_0, .int s1_1, .int s1_2, .int s1_3, .int s1_4, .ref q7, .ref q8, .ref q9, .ref q10, .ref q11, .ref q5, .ref q2, .ref q4])), (q2, .inl (cA 0, 6, .inl f2)), (q3, .inl (cA 0, 6, .inl f3)), (q4, .inl (cA 0, 6, .inl f4)), (q5, .inl (cA 0, 6, .inl f5))] (fun (r : Int32) (_ : Unit) => (r = 0 ∧ (1 ≤ s1_4.toInt ∧ s1_4.toInt ≤ 6) ∧ True) ∨ (r = 1 ∧ True)) (fun (_ : Unit) => [(q0, .inr (3, [.ref q6, .ref q3])), (q1, .inr (2, [.int s1_0, .int s1_1, .int s1_2, .int s1_3, .int s1_4, .ref q7, .ref q8, .ref q9, .ref q10, .ref q11, .ref q5, .ref q2, .ref q4])), (q2, .inl (cA 0, 6, .inl f2)), (q3, .inl (cA 0, 6, .inl f3)), (q4, .inl (cA 0, 6, .inl f4)), (q5, .inl (cA 0, 6, .inl f5))]) := by
  refine ms_Mi_of (cc := cX3_canHold) (maxL := 6) (ret := (some .boolean)) (by decide) rfl (Nat.le_of_ble_eq_true rfl) ?_
  intro p e s m args below meth c A ls hB hE hA hP hD hS hl
  obtain ⟨hx, hb, hr, hml, hown, hts, hlk, hnm⟩ := hB
  have hown : s.vm.findClass RX3 = some m.cls := hown
  have hnX2 : ∀ w ∈ u_ws RX2 TX2 13, w ∈ wsX3_canHold := fun _ h => List.mem_cons_of_mem _ (List.mem_append_left _ (List.mem_append_right _ (h)))
  have hnX3 : ∀ w ∈ u_ws RX3 TX3 2, w ∈ wsX3_canHold := fun _ h => List.mem_cons_of_mem _ (List.mem_append_right _ (h))
  have hl : lv_has ls 6 [(0, .ref q0), (1, .ref q1), (2, .int 6), (3, .int a0)] := hl
  refine lv_iconst (v := 0) hx hb dX3_canHold_0 (by decide) ?_
  refine lv_istore (lv' := [(4, .int 0), (0, .ref q0), (1, .ref q1), (2, .int 6), (3, .int a0)]) hx hb dX3_canHold_1 hl (by decide) rfl (fun ls hl => ?_)
  have lp4 : ∀ (n5 : Nat) (x1 : Int32) (H : Heap) (locs : List Loc) (ls : Array Slot), 0 ≤ x1.toInt → x1.toInt ≤ 6 → 6 + 1 ≤ x1.toInt + (n5 : Int) → va_P D vwCl [(q0, .inr (3, [.ref q6, .ref q3])), (q1, .inr (2, [.int s1_0, .int s1_1, .int s1_2, .int s1_3, .int s1_4, .ref q7, .ref q8, .ref q9, .ref q10, .ref q11, .ref q5, .ref q2, .ref q4])), (q2, .inl (cA 0, 6, .inl f2)), (q3, .inl (cA 0, 6, .inl f3)), (q4, .inl (cA 0, 6, .inl f4)), (q5, .inl (cA 0, 6, .inl f5))] H → va_D A [(q0, .inr (3, [.ref q6, .ref q3])), (q1, .inr (2, [.int s1_0, .int s1_1, .int s1_2, .int s1_3, .int s1_4, .ref q7, .ref q8, .ref q9, .ref q10, .ref q11, .ref q5, .ref q2, .ref q4])), (q2, .inl (cA 0, 6, .inl f2)), (q3, .inl (cA 0, 6, .inl f3)), (q4, .inl (cA 0, 6, .inl f4)), (q5, .inl (cA 0, 6, .inl f5))] → va_S A s.heap H locs → lv_has ls 6 [(4, .int x1), (0, .ref q0), (1, .ref q1), (2, .int 6), (3, .int a0)] → W p l e ({ frames := 2, cells := 0, slots := 0, locals := 63 } : Room) s m args below meth c H locs 0 0 (MQ below (ms_Qi D A (fun (r : Int32) (_ : Unit) => (r = 0 ∧ (1 ≤ s1_4.toInt ∧ s1_4.toInt ≤ 6) ∧ True) ∨ (r = 1 ∧ True)) (fun (_ : Unit) => [(q0, .inr (3, [.ref q6, .ref q3])), (q1, .inr (2, [.int s1_0, .int s1_1, .int s1_2, .int s1_3, .int s1_4, .ref q7, .ref q8, .ref q9, .ref q10, .ref q11, .ref q5, .ref q2, .ref q4])), (q2, .inl (cA 0, 6, .inl f2)), (q3, .inl (cA 0, 6, .inl f3)), (q4, .inl (cA 0, 6, .inl f4)), (q5, .inl (cA 0, 6, .inl f5))])) args s 0 0 A) (F0 m 3 ls []) := by
    intro n5
    induction n5 with
    | zero => intro x1 H locs ls l2 u3  hm7; exact (rg_m0 hm7 u3).elim
    | succ n5 ih6 =>
      intro x1 H locs ls l2 u3  hm7 hP hD hS hl
      refine lv_iload hx hb dX3_canHold_3 (lv_at hl 0 rfl) ?_
      refine lv_aload_n hx hb dX3_canHold_5 rfl (lv_at hl 2 rfl) ?_
      refine va_get (D := D) (ci := 2) (v := .int s1_4) (C := RX2) (T := TX2) (N := 13) hx hb hts hnX2 hown hE.1 hP 1 rfl rfl 4 (by decide) (hts (.fieldLink RX3 18 "MovedStones$Land" "treaties" "I") (List.mem_cons_of_mem _ (List.mem_append_left _ (List.mem_append_left _ (List.mem_of_getElem? (i := 0) rfl))))) (fun _ h9 => h9) rfl dX3_canHold_6 ?_
      refine lv_icmp_ge (tgt := 57) hx hb dX3_canHold_9 (by decide) (fun c8 => ?_) (fun c8 => ?_)
      · refine lv_iconst (v := 1) hx hb dX3_canHold_57 (by decide) ?_
        exact ms_zret hx hb hr rfl hlk () (Or.inr ⟨rfl, trivial⟩) hP hD hS (Nat.le_of_ble_eq_true rfl) (Nat.le_of_ble_eq_true rfl) dX3_canHold_58
      · have h9 : x1.toInt ≤ 5 := rg_lt_hi (rg_nle c8) s1_4u (by decide)
        have h10 : 1 ≤ s1_4.toInt := rg_lt_lo (rg_nle c8) l2 (by decide)
        refine lv_aload_n hx hb dX3_canHold_12 rfl (lv_at hl 2 rfl) ?_
        refine va_get (D := D) (ci := 2) (v := .ref q2) (C := RX2) (T := TX2) (N := 13) hx hb hts hnX2 hown hE.1 hP 1 rfl rfl 11 (by decide) (hts (.fieldLink RX3 24 "MovedStones$Land" "bound" "[I") (List.mem_cons_of_mem _ (List.mem_append_left _ (List.mem_append_left _ (List.mem_of_getElem? (i := 1) rfl))))) (fun _ h9 => h9) rfl dX3_canHold_13 ?_
        refine lv_iload hx hb dX3_canHold_16 (lv_at hl 0 rfl) ?_
        refine rg_iald0 hx hb hE hP (q0 := 2) rfl l2 h9 (by decide) dX3_canHold_18 (fun v11 ev11 => ?_)
        refine lv_iload_n hx hb dX3_canHold_19 rfl (lv_at hl 3 rfl) ?_
        refine lv_ishr hx hb dX3_canHold_20 ?_
        refine lv_topi (fun v12 ev12 => ?_)
        have jn16 : ∀ (x13 : Int32) (H : Heap) (locs : List Loc) (ls : Array Slot), (-8) ≤ x13.toInt → x13.toInt ≤ 4 → va_P D vwCl [(q0, .inr (3, [.ref q6, .ref q3])), (q1, .inr (2, [.int s1_0, .int s1_1, .int s1_2, .int s1_3, .int s1_4, .ref q7, .ref q8, .ref q9, .ref q10, .ref q11, .ref q5, .ref q2, .ref q4])), (q2, .inl (cA 0, 6, .inl f2)), (q3, .inl (cA 0, 6, .inl f3)), (q4, .inl (cA 0, 6, .inl f4)), (q5, .inl (cA 0, 6, .inl f5))] H → va_D A [(q0, .inr (3, [.ref q6, .ref q3])), (q1, .inr (2, [.int s1_0, .int s1_1, .int s1_2, .int s1_3, .int s1_4, .ref q7, .ref q8, .ref q9, .ref q10, .ref q11, .ref q5, .ref q2, .ref q4])), (q2, .inl (cA 0, 6, .inl f2)), (q3, .inl (cA 0, 6, .inl f3)), (q4, .inl (cA 0, 6, .inl f4)), (q5, .inl (cA 0, 6, .inl f5))] → va_S A s.heap H locs → lv_has ls 6 [(4, .int x1), (0, .ref q0), (1, .ref q1), (2, .int 6), (3, .int a0)] → W p l e ({ frames := 2, cells := 0, slots := 0, locals := 63 } : Room) s m args below meth c H locs 0 0 (MQ below (ms_Qi D A (fun (r : Int32) (_ : Unit) => (r = 0 ∧ (1 ≤ s1_4.toInt ∧ s1_4.toInt ≤ 6) ∧ True) ∨ (r = 1 ∧ True)) (fun (_ : Unit) => [(q0, .inr (3, [.ref q6, .ref q3])), (q1, .inr (2, [.int s1_0, .int s1_1, .int s1_2, .int s1_3, .int s1_4, .ref q7, .ref q8, .ref q9, .ref q10, .ref q11, .ref q5, .ref q2, .ref q4])), (q2, .inl (cA 0, 6, .inl f2)), (q3, .inl (cA 0, 6, .inl f3)), (q4, .inl (cA 0, 6, .inl f4)), (q5, .inl (cA 0, 6, .inl f5))])) args s 0 0 A) (F0 m 29 ls [.int x13]) := by
          intro x13 H locs ls l14 u15  hP hD hS hl
          refine lv_istore (lv' := [(5, .int x13), (4, .int x1), (0, .ref q0), (1, .ref q1), (2, .int 6), (3, .int a0)]) hx hb dX3_canHold_29 hl (by decide) rfl (fun ls hl => ?_)
          refine lv_aload_n hx hb dX3_canHold_31 rfl (lv_at hl 3 rfl) ?_
          refine lv_iload hx hb dX3_canHold_32 (lv_at hl 1 rfl) ?_
          refine lv_aload_n hx hb dX3_canHold_34 rfl (lv_at hl 2 rfl) ?_
          refine va_get (D := D) (ci := 3) (v := .ref q3) (C := RX3) (T := TX3) (N := 2) hx hb hts hnX3 hown hE.1 hP 0 rfl rfl 1 (by decide) (hts (.fieldLink RX3 15 "MovedStones$Mender" "sums" "[I") (List.mem_cons_of_mem _ (List.mem_append_left _ (List.mem_append_left _ (List.mem_of_getElem? (i := 2) rfl))))) (fun _ h9 => h9) rfl dX3_canHold_35 ?_
          refine lv_iload hx hb dX3_canHold_38 (lv_at hl 1 rfl) ?_
          refine rg_iald0 hx hb hE hP (q0 := 3) rfl l2 h9 (by decide) dX3_canHold_40 (fun v17 ev17 => ?_)
          refine ms_cVi (qc := (RX2, TX2, 13)) (wc := [(q1, .inr (2, [.int s1_0, .int s1_1, .int s1_2, .int s1_3, .int s1_4, .ref q7, .ref q8, .ref q9, .ref q10, .ref q11, .ref q5, .ref q2, .ref q4])), (q4, .inl (cA 0, 6, .inl f4)), (q5, .inl (cA 0, 6, .inl f5))]) (wr := [(q0, .inr (3, [.ref q6, .ref q3])), (q2, .inl (cA 0, 6, .inl f2)), (q3, .inl (cA 0, 6, .inl f3))]) ⟨hx, hb, hml, hown, hts⟩ hE (kX2_missing_1 l D cA q1 q4 q5 q7 q8 q9 q10 q11 q2 s1_0 s1_1 s1_2 s1_3 s1_4 f4 f5 x1 v17 (rg_le s1_0l (by decide)) (rg_ge s1_0u (by decide)) (rg_le s1_1l (by decide)) (rg_ge s1_1u (by decide)) (rg_le s1_2l (by decide)) (rg_ge s1_2u (by decide)) (rg_le s1_3l (by decide)) (rg_ge s1_3u (by decide)) (rg_le h10 (by decide)) (rg_ge s1_4u (by decide)) (rg_Smono f4_0 (by decide) (by decide) (by decide) (by decide)) (rg_Smono f5_0 (by decide) (by decide) (by decide) (by decide)) (rg_le l2 (by decide)) (rg_ge h9 (by decide))) (cwV 2 hts gX3_canHold_X2_missing rfl rfl rfl (by decide +kernel) ⟨Nat.le_of_ble_eq_true rfl, Nat.le_of_ble_eq_true rfl⟩) hP hD hS hA [1, 4, 5] [0, 2, 3] rfl rfl rfl rfl (by decide) 0 2 rfl rfl rfl hl.1 rfl (Nat.le_of_ble_eq_true rfl) dX3_canHold_41 ⟨Nat.le_of_ble_eq_true rfl, Nat.le_of_ble_eq_true rfl⟩ (fun r19 u18 H locs hp hP hD hS => ?_)
          obtain ⟨⟨r19l, r19u⟩, -⟩ := hp
          have hP : va_P D vwCl [(q0, .inr (3, [.ref q6, .ref q3])), (q2, .inl (cA 0, 6, .inl f2)), (q3, .inl (cA 0, 6, .inl f3)), (q1, .inr (2, [.int s1_0, .int s1_1, .int s1_2, .int s1_3, .int s1_4, .ref q7, .ref q8, .ref q9, .ref q10, .ref q11, .ref q5, .ref q2, .ref q4])), (q4, .inl (cA 0, 6, .inl f4)), (q5, .inl (cA 0, 6, .inl f5))] H := hP
          have hD : va_D A [(q0, .inr (3, [.ref q6, .ref q3])), (q2, .inl (cA 0, 6, .inl f2)), (q3, .inl (cA 0, 6, .inl f3)), (q1, .inr (2, [.int s1_0, .int s1_1, .int s1_2, .int s1_3, .int s1_4, .ref q7, .ref q8, .ref q9, .ref q10, .ref q11, .ref q5, .ref q2, .ref q4])), (q4, .inl (cA 0, 6, .inl f4)), (q5, .inl (cA 0, 6, .inl f5))] := hD
          refine lv_iload hx hb dX3_canHold_44 (lv_at hl 0 rfl) ?_
          refine lv_icmp_le (tgt := 51) hx hb dX3_canHold_46 (by decide) (fun c20 => ?_) (fun c20 => ?_)
          · have h21 : r19.toInt ≤ 4 := rg_le_hi c20 u15
            refine rg_iinc (lo := 1) (hi := 6) (fun z => [(4, .int z), (5, .int x13), (0, .ref q0), (1, .ref q1), (2, .int 6), (3, .int a0)]) hx hb dX3_canHold_51 hl (k := 1) rfl (by decide) l2 h9 (by decide) (fun _ => rfl) (fun v22 ev22 lv22 uv22 ls hl => ?_)
            have hl : lv_has ls 6 [(4, .int v22), (5, .int x13), (0, .ref q0), (1, .ref q1), (2, .int 6), (3, .int a0)] := hl
            refine lv_goto (tgt := 3) hx hb dX3_canHold_54 (by decide) ?_
            exact ih6 v22 _ _ _ (rg_le lv22 (by decide)) (rg_ge uv22 (by decide))  (rg_ms hm7 ev22 (by decide)) (hP.sub [0, 3, 1, 2, 4, 5] rfl) (hD.sub [0, 3, 1, 2, 4, 5] (by decide) rfl) hS (lv_sub hl [0, 2, 3, 4, 5] rfl)
          · have h23 : (-7) ≤ r19.toInt := rg_lt_lo (rg_nle c20) l14 (by decide)
            refine lv_iconst (v := 0) hx hb dX3_canHold_49 (by decide) ?_
            exact ms_zret hx hb hr rfl hlk () (Or.inl ⟨rfl, ⟨rg_le h10 (by decide), rg_ge s1_4u (by decide)⟩, trivial⟩) (hP.sub [0, 3, 1, 2, 4, 5] rfl) (hD.sub [0, 3, 1, 2, 4, 5] (by decide) rfl) hS (Nat.le_of_ble_eq_true rfl) (Nat.le_of_ble_eq_true rfl) dX3_canHold_50
        refine lv_if_ne (tgt := 28) hx hb dX3_canHold_21 (by decide) (fun c24 => ?_) (fun c24 => ?_)
        · refine lv_iload_n hx hb dX3_canHold_28 rfl (lv_at hl 4 rfl) ?_
          exact jn16 a0 _ _ _ (rg_le a0l (by decide)) (rg_ge a0u (by decide))  hP hD hS (lv_sub hl [0, 1, 2, 3, 4] rfl)
        · have h25 : 0 ≤ v12.toInt := rg_eq_lo c24 (by decide : (0 : Int) ≤ (0 : Int32).toInt)
          have h26 : v12.toInt ≤ 0 := rg_eq_hi c24 (by decide : (0 : Int32).toInt ≤ 0)
          refine lv_iconst (v := 0) hx hb dX3_canHold_24 (by decide) ?_
          refine lv_goto (tgt := 29) hx hb dX3_canHold_25 (by decide) ?_
          exact jn16 0 _ _ _ (rg_le (by decide : (0 : Int) ≤ (0 : Int32).toInt) (by decide)) (rg_ge (by decide : (0 : Int32).toInt ≤ 0) (by decide))  hP hD hS (lv_sub hl [0, 1, 2, 3, 4] rfl)
  exact lp4 7 0 _ _ _ (rg_le (by decide : (0 : Int) ≤ (0 : Int32).toInt) (by decide)) (rg_ge (by decide : (0 : Int32).toInt ≤ 0) (by decide))  (rg_mi (by decide : (0 : Int) ≤ (0 : Int32).toInt) (by decide)) hP hD hS (lv_sub hl [0, 1, 2, 3, 4] rfl)
set_option maxHeartbeats 4000000 in
set_option maxRecDepth 100000 in
theorem kX3_alter_7 (l : Launch) (D : va_G) (cA : Nat → ClassId) (q0 q1 q2 q3 q4 q5 q6 q7 q8 q9 q10 q11 : Nat) (s1_0 : Int32) (s1_1 : Int32) (s1_2 : Int32) (s1_3 : Int32) (s1_4 : Int32) (f2 : Nat → Int32) (f3 : Nat → Int32) (a0 : Int32) (s1_0l : 0 ≤ s1_0.toInt) (s1_0u : s1_0.toInt ≤ 6) (s1_1l : 0 ≤ s1_1.toInt) (s1_1u : s1_1.toInt ≤ 4) (s1_2l : 0 ≤ s1_2.toInt) (s1_2u : s1_2.toInt ≤ 9) (s1_3l : 0 ≤ s1_3.toInt) (s1_3u : s1_3.toInt ≤ 9) (s1_4l : 0 ≤ s1_4.toInt) (s1_4u : s1_4.toInt ≤ 6) : ms_Mv l yX3_alter wsX3_alter ({ frames := 0, cells := 0, slots := 0, locals := 0 } : Room) D cA [.ref q0, .ref q1, .int 6, .int a0] [(q0, .inr (3, [.ref q4, .ref q3])), (q1, .inr (2, [.int s1_0, .int s1_1, .int s1_2, .int s1_3, .int s1_4, .ref q5, .ref q6, .ref q7, .ref q8, .ref q9, .ref q10, .ref q2, .ref q11])), (q2, .inl (cA 0, 6, .inl f2)), (q3, .inl (cA 0, 6, .inl f3))] (fun (u : ((Nat → Int32) × (Nat → Nat → Int32) × (Nat → Int64))) => True) (fun (u : ((Nat → Int32) × (Nat → Nat → Int32) × (Nat → Int64))) => [(q0, .inr (3, [.ref q4, .ref q3])), (q1, .inr (2, [.int s1_0, .int s1_1, .int s1_2, .int s1_3, .int s1_4, .ref q5, .ref q6, .ref q7, .ref q8, .ref q9, .ref q10, .ref q2, .ref q11])), (q2, .inl (cA 0, 6, .inl f2)), (q3, .inl (cA 0, 6, .inl (u.2.1 0)))]) := by
  refine ms_Mv_of (cc := cX3_alter) (maxL := 5) (ret := none) (by decide) rfl (Nat.le_of_ble_eq_true rfl) ?_
  intro p e s m args below meth c A ls hB hE hA hP hD hS hl
  obtain ⟨hx, hb, hr, hml, hown, hts, hlk, hnm⟩ := hB
  have hown : s.vm.findClass RX3 = some m.cls := hown
  have hnX2 : ∀ w ∈ u_ws RX2 TX2 13, w ∈ wsX3_alter := fun _ h => List.mem_cons_of_mem _ (List.mem_append_left _ (List.mem_append_right _ (h)))
  have hnX3 : ∀ w ∈ u_ws RX3 TX3 2, w ∈ wsX3_alter := fun _ h => List.mem_cons_of_mem _ (List.mem_append_right _ (h))
  have hl : lv_has ls 5 [(0, .ref q0), (1, .ref q1), (2, .int 6), (3, .int a0)] := hl
  refine lv_iconst (v := 0) hx hb dX3_alter_0 (by decide) ?_
  refine lv_istore (lv' := [(4, .int 0), (0, .ref q0), (1, .ref q1), (2, .int 6), (3, .int a0)]) hx hb dX3_alter_1 hl (by decide) rfl (fun ls hl => ?_)
  have lp6 : ∀ (n7 : Nat) (x1 : Int32) (w4 : Nat → Int32) (H : Heap) (locs : List Loc) (ls : Array Slot), 0 ≤ x1.toInt → x1.toInt ≤ 6 → rg_F w4 f3 0 5 → 6 + 1 ≤ x1.toInt + (n7 : Int) → va_P D vwCl [(q0, .inr (3, [.ref q4, .ref q3])), (q1, .inr (2, [.int s1_0, .int s1_1, .int s1_2, .int s1_3, .int s1_4, .ref q5, .ref q6, .ref q7, .ref q8, .ref q9, .ref q10, .ref q2, .ref q11])), (q2, .inl (cA 0, 6, .inl f2)), (q3, .inl (cA 0, 6, .inl w4))] H → va_D A [(q0, .inr (3, [.ref q4, .ref q3])), (q1, .inr (2, [.int s1_0, .int s1_1, .int s1_2, .int s1_3, .int s1_4, .ref q5, .ref q6, .ref q7, .ref q8, .ref q9, .ref q10, .ref q2, .ref q11])), (q2, .inl (cA 0, 6, .inl f2)), (q3, .inl (cA 0, 6, .inl w4))] → va_S A s.heap H locs → lv_has ls 5 [(4, .int x1), (0, .ref q0), (1, .ref q1), (2, .int 6), (3, .int a0)] → W p l e ({ frames := 0, cells := 0, slots := 0, locals := 0 } : Room) s m args below meth c H locs 0 0 (MQ below (ms_Qv D A (fun (u : ((Nat → Int32) × (Nat → Nat → Int32) × (Nat → Int64))) => True) (fun (u : ((Nat → Int32) × (Nat → Nat → Int32) × (Nat → Int64))) => [(q0, .inr (3, [.ref q4, .ref q3])), (q1, .inr (2, [.int s1_0, .int s1_1, .int s1_2, .int s1_3, .int s1_4, .ref q5, .ref q6, .ref q7, .ref q8, .ref q9, .ref q10, .ref q2, .ref q11])), (q2, .inl (cA 0, 6, .inl f2)), (q3, .inl (cA 0, 6, .inl (u.2.1 0)))])) args s 0 0 A) (F0 m 3 ls []) := by
    intro n7
    induction n7 with
    | zero => intro x1 w4 H locs ls l2 u3 fr5  hm9; exact (rg_m0 hm9 u3).elim
    | succ n7 ih8 =>
      intro x1 w4 H locs ls l2 u3 fr5  hm9 hP hD hS hl
      refine lv_iload hx hb dX3_alter_3 (lv_at hl 0 rfl) ?_
      refine lv_aload_n hx hb dX3_alter_5 rfl (lv_at hl 2 rfl) ?_
      refine va_get (D := D) (ci := 2) (v := .int s1_4) (C := RX2) (T := TX2) (N := 13) hx hb hts hnX2 hown hE.1 hP 1 rfl rfl 4 (by decide) (hts (.fieldLink RX3 18 "MovedStones$Land" "treaties" "I") (List.mem_cons_of_mem _ (List.mem_append_left _ (List.mem_append_left _ (List.mem_of_getElem? (i := 0) rfl))))) (fun _ h9 => h9) rfl dX3_alter_6 ?_
      refine lv_icmp_ge (tgt := 43) hx hb dX3_alter_9 (by decide) (fun c10 => ?_) (fun c10 => ?_)
      · exact ms_vret hx hb hr hlk (fun i => [].getD i 0, fun i => [w4].getD i ms_z, fun i => [].getD i 0) trivial hP hD hS (Nat.le_of_ble_eq_true rfl) (Nat.le_of_ble_eq_true rfl) dX3_alter_43
      · have h11 : x1.toInt ≤ 5 := rg_lt_hi (rg_nle c10) s1_4u (by decide)
        have h12 : 1 ≤ s1_4.toInt := rg_lt_lo (rg_nle c10) l2 (by decide)
        refine lv_aload_n hx hb dX3_alter_12 rfl (lv_at hl 2 rfl) ?_
        refine va_get (D := D) (ci := 2) (v := .ref q2) (C := RX2) (T := TX2) (N := 13) hx hb hts hnX2 hown hE.1 hP 1 rfl rfl 11 (by decide) (hts (.fieldLink RX3 24 "MovedStones$Land" "bound" "[I") (List.mem_cons_of_mem _ (List.mem_append_left _ (List.mem_append_left _ (List.mem_of_getElem? (i := 1) rfl))))) (fun _ h9 => h9) rfl dX3_alter_13 ?_
        refine lv_iload hx hb dX3_alter_16 (lv_at hl 0 rfl) ?_
        refine rg_iald0 hx hb hE hP (q0 := 2) rfl l2 h11 (by decide) dX3_alter_18 (fun v13 ev13 => ?_)
        refine lv_iload_n hx hb dX3_alter_19 rfl (lv_at hl 3 rfl) ?_
        refine lv_ishr hx hb dX3_alter_20 ?_
        refine lv_topi (fun v14 ev14 => ?_)
        refine lv_iconst (v := 1) hx hb dX3_alter_21 (by decide) ?_
        refine rg_iand1 hx hb dX3_alter_22 (fun v15 ev15 lv15 uv15 => ?_)
        have jn18 : ∀ (w16 : Nat → Int32) (H : Heap) (locs : List Loc) (ls : Array Slot), rg_F w16 f3 0 5 → va_P D vwCl [(q0, .inr (3, [.ref q4, .ref q3])), (q1, .inr (2, [.int s1_0, .int s1_1, .int s1_2, .int s1_3, .int s1_4, .ref q5, .ref q6, .ref q7, .ref q8, .ref q9, .ref q10, .ref q2, .ref q11])), (q2, .inl (cA 0, 6, .inl f2)), (q3, .inl (cA 0, 6, .inl w16))] H → va_D A [(q0, .inr (3, [.ref q4, .ref q3])), (q1, .inr (2, [.int s1_0, .int s1_1, .int s1_2, .int s1_3, .int s1_4, .ref q5, .ref q6, .ref q7, .ref q8, .ref q9, .ref q10, .ref q2, .ref q11])), (q2, .inl (cA 0, 6, .inl f2)), (q3, .inl (cA 0, 6, .inl w16))] → va_S A s.heap H locs → lv_has ls 5 [(4, .int x1), (0, .ref q0), (1, .ref q1), (2, .int 6), (3, .int a0)] → W p l e ({ frames := 0, cells := 0, slots := 0, locals := 0 } : Room) s m args below meth c H locs 0 0 (MQ below (ms_Qv D A (fun (u : ((Nat → Int32) × (Nat → Nat → Int32) × (Nat → Int64))) => True) (fun (u : ((Nat → Int32) × (Nat → Nat → Int32) × (Nat → Int64))) => [(q0, .inr (3, [.ref q4, .ref q3])), (q1, .inr (2, [.int s1_0, .int s1_1, .int s1_2, .int s1_3, .int s1_4, .ref q5, .ref q6, .ref q7, .ref q8, .ref q9, .ref q10, .ref q2, .ref q11])), (q2, .inl (cA 0, 6, .inl f2)), (q3, .inl (cA 0, 6, .inl (u.2.1 0)))])) args s 0 0 A) (F0 m 37 ls []) := by
          intro w16 H locs ls fr17  hP hD hS hl
          refine rg_iinc (lo := 1) (hi := 6) (fun z => [(4, .int z), (0, .ref q0), (1, .ref q1), (2, .int 6), (3, .int a0)]) hx hb dX3_alter_37 hl (k := 0) rfl (by decide) l2 h11 (by decide) (fun _ => rfl) (fun v19 ev19 lv19 uv19 ls hl => ?_)
          have hl : lv_has ls 5 [(4, .int v19), (0, .ref q0), (1, .ref q1), (2, .int 6), (3, .int a0)] := hl
          refine lv_goto (tgt := 3) hx hb dX3_alter_40 (by decide) ?_
          exact ih8 v19 w16 _ _ _ (rg_le lv19 (by decide)) (rg_ge uv19 (by decide)) (rg_Fmono fr17 (by decide))  (rg_ms hm9 ev19 (by decide)) hP hD hS (lv_sub hl [0, 1, 2, 3, 4] rfl)
        refine lv_if_eq (tgt := 37) hx hb dX3_alter_23 (by decide) (fun c20 => ?_) (fun c20 => ?_)
        · have h21 : v15.toInt ≤ 0 := rg_eq_hi c20 (by decide : (0 : Int32).toInt ≤ 0)
          exact jn18 w4 _ _ _ (rg_Fmono fr5 (by decide))  hP hD hS (lv_sub hl [0, 1, 2, 3, 4] rfl)
        · have h22 : 1 ≤ v15.toInt := rg_ne_lo c20 lv15 (by decide : (0 : Int) ≤ (0 : Int32).toInt) (by decide : (0 : Int32).toInt ≤ 0) (by decide)
          refine lv_aload_n hx hb dX3_alter_26 rfl (lv_at hl 1 rfl) ?_
          refine va_get (D := D) (ci := 3) (v := .ref q3) (C := RX3) (T := TX3) (N := 2) hx hb hts hnX3 hown hE.1 hP 0 rfl rfl 1 (by decide) (hts (.fieldLink RX3 15 "MovedStones$Mender" "sums" "[I") (List.mem_cons_of_mem _ (List.mem_append_left _ (List.mem_append_left _ (List.mem_of_getElem? (i := 2) rfl))))) (fun _ h9 => h9) rfl dX3_alter_27 ?_
          refine lv_iload hx hb dX3_alter_30 (lv_at hl 0 rfl) ?_
          refine lv_dup2_11 hx hb dX3_alter_32 rfl rfl ?_
          refine rg_iald0 hx hb hE hP (q0 := 3) rfl l2 h11 (by decide) dX3_alter_33 (fun v23 ev23 => ?_)
          refine lv_iload_n hx hb dX3_alter_34 rfl (lv_at hl 4 rfl) ?_
          refine lv_iadd hx hb dX3_alter_35 ?_
          refine lv_topi (fun v24 ev24 => ?_)
          refine rg_iast hx hb hE hP hD hS (q0 := 3) rfl l2 h11 (by decide) dX3_alter_36 (fun w25 H locs ew25 hP hD hS => ?_)
          have h26 : rg_F w25 f3 0 5 := rg_Ftr (rg_Fst ew25 l2 h11 (by decide)) fr5 (by decide)
          have hP : va_P D vwCl [(q0, .inr (3, [.ref q4, .ref q3])), (q1, .inr (2, [.int s1_0, .int s1_1, .int s1_2, .int s1_3, .int s1_4, .ref q5, .ref q6, .ref q7, .ref q8, .ref q9, .ref q10, .ref q2, .ref q11])), (q2, .inl (cA 0, 6, .inl f2)), (q3, .inl (cA 0, 6, .inl w25))] H := hP
          have hD : va_D A [(q0, .inr (3, [.ref q4, .ref q3])), (q1, .inr (2, [.int s1_0, .int s1_1, .int s1_2, .int s1_3, .int s1_4, .ref q5, .ref q6, .ref q7, .ref q8, .ref q9, .ref q10, .ref q2, .ref q11])), (q2, .inl (cA 0, 6, .inl f2)), (q3, .inl (cA 0, 6, .inl w25))] := hD
          exact jn18 w25 _ _ _ (rg_Fmono h26 (by decide))  hP hD hS (lv_sub hl [0, 1, 2, 3, 4] rfl)
  exact lp6 7 0 f3 _ _ _ (rg_le (by decide : (0 : Int) ≤ (0 : Int32).toInt) (by decide)) (rg_ge (by decide : (0 : Int32).toInt ≤ 0) (by decide)) (rg_Frefl _ _ _)  (rg_mi (by decide : (0 : Int) ≤ (0 : Int32).toInt) (by decide)) hP hD hS (lv_sub hl [0, 1, 2, 3, 4] rfl)
set_option maxHeartbeats 4000000 in
set_option maxRecDepth 100000 in
theorem kX3_canHold_48 (l : Launch) (D : va_G) (cA : Nat → ClassId) (q0 q1 q2 q3 q4 q5 q6 q7 q8 q9 q10 q11 : Nat) (s1_0 : Int32) (s1_1 : Int32) (s1_2 : Int32) (s1_3 : Int32) (s1_4 : Int32) (f2 : Nat → Int32) (f3 : Nat → Int32) (f4 : Nat → Int32) (f5 : Nat → Int32) (a0 : Int32) (s1_0l : 0 ≤ s1_0.toInt) (s1_0u : s1_0.toInt ≤ 6) (s1_1l : 0 ≤ s1_1.toInt) (s1_1u : s1_1.toInt ≤ 4) (s1_2l : 0 ≤ s1_2.toInt) (s1_2u : s1_2.toInt ≤ 9) (s1_3l : 0 ≤ s1_3.toInt) (s1_3u : s1_3.toInt ≤ 9) (s1_4l : 0 ≤ s1_4.toInt) (s1_4u : s1_4.toInt ≤ 6) (f4_0 : rg_S f4 0 6 0 999) (f5_0 : rg_S f5 0 6 0 2) (a0l : (-8) ≤ a0.toInt) (a0u : a0.toInt ≤ 4) : ms_Mi l yX3_canHold wsX3_canHold ({ frames := 2, cells := 0, slots := 0, locals := 63 } : Room) D cA [.ref q0, .ref q1, .int 7, .int a0] [(q0, .inr (3, [.ref q6, .ref q3])), (q1, .inr (2, [.int s1_0, .int s1_1, .int s1_2, .int s1_3, .int s1_4, .ref q7, .ref q8, .ref q9, .ref q10, .ref q11, .ref q5, .ref q2, .ref q4])), (q2, .inl (cA 0, 6, .inl f2)), (q3, .inl (cA 0, 6, .inl f3)), (q4, .inl (cA 0, 6, .inl f4)), (q5, .inl (cA 0, 6, .inl f5))] (fun (r : Int32) (_ : Unit) => (r = 0 ∧ (1 ≤ s1_4.toInt ∧ s1_4.toInt ≤ 6) ∧ True) ∨ (r = 1 ∧ True)) (fun (_ : Unit) => [(q0, .inr (3, [.ref q6, .ref q3])), (q1, .inr (2, [.int s1_0, .int s1_1, .int s1_2, .int s1_3, .int s1_4, .ref q7, .ref q8, .ref q9, .ref q10, .ref q11, .ref q5, .ref q2, .ref q4])), (q2, .inl (cA 0, 6, .inl f2)), (q3, .inl (cA 0, 6, .inl f3)), (q4, .inl (cA 0, 6, .inl f4)), (q5, .inl (cA 0, 6, .inl f5))]) := by
  refine ms_Mi_of (cc := cX3_canHold) (maxL := 6) (ret := (some .boolean)) (by decide) rfl (Nat.le_of_ble_eq_true rfl) ?_
  intro p e s m args below meth c A ls hB hE hA hP hD hS hl
  obtain ⟨hx, hb, hr, hml, hown, hts, hlk, hnm⟩ := hB
  have hown : s.vm.findClass RX3 = some m.cls := hown
  have hnX2 : ∀ w ∈ u_ws RX2 TX2 13, w ∈ wsX3_canHold := fun _ h => List.mem_cons_of_mem _ (List.mem_append_left _ (List.mem_append_right _ (h)))
  have hnX3 : ∀ w ∈ u_ws RX3 TX3 2, w ∈ wsX3_canHold := fun _ h => List.mem_cons_of_mem _ (List.mem_append_right _ (h))
  have hl : lv_has ls 6 [(0, .ref q0), (1, .ref q1), (2, .int 7), (3, .int a0)] := hl
  refine lv_iconst (v := 0) hx hb dX3_canHold_0 (by decide) ?_
  refine lv_istore (lv' := [(4, .int 0), (0, .ref q0), (1, .ref q1), (2, .int 7), (3, .int a0)]) hx hb dX3_canHold_1 hl (by decide) rfl (fun ls hl => ?_)
  have lp4 : ∀ (n5 : Nat) (x1 : Int32) (H : Heap) (locs : List Loc) (ls : Array Slot), 0 ≤ x1.toInt → x1.toInt ≤ 6 → 6 + 1 ≤ x1.toInt + (n5 : Int) → va_P D vwCl [(q0, .inr (3, [.ref q6, .ref q3])), (q1, .inr (2, [.int s1_0, .int s1_1, .int s1_2, .int s1_3, .int s1_4, .ref q7, .ref q8, .ref q9, .ref q10, .ref q11, .ref q5, .ref q2, .ref q4])), (q2, .inl (cA 0, 6, .inl f2)), (q3, .inl (cA 0, 6, .inl f3)), (q4, .inl (cA 0, 6, .inl f4)), (q5, .inl (cA 0, 6, .inl f5))] H → va_D A [(q0, .inr (3, [.ref q6, .ref q3])), (q1, .inr (2, [.int s1_0, .int s1_1, .int s1_2, .int s1_3, .int s1_4, .ref q7, .ref q8, .ref q9, .ref q10, .ref q11, .ref q5, .ref q2, .ref q4])), (q2, .inl (cA 0, 6, .inl f2)), (q3, .inl (cA 0, 6, .inl f3)), (q4, .inl (cA 0, 6, .inl f4)), (q5, .inl (cA 0, 6, .inl f5))] → va_S A s.heap H locs → lv_has ls 6 [(4, .int x1), (0, .ref q0), (1, .ref q1), (2, .int 7), (3, .int a0)] → W p l e ({ frames := 2, cells := 0, slots := 0, locals := 63 } : Room) s m args below meth c H locs 0 0 (MQ below (ms_Qi D A (fun (r : Int32) (_ : Unit) => (r = 0 ∧ (1 ≤ s1_4.toInt ∧ s1_4.toInt ≤ 6) ∧ True) ∨ (r = 1 ∧ True)) (fun (_ : Unit) => [(q0, .inr (3, [.ref q6, .ref q3])), (q1, .inr (2, [.int s1_0, .int s1_1, .int s1_2, .int s1_3, .int s1_4, .ref q7, .ref q8, .ref q9, .ref q10, .ref q11, .ref q5, .ref q2, .ref q4])), (q2, .inl (cA 0, 6, .inl f2)), (q3, .inl (cA 0, 6, .inl f3)), (q4, .inl (cA 0, 6, .inl f4)), (q5, .inl (cA 0, 6, .inl f5))])) args s 0 0 A) (F0 m 3 ls []) := by
    intro n5
    induction n5 with
    | zero => intro x1 H locs ls l2 u3  hm7; exact (rg_m0 hm7 u3).elim
    | succ n5 ih6 =>
      intro x1 H locs ls l2 u3  hm7 hP hD hS hl
      refine lv_iload hx hb dX3_canHold_3 (lv_at hl 0 rfl) ?_
      refine lv_aload_n hx hb dX3_canHold_5 rfl (lv_at hl 2 rfl) ?_
      refine va_get (D := D) (ci := 2) (v := .int s1_4) (C := RX2) (T := TX2) (N := 13) hx hb hts hnX2 hown hE.1 hP 1 rfl rfl 4 (by decide) (hts (.fieldLink RX3 18 "MovedStones$Land" "treaties" "I") (List.mem_cons_of_mem _ (List.mem_append_left _ (List.mem_append_left _ (List.mem_of_getElem? (i := 0) rfl))))) (fun _ h9 => h9) rfl dX3_canHold_6 ?_
      refine lv_icmp_ge (tgt := 57) hx hb dX3_canHold_9 (by decide) (fun c8 => ?_) (fun c8 => ?_)
      · refine lv_iconst (v := 1) hx hb dX3_canHold_57 (by decide) ?_
        exact ms_zret hx hb hr rfl hlk () (Or.inr ⟨rfl, trivial⟩) hP hD hS (Nat.le_of_ble_eq_true rfl) (Nat.le_of_ble_eq_true rfl) dX3_canHold_58
      · have h9 : x1.toInt ≤ 5 := rg_lt_hi (rg_nle c8) s1_4u (by decide)
        have h10 : 1 ≤ s1_4.toInt := rg_lt_lo (rg_nle c8) l2 (by decide)
        refine lv_aload_n hx hb dX3_canHold_12 rfl (lv_at hl 2 rfl) ?_
        refine va_get (D := D) (ci := 2) (v := .ref q2) (C := RX2) (T := TX2) (N := 13) hx hb hts hnX2 hown hE.1 hP 1 rfl rfl 11 (by decide) (hts (.fieldLink RX3 24 "MovedStones$Land" "bound" "[I") (List.mem_cons_of_mem _ (List.mem_append_left _ (List.mem_append_left _ (List.mem_of_getElem? (i := 1) rfl))))) (fun _ h9 => h9) rfl dX3_canHold_13 ?_
        refine lv_iload hx hb dX3_canHold_16 (lv_at hl 0 rfl) ?_
        refine rg_iald0 hx hb hE hP (q0 := 2) rfl l2 h9 (by decide) dX3_canHold_18 (fun v11 ev11 => ?_)
        refine lv_iload_n hx hb dX3_canHold_19 rfl (lv_at hl 3 rfl) ?_
        refine lv_ishr hx hb dX3_canHold_20 ?_
        refine lv_topi (fun v12 ev12 => ?_)
        have jn16 : ∀ (x13 : Int32) (H : Heap) (locs : List Loc) (ls : Array Slot), (-8) ≤ x13.toInt → x13.toInt ≤ 4 → va_P D vwCl [(q0, .inr (3, [.ref q6, .ref q3])), (q1, .inr (2, [.int s1_0, .int s1_1, .int s1_2, .int s1_3, .int s1_4, .ref q7, .ref q8, .ref q9, .ref q10, .ref q11, .ref q5, .ref q2, .ref q4])), (q2, .inl (cA 0, 6, .inl f2)), (q3, .inl (cA 0, 6, .inl f3)), (q4, .inl (cA 0, 6, .inl f4)), (q5, .inl (cA 0, 6, .inl f5))] H → va_D A [(q0, .inr (3, [.ref q6, .ref q3])), (q1, .inr (2, [.int s1_0, .int s1_1, .int s1_2, .int s1_3, .int s1_4, .ref q7, .ref q8, .ref q9, .ref q10, .ref q11, .ref q5, .ref q2, .ref q4])), (q2, .inl (cA 0, 6, .inl f2)), (q3, .inl (cA 0, 6, .inl f3)), (q4, .inl (cA 0, 6, .inl f4)), (q5, .inl (cA 0, 6, .inl f5))] → va_S A s.heap H locs → lv_has ls 6 [(4, .int x1), (0, .ref q0), (1, .ref q1), (2, .int 7), (3, .int a0)] → W p l e ({ frames := 2, cells := 0, slots := 0, locals := 63 } : Room) s m args below meth c H locs 0 0 (MQ below (ms_Qi D A (fun (r : Int32) (_ : Unit) => (r = 0 ∧ (1 ≤ s1_4.toInt ∧ s1_4.toInt ≤ 6) ∧ True) ∨ (r = 1 ∧ True)) (fun (_ : Unit) => [(q0, .inr (3, [.ref q6, .ref q3])), (q1, .inr (2, [.int s1_0, .int s1_1, .int s1_2, .int s1_3, .int s1_4, .ref q7, .ref q8, .ref q9, .ref q10, .ref q11, .ref q5, .ref q2, .ref q4])), (q2, .inl (cA 0, 6, .inl f2)), (q3, .inl (cA 0, 6, .inl f3)), (q4, .inl (cA 0, 6, .inl f4)), (q5, .inl (cA 0, 6, .inl f5))])) args s 0 0 A) (F0 m 29 ls [.int x13]) := by
          intro x13 H locs ls l14 u15  hP hD hS hl
          refine lv_istore (lv' := [(5, .int x13), (4, .int x1), (0, .ref q0), (1, .ref q1), (2, .int 7), (3, .int a0)]) hx hb dX3_canHold_29 hl (by decide) rfl (fun ls hl => ?_)
          refine lv_aload_n hx hb dX3_canHold_31 rfl (lv_at hl 3 rfl) ?_
          refine lv_iload hx hb dX3_canHold_32 (lv_at hl 1 rfl) ?_
          refine lv_aload_n hx hb dX3_canHold_34 rfl (lv_at hl 2 rfl) ?_
          refine va_get (D := D) (ci := 3) (v := .ref q3) (C := RX3) (T := TX3) (N := 2) hx hb hts hnX3 hown hE.1 hP 0 rfl rfl 1 (by decide) (hts (.fieldLink RX3 15 "MovedStones$Mender" "sums" "[I") (List.mem_cons_of_mem _ (List.mem_append_left _ (List.mem_append_left _ (List.mem_of_getElem? (i := 2) rfl))))) (fun _ h9 => h9) rfl dX3_canHold_35 ?_
          refine lv_iload hx hb dX3_canHold_38 (lv_at hl 1 rfl) ?_
          refine rg_iald0 hx hb hE hP (q0 := 3) rfl l2 h9 (by decide) dX3_canHold_40 (fun v17 ev17 => ?_)
          refine ms_cVi (qc := (RX2, TX2, 13)) (wc := [(q1, .inr (2, [.int s1_0, .int s1_1, .int s1_2, .int s1_3, .int s1_4, .ref q7, .ref q8, .ref q9, .ref q10, .ref q11, .ref q5, .ref q2, .ref q4])), (q4, .inl (cA 0, 6, .inl f4)), (q5, .inl (cA 0, 6, .inl f5))]) (wr := [(q0, .inr (3, [.ref q6, .ref q3])), (q2, .inl (cA 0, 6, .inl f2)), (q3, .inl (cA 0, 6, .inl f3))]) ⟨hx, hb, hml, hown, hts⟩ hE (kX2_missing_1 l D cA q1 q4 q5 q7 q8 q9 q10 q11 q2 s1_0 s1_1 s1_2 s1_3 s1_4 f4 f5 x1 v17 (rg_le s1_0l (by decide)) (rg_ge s1_0u (by decide)) (rg_le s1_1l (by decide)) (rg_ge s1_1u (by decide)) (rg_le s1_2l (by decide)) (rg_ge s1_2u (by decide)) (rg_le s1_3l (by decide)) (rg_ge s1_3u (by decide)) (rg_le h10 (by decide)) (rg_ge s1_4u (by decide)) (rg_Smono f4_0 (by decide) (by decide) (by decide) (by decide)) (rg_Smono f5_0 (by decide) (by decide) (by decide) (by decide)) (rg_le l2 (by decide)) (rg_ge h9 (by decide))) (cwV 2 hts gX3_canHold_X2_missing rfl rfl rfl (by decide +kernel) ⟨Nat.le_of_ble_eq_true rfl, Nat.le_of_ble_eq_true rfl⟩) hP hD hS hA [1, 4, 5] [0, 2, 3] rfl rfl rfl rfl (by decide) 0 2 rfl rfl rfl hl.1 rfl (Nat.le_of_ble_eq_true rfl) dX3_canHold_41 ⟨Nat.le_of_ble_eq_true rfl, Nat.le_of_ble_eq_true rfl⟩ (fun r19 u18 H locs hp hP hD hS => ?_)
          obtain ⟨⟨r19l, r19u⟩, -⟩ := hp
          have hP : va_P D vwCl [(q0, .inr (3, [.ref q6, .ref q3])), (q2, .inl (cA 0, 6, .inl f2)), (q3, .inl (cA 0, 6, .inl f3)), (q1, .inr (2, [.int s1_0, .int s1_1, .int s1_2, .int s1_3, .int s1_4, .ref q7, .ref q8, .ref q9, .ref q10, .ref q11, .ref q5, .ref q2, .ref q4])), (q4, .inl (cA 0, 6, .inl f4)), (q5, .inl (cA 0, 6, .inl f5))] H := hP
          have hD : va_D A [(q0, .inr (3, [.ref q6, .ref q3])), (q2, .inl (cA 0, 6, .inl f2)), (q3, .inl (cA 0, 6, .inl f3)), (q1, .inr (2, [.int s1_0, .int s1_1, .int s1_2, .int s1_3, .int s1_4, .ref q7, .ref q8, .ref q9, .ref q10, .ref q11, .ref q5, .ref q2, .ref q4])), (q4, .inl (cA 0, 6, .inl f4)), (q5, .inl (cA 0, 6, .inl f5))] := hD
          refine lv_iload hx hb dX3_canHold_44 (lv_at hl 0 rfl) ?_
          refine lv_icmp_le (tgt := 51) hx hb dX3_canHold_46 (by decide) (fun c20 => ?_) (fun c20 => ?_)
          · have h21 : r19.toInt ≤ 4 := rg_le_hi c20 u15
            refine rg_iinc (lo := 1) (hi := 6) (fun z => [(4, .int z), (5, .int x13), (0, .ref q0), (1, .ref q1), (2, .int 7), (3, .int a0)]) hx hb dX3_canHold_51 hl (k := 1) rfl (by decide) l2 h9 (by decide) (fun _ => rfl) (fun v22 ev22 lv22 uv22 ls hl => ?_)
            have hl : lv_has ls 6 [(4, .int v22), (5, .int x13), (0, .ref q0), (1, .ref q1), (2, .int 7), (3, .int a0)] := hl
            refine lv_goto (tgt := 3) hx hb dX3_canHold_54 (by decide) ?_
            exact ih6 v22 _ _ _ (rg_le lv22 (by decide)) (rg_ge uv22 (by decide))  (rg_ms hm7 ev22 (by decide)) (hP.sub [0, 3, 1, 2, 4, 5] rfl) (hD.sub [0, 3, 1, 2, 4, 5] (by decide) rfl) hS (lv_sub hl [0, 2, 3, 4, 5] rfl)
          · have h23 : (-7) ≤ r19.toInt := rg_lt_lo (rg_nle c20) l14 (by decide)
            refine lv_iconst (v := 0) hx hb dX3_canHold_49 (by decide) ?_
            exact ms_zret hx hb hr rfl hlk () (Or.inl ⟨rfl, ⟨rg_le h10 (by decide), rg_ge s1_4u (by decide)⟩, trivial⟩) (hP.sub [0, 3, 1, 2, 4, 5] rfl) (hD.sub [0, 3, 1, 2, 4, 5] (by decide) rfl) hS (Nat.le_of_ble_eq_true rfl) (Nat.le_of_ble_eq_true rfl) dX3_canHold_50
        refine lv_if_ne (tgt := 28) hx hb dX3_canHold_21 (by decide) (fun c24 => ?_) (fun c24 => ?_)
        · refine lv_iload_n hx hb dX3_canHold_28 rfl (lv_at hl 4 rfl) ?_
          exact jn16 a0 _ _ _ (rg_le a0l (by decide)) (rg_ge a0u (by decide))  hP hD hS (lv_sub hl [0, 1, 2, 3, 4] rfl)
        · have h25 : 0 ≤ v12.toInt := rg_eq_lo c24 (by decide : (0 : Int) ≤ (0 : Int32).toInt)
          have h26 : v12.toInt ≤ 0 := rg_eq_hi c24 (by decide : (0 : Int32).toInt ≤ 0)
          refine lv_iconst (v := 0) hx hb dX3_canHold_24 (by decide) ?_
          refine lv_goto (tgt := 29) hx hb dX3_canHold_25 (by decide) ?_
          exact jn16 0 _ _ _ (rg_le (by decide : (0 : Int) ≤ (0 : Int32).toInt) (by decide)) (rg_ge (by decide : (0 : Int32).toInt ≤ 0) (by decide))  hP hD hS (lv_sub hl [0, 1, 2, 3, 4] rfl)
  exact lp4 7 0 _ _ _ (rg_le (by decide : (0 : Int) ≤ (0 : Int32).toInt) (by decide)) (rg_ge (by decide : (0 : Int32).toInt ≤ 0) (by decide))  (rg_mi (by decide : (0 : Int) ≤ (0 : Int32).toInt) (by decide)) hP hD hS (lv_sub hl [0, 1, 2, 3, 4] rfl)
