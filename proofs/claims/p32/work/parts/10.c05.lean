set_option maxHeartbeats 4000000 in
set_option maxRecDepth 100000 in
theorem kX4_place_1 (l : Launch) (D : va_G) (cA : Nat → ClassId) (q0 q1 q2 q3 q4 : Nat) (s0_1 : Int32) (s0_3 : Int32) (a0 : Int32) (a0l : 0 ≤ a0.toInt) (a0u : a0.toInt ≤ 511) : ms_Mi l yX4_place wsX4_place ({ frames := 0, cells := 0, slots := 0, locals := 0 } : Room) D cA [.ref q0, .ref q1, .ref q2, .int a0, .int 5] [(q0, .inr (4, [.ref q3, .int s0_1, .ref q4, .int s0_3]))] (fun (r : Int32) (_ : Unit) => (r = 0 ∧ (1 ≤ a0.toInt ∧ a0.toInt ≤ 511) ∧ True ∧ True) ∨ (r = 1 ∧ (0 ≤ a0.toInt ∧ a0.toInt ≤ 0) ∧ ms_pc a0 ≤ 0 ∧ True)) (fun (_ : Unit) => [(q0, .inr (4, [.ref q3, .int s0_1, .ref q4, .int s0_3]))]) := by
  refine ms_Mi_of (cc := cX4_place) (maxL := 7) (ret := (some .boolean)) (by decide) rfl (Nat.le_of_ble_eq_true rfl) ?_
  intro p e s m args below meth c A ls hB hE hA hP hD hS hl
  obtain ⟨hx, hb, hr, hml, hown, hts, hlk, hnm⟩ := hB
  have hown : s.vm.findClass RX4 = some m.cls := hown
  have hl : lv_has ls 7 [(0, .ref q0), (1, .ref q1), (2, .ref q2), (3, .int a0), (4, .int 5)] := hl
  refine lv_iload_n hx hb dX4_place_0 rfl (lv_at hl 3 rfl) ?_
  refine lv_if_eq (tgt := 10) hx hb dX4_place_1 (by decide) (fun c1 => ?_) (fun c1 => ?_)
  · have h2 : a0.toInt ≤ 0 := rg_eq_hi c1 (by decide : (0 : Int32).toInt ≤ 0)
    refine lv_iload_n hx hb dX4_place_10 rfl (lv_at hl 3 rfl) ?_
    refine lv_if_ne (tgt := 18) hx hb dX4_place_11 (by decide) (fun c => absurd (rg_yes_eq h2 a0l (by decide : (0 : Int32).toInt ≤ 0) (by decide : (0 : Int) ≤ (0 : Int32).toInt)) c) (fun _ => ?_)
    refine lv_iconst (v := 1) hx hb dX4_place_14 (by decide) ?_
    refine lv_goto (tgt := 19) hx hb dX4_place_15 (by decide) ?_
    exact ms_zret hx hb hr rfl hlk () (Or.inr ⟨rfl, ⟨rg_le a0l (by decide), rg_ge h2 (by decide)⟩, (by rw [c1]; decide), trivial⟩) hP hD hS (Nat.le_of_ble_eq_true rfl) (Nat.le_of_ble_eq_true rfl) dX4_place_19
  · have h3 : 1 ≤ a0.toInt := rg_ne_lo c1 a0l (by decide : (0 : Int) ≤ (0 : Int32).toInt) (by decide : (0 : Int32).toInt ≤ 0) (by decide)
    refine lv_iload hx hb dX4_place_4 (lv_at hl 4 rfl) ?_
    refine lv_iconst (v := 5) hx hb dX4_place_6 (by decide) ?_
    refine lv_icmp_lt (tgt := 20) hx hb dX4_place_7 (by decide) (fun c => absurd c (by decide)) (fun _ => ?_)
    refine lv_iload_n hx hb dX4_place_10 rfl (lv_at hl 3 rfl) ?_
    refine lv_if_ne (tgt := 18) hx hb dX4_place_11 (by decide) (fun _ => ?_) (fun c => absurd c (rg_no_eq2 h3 (by decide : (0 : Int32).toInt ≤ 0) (by decide)))
    refine lv_iconst (v := 0) hx hb dX4_place_18 (by decide) ?_
    exact ms_zret hx hb hr rfl hlk () (Or.inl ⟨rfl, ⟨rg_le h3 (by decide), rg_ge a0u (by decide)⟩, trivial, trivial⟩) hP hD hS (Nat.le_of_ble_eq_true rfl) (Nat.le_of_ble_eq_true rfl) dX4_place_19
set_option maxHeartbeats 4000000 in
set_option maxRecDepth 100000 in
theorem kX4_place_2 (l : Launch) (D : va_G) (cA : Nat → ClassId) (q0 q1 q2 q3 q4 q5 q6 q7 q8 q9 q10 q11 q12 : Nat) (s0_1 : Int32) (s0_3 : Int32) (s1_0 : Int32) (s1_1 : Int32) (s1_2 : Int32) (s1_3 : Int32) (s1_4 : Int32) (f2 : Nat → Int32) (f3 : Nat → Int32) (f4 : Nat → Int32) (f5 : Nat → Int32) (f6 : Nat → Int32) (f7 : Nat → Int32) (a0 : Int32) (s1_0l : 0 ≤ s1_0.toInt) (s1_0u : s1_0.toInt ≤ 6) (s1_1l : 0 ≤ s1_1.toInt) (s1_1u : s1_1.toInt ≤ 4) (s1_2l : 0 ≤ s1_2.toInt) (s1_2u : s1_2.toInt ≤ 9) (s1_3l : 0 ≤ s1_3.toInt) (s1_3u : s1_3.toInt ≤ 9) (s1_4l : 0 ≤ s1_4.toInt) (s1_4u : s1_4.toInt ≤ 6) (f3_0 : rg_S f3 0 9 0 999) (f4_0 : rg_S f4 0 5 0 8) (f6_0 : rg_S f6 0 6 0 999) (f7_0 : rg_S f7 0 6 0 2) (a0l : 0 ≤ a0.toInt) (a0u : a0.toInt ≤ 511) : ms_Mi l yX4_place wsX4_place ({ frames := 4, cells := 0, slots := 0, locals := 108 } : Room) D cA [.ref q0, .ref q1, .ref q3, .int a0, .int 4] [(q0, .inr (4, [.ref q4, .int s0_1, .ref q2, .int s0_3])), (q1, .inr (2, [.int s1_0, .int s1_1, .int s1_2, .int s1_3, .int s1_4, .ref q8, .ref q9, .ref q10, .ref q11, .ref q12, .ref q7, .ref q5, .ref q6])), (q2, .inl (cA 0, 9, .inl f2)), (q3, .inl (cA 0, 9, .inl f3)), (q4, .inl (cA 0, 5, .inl f4)), (q5, .inl (cA 0, 6, .inl f5)), (q6, .inl (cA 0, 6, .inl f6)), (q7, .inl (cA 0, 6, .inl f7))] (fun (r : Int32) (u : ((Nat → Int32) × (Nat → Nat → Int32) × (Nat → Int64))) => (r = 0 ∧ rg_S (u.2.1 1) 0 5 0 8 ∧ rg_F (u.2.1 1) f4 4 4 ∧ (1 ≤ a0.toInt ∧ a0.toInt ≤ 511) ∧ True ∧ True) ∨ (r = 1 ∧ rg_S (u.2.1 1) 0 5 0 8 ∧ rg_F (u.2.1 1) f4 4 4 ∧ ms_pc a0 ≤ 1 ∧ True)) (fun (u : ((Nat → Int32) × (Nat → Nat → Int32) × (Nat → Int64))) => [(q0, .inr (4, [.ref q4, .int s0_1, .ref q2, .int s0_3])), (q1, .inr (2, [.int s1_0, .int s1_1, .int s1_2, .int s1_3, .int s1_4, .ref q8, .ref q9, .ref q10, .ref q11, .ref q12, .ref q7, .ref q5, .ref q6])), (q2, .inl (cA 0, 9, .inl (u.2.1 0))), (q3, .inl (cA 0, 9, .inl f3)), (q4, .inl (cA 0, 5, .inl (u.2.1 1))), (q5, .inl (cA 0, 6, .inl f5)), (q6, .inl (cA 0, 6, .inl f6)), (q7, .inl (cA 0, 6, .inl f7))]) := by
  refine ms_Mi_of (cc := cX4_place) (maxL := 7) (ret := (some .boolean)) (by decide) rfl (Nat.le_of_ble_eq_true rfl) ?_
  intro p e s m args below meth c A ls hB hE hA hP hD hS hl
  obtain ⟨hx, hb, hr, hml, hown, hts, hlk, hnm⟩ := hB
  have hown : s.vm.findClass RX4 = some m.cls := hown
  have hnX2 : ∀ w ∈ u_ws RX2 TX2 13, w ∈ wsX4_place := fun _ h => List.mem_cons_of_mem _ (List.mem_append_left _ (List.mem_append_right _ (h)))
  have hnX4 : ∀ w ∈ u_ws RX4 TX4 4, w ∈ wsX4_place := fun _ h => List.mem_cons_of_mem _ (List.mem_append_right _ (h))
  have hl : lv_has ls 7 [(0, .ref q0), (1, .ref q1), (2, .ref q3), (3, .int a0), (4, .int 4)] := hl
  refine lv_iload_n hx hb dX4_place_0 rfl (lv_at hl 3 rfl) ?_
  refine lv_if_eq (tgt := 10) hx hb dX4_place_1 (by decide) (fun c1 => ?_) (fun c1 => ?_)
  · have h2 : a0.toInt ≤ 0 := rg_eq_hi c1 (by decide : (0 : Int32).toInt ≤ 0)
    refine lv_iload_n hx hb dX4_place_10 rfl (lv_at hl 3 rfl) ?_
    refine lv_if_ne (tgt := 18) hx hb dX4_place_11 (by decide) (fun c => absurd (rg_yes_eq h2 a0l (by decide : (0 : Int32).toInt ≤ 0) (by decide : (0 : Int) ≤ (0 : Int32).toInt)) c) (fun _ => ?_)
    refine lv_iconst (v := 1) hx hb dX4_place_14 (by decide) ?_
    refine lv_goto (tgt := 19) hx hb dX4_place_15 (by decide) ?_
    exact ms_zret hx hb hr rfl hlk (fun i => [].getD i 0, fun i => [f2, f4].getD i ms_z, fun i => [].getD i 0) (Or.inr ⟨rfl, rg_Smono f4_0 (by decide) (by decide) (by decide) (by decide), rg_Frefl _ _ _, (by rw [c1]; decide), trivial⟩) hP hD hS (Nat.le_of_ble_eq_true rfl) (Nat.le_of_ble_eq_true rfl) dX4_place_19
  · have h3 : 1 ≤ a0.toInt := rg_ne_lo c1 a0l (by decide : (0 : Int) ≤ (0 : Int32).toInt) (by decide : (0 : Int32).toInt ≤ 0) (by decide)
    refine lv_iload hx hb dX4_place_4 (lv_at hl 4 rfl) ?_
    refine lv_iconst (v := 5) hx hb dX4_place_6 (by decide) ?_
    refine lv_icmp_lt (tgt := 20) hx hb dX4_place_7 (by decide) (fun _ => ?_) (fun c => absurd (by decide) c)
    refine lv_iconst (v := 0) hx hb dX4_place_20 (by decide) ?_
    refine lv_istore (lv' := [(5, .int 0), (0, .ref q0), (1, .ref q1), (2, .ref q3), (3, .int a0), (4, .int 4)]) hx hb dX4_place_21 hl (by decide) rfl (fun ls hl => ?_)
    have lp12 : ∀ (n13 : Nat) (x4 : Int32) (w7 : Nat → Int32) (w9 : Nat → Int32) (H : Heap) (locs : List Loc) (ls : Array Slot), 0 ≤ x4.toInt → x4.toInt ≤ 9 → rg_F w7 f2 0 8 → rg_S w9 0 5 0 8 → rg_F w9 f4 4 4 → 9 + 1 ≤ x4.toInt + (n13 : Int) → va_P D vwCl [(q0, .inr (4, [.ref q4, .int s0_1, .ref q2, .int s0_3])), (q1, .inr (2, [.int s1_0, .int s1_1, .int s1_2, .int s1_3, .int s1_4, .ref q8, .ref q9, .ref q10, .ref q11, .ref q12, .ref q7, .ref q5, .ref q6])), (q2, .inl (cA 0, 9, .inl w7)), (q3, .inl (cA 0, 9, .inl f3)), (q4, .inl (cA 0, 5, .inl w9)), (q5, .inl (cA 0, 6, .inl f5)), (q6, .inl (cA 0, 6, .inl f6)), (q7, .inl (cA 0, 6, .inl f7))] H → va_D A [(q0, .inr (4, [.ref q4, .int s0_1, .ref q2, .int s0_3])), (q1, .inr (2, [.int s1_0, .int s1_1, .int s1_2, .int s1_3, .int s1_4, .ref q8, .ref q9, .ref q10, .ref q11, .ref q12, .ref q7, .ref q5, .ref q6])), (q2, .inl (cA 0, 9, .inl w7)), (q3, .inl (cA 0, 9, .inl f3)), (q4, .inl (cA 0, 5, .inl w9)), (q5, .inl (cA 0, 6, .inl f5)), (q6, .inl (cA 0, 6, .inl f6)), (q7, .inl (cA 0, 6, .inl f7))] → va_S A s.heap H locs → lv_has ls 7 [(5, .int x4), (0, .ref q0), (1, .ref q1), (2, .ref q3), (3, .int a0), (4, .int 4)] → W p l e ({ frames := 4, cells := 0, slots := 0, locals := 108 } : Room) s m args below meth c H locs 0 0 (MQ below (ms_Qi D A (fun (r : Int32) (u : ((Nat → Int32) × (Nat → Nat → Int32) × (Nat → Int64))) => (r = 0 ∧ rg_S (u.2.1 1) 0 5 0 8 ∧ rg_F (u.2.1 1) f4 4 4 ∧ (1 ≤ a0.toInt ∧ a0.toInt ≤ 511) ∧ True ∧ True) ∨ (r = 1 ∧ rg_S (u.2.1 1) 0 5 0 8 ∧ rg_F (u.2.1 1) f4 4 4 ∧ ms_pc a0 ≤ 1 ∧ True)) (fun (u : ((Nat → Int32) × (Nat → Nat → Int32) × (Nat → Int64))) => [(q0, .inr (4, [.ref q4, .int s0_1, .ref q2, .int s0_3])), (q1, .inr (2, [.int s1_0, .int s1_1, .int s1_2, .int s1_3, .int s1_4, .ref q8, .ref q9, .ref q10, .ref q11, .ref q12, .ref q7, .ref q5, .ref q6])), (q2, .inl (cA 0, 9, .inl (u.2.1 0))), (q3, .inl (cA 0, 9, .inl f3)), (q4, .inl (cA 0, 5, .inl (u.2.1 1))), (q5, .inl (cA 0, 6, .inl f5)), (q6, .inl (cA 0, 6, .inl f6)), (q7, .inl (cA 0, 6, .inl f7))])) args s 0 0 A) (F0 m 23 ls []) := by
      intro n13
      induction n13 with
      | zero => intro x4 w7 w9 H locs ls l5 u6 fr8 g10 fr11  hm15; exact (rg_m0 hm15 u6).elim
      | succ n13 ih14 =>
        intro x4 w7 w9 H locs ls l5 u6 fr8 g10 fr11  hm15 hP hD hS hl
        refine lv_iload hx hb dX4_place_23 (lv_at hl 0 rfl) ?_
        refine lv_aload_n hx hb dX4_place_25 rfl (lv_at hl 2 rfl) ?_
        refine va_get (D := D) (ci := 2) (v := .int s1_3) (C := RX2) (T := TX2) (N := 13) hx hb hts hnX2 hown hE.1 hP 1 rfl rfl 3 (by decide) (hts (.fieldLink RX4 34 "MovedStones$Land" "roads" "I") (List.mem_cons_of_mem _ (List.mem_append_left _ (List.mem_append_left _ (List.mem_append_left _ (List.mem_of_getElem? (i := 0) rfl)))))) (fun _ h9 => h9) rfl dX4_place_26 ?_
        refine lv_icmp_ge (tgt := 129) hx hb dX4_place_29 (by decide) (fun c16 => ?_) (fun c16 => ?_)
        · refine lv_iconst (v := 0) hx hb dX4_place_129 (by decide) ?_
          exact ms_zret hx hb hr rfl hlk (fun i => [].getD i 0, fun i => [w7, w9].getD i ms_z, fun i => [].getD i 0) (Or.inl ⟨rfl, rg_Smono g10 (by decide) (by decide) (by decide) (by decide), rg_Fmono fr11 (by decide), ⟨rg_le h3 (by decide), rg_ge a0u (by decide)⟩, trivial, trivial⟩) hP hD hS (Nat.le_of_ble_eq_true rfl) (Nat.le_of_ble_eq_true rfl) dX4_place_130
        · have h17 : x4.toInt ≤ 8 := rg_lt_hi (rg_nle c16) s1_3u (by decide)
          have h18 : 1 ≤ s1_3.toInt := rg_lt_lo (rg_nle c16) l5 (by decide)
          refine lv_iload_n hx hb dX4_place_32 rfl (lv_at hl 4 rfl) ?_
          refine lv_iload hx hb dX4_place_33 (lv_at hl 0 rfl) ?_
          refine lv_ishr hx hb dX4_place_35 ?_
          refine lv_topi (fun v19 ev19 => ?_)
          refine lv_iconst (v := 1) hx hb dX4_place_36 (by decide) ?_
          refine rg_iand1 hx hb dX4_place_37 (fun v20 ev20 lv20 uv20 => ?_)
          refine lv_if_ne (tgt := 44) hx hb dX4_place_38 (by decide) (fun c21 => ?_) (fun c21 => ?_)
          · have h22 : 1 ≤ v20.toInt := rg_ne_lo c21 lv20 (by decide : (0 : Int) ≤ (0 : Int32).toInt) (by decide : (0 : Int32).toInt ≤ 0) (by decide)
            refine lv_aload_n hx hb dX4_place_44 rfl (lv_at hl 1 rfl) ?_
            refine va_get (D := D) (ci := 4) (v := .ref q2) (C := RX4) (T := TX4) (N := 4) hx hb hts hnX4 hown hE.1 hP 0 rfl rfl 2 (by decide) (hts (.fieldLink RX4 15 "MovedStones$Nights" "stones" "[I") (List.mem_cons_of_mem _ (List.mem_append_left _ (List.mem_append_left _ (List.mem_append_left _ (List.mem_of_getElem? (i := 1) rfl)))))) (fun _ h9 => h9) rfl dX4_place_45 ?_
            refine lv_iload hx hb dX4_place_48 (lv_at hl 0 rfl) ?_
            refine rg_iald0 hx hb hE hP (q0 := 2) rfl l5 h17 (by decide) dX4_place_50 (fun v23 ev23 => ?_)
            refine lv_istore (lv' := [(6, .int v23), (5, .int x4), (0, .ref q0), (1, .ref q1), (2, .ref q3), (3, .int a0), (4, .int 4)]) hx hb dX4_place_51 hl (by decide) rfl (fun ls hl => ?_)
            refine lv_aload_n hx hb dX4_place_53 rfl (lv_at hl 2 rfl) ?_
            refine va_get (D := D) (ci := 4) (v := .ref q2) (C := RX4) (T := TX4) (N := 4) hx hb hts hnX4 hown hE.1 hP 0 rfl rfl 2 (by decide) (hts (.fieldLink RX4 15 "MovedStones$Nights" "stones" "[I") (List.mem_cons_of_mem _ (List.mem_append_left _ (List.mem_append_left _ (List.mem_append_left _ (List.mem_of_getElem? (i := 1) rfl)))))) (fun _ h9 => h9) rfl dX4_place_54 ?_
            refine lv_iload hx hb dX4_place_57 (lv_at hl 1 rfl) ?_
            refine lv_aload_n hx hb dX4_place_59 rfl (lv_at hl 4 rfl) ?_
            refine lv_iload hx hb dX4_place_60 (lv_at hl 1 rfl) ?_
            refine rg_iald hx hb hE hP (q0 := 3) rfl l5 h17 f3_0 (by decide) dX4_place_62 (fun v24 ev24 lv24 uv24 => ?_)
            refine rg_iast hx hb hE hP hD hS (q0 := 2) rfl l5 h17 (by decide) dX4_place_63 (fun w25 H locs ew25 hP hD hS => ?_)
            have h26 : rg_F w25 f2 0 8 := rg_Ftr (rg_Fst ew25 l5 h17 (by decide)) fr8 (by decide)
            have hP : va_P D vwCl [(q0, .inr (4, [.ref q4, .int s0_1, .ref q2, .int s0_3])), (q1, .inr (2, [.int s1_0, .int s1_1, .int s1_2, .int s1_3, .int s1_4, .ref q8, .ref q9, .ref q10, .ref q11, .ref q12, .ref q7, .ref q5, .ref q6])), (q2, .inl (cA 0, 9, .inl w25)), (q3, .inl (cA 0, 9, .inl f3)), (q4, .inl (cA 0, 5, .inl w9)), (q5, .inl (cA 0, 6, .inl f5)), (q6, .inl (cA 0, 6, .inl f6)), (q7, .inl (cA 0, 6, .inl f7))] H := hP
            have hD : va_D A [(q0, .inr (4, [.ref q4, .int s0_1, .ref q2, .int s0_3])), (q1, .inr (2, [.int s1_0, .int s1_1, .int s1_2, .int s1_3, .int s1_4, .ref q8, .ref q9, .ref q10, .ref q11, .ref q12, .ref q7, .ref q5, .ref q6])), (q2, .inl (cA 0, 9, .inl w25)), (q3, .inl (cA 0, 9, .inl f3)), (q4, .inl (cA 0, 5, .inl w9)), (q5, .inl (cA 0, 6, .inl f5)), (q6, .inl (cA 0, 6, .inl f6)), (q7, .inl (cA 0, 6, .inl f7))] := hD
            refine lv_aload_n hx hb dX4_place_64 rfl (lv_at hl 2 rfl) ?_
            refine va_get (D := D) (ci := 4) (v := .ref q4) (C := RX4) (T := TX4) (N := 4) hx hb hts hnX4 hown hE.1 hP 0 rfl rfl 0 (by decide) (hts (.fieldLink RX4 9 "MovedStones$Nights" "order" "[I") (List.mem_cons_of_mem _ (List.mem_append_left _ (List.mem_append_left _ (List.mem_append_left _ (List.mem_of_getElem? (i := 2) rfl)))))) (fun _ h9 => h9) rfl dX4_place_65 ?_
            refine lv_iload hx hb dX4_place_68 (lv_at hl 6 rfl) ?_
            refine lv_iload hx hb dX4_place_70 (lv_at hl 1 rfl) ?_
            refine rg_iast hx hb hE hP hD hS (q0 := 4) rfl (by decide : (4 : Int) ≤ (4 : Int32).toInt) (by decide : (4 : Int32).toInt ≤ 4) (by decide) dX4_place_72 (fun w27 H locs ew27 hP hD hS => ?_)
            have h28 : rg_S w27 0 5 0 8 := rg_Supd g10 ew27 (rg_le l5 (by decide)) (rg_ge h17 (by decide))
            have h29 : rg_F w27 f4 4 4 := rg_Ftr (rg_Fst ew27 (by decide : (4 : Int) ≤ (4 : Int32).toInt) (by decide : (4 : Int32).toInt ≤ 4) (by decide)) fr11 (by decide)
            have hP : va_P D vwCl [(q0, .inr (4, [.ref q4, .int s0_1, .ref q2, .int s0_3])), (q1, .inr (2, [.int s1_0, .int s1_1, .int s1_2, .int s1_3, .int s1_4, .ref q8, .ref q9, .ref q10, .ref q11, .ref q12, .ref q7, .ref q5, .ref q6])), (q2, .inl (cA 0, 9, .inl w25)), (q3, .inl (cA 0, 9, .inl f3)), (q4, .inl (cA 0, 5, .inl w27)), (q5, .inl (cA 0, 6, .inl f5)), (q6, .inl (cA 0, 6, .inl f6)), (q7, .inl (cA 0, 6, .inl f7))] H := hP
            have hD : va_D A [(q0, .inr (4, [.ref q4, .int s0_1, .ref q2, .int s0_3])), (q1, .inr (2, [.int s1_0, .int s1_1, .int s1_2, .int s1_3, .int s1_4, .ref q8, .ref q9, .ref q10, .ref q11, .ref q12, .ref q7, .ref q5, .ref q6])), (q2, .inl (cA 0, 9, .inl w25)), (q3, .inl (cA 0, 9, .inl f3)), (q4, .inl (cA 0, 5, .inl w27)), (q5, .inl (cA 0, 6, .inl f5)), (q6, .inl (cA 0, 6, .inl f6)), (q7, .inl (cA 0, 6, .inl f7))] := hD
            refine lv_aload_n hx hb dX4_place_73 rfl (lv_at hl 2 rfl) ?_
            refine va_get (D := D) (ci := 4) (v := .int s0_3) (C := RX4) (T := TX4) (N := 4) hx hb hts hnX4 hown hE.1 hP 0 rfl rfl 3 (by decide) (hts (.fieldLink RX4 30 "MovedStones$Nights" "kept" "I") (List.mem_cons_of_mem _ (List.mem_append_left _ (List.mem_append_left _ (List.mem_append_left _ (List.mem_of_getElem? (i := 3) rfl)))))) (fun _ h9 => h9) rfl dX4_place_74 ?_
            refine lv_aload_n hx hb dX4_place_77 rfl (lv_at hl 3 rfl) ?_
            refine lv_aload_n hx hb dX4_place_78 rfl (lv_at hl 2 rfl) ?_
            refine va_get (D := D) (ci := 4) (v := .ref q2) (C := RX4) (T := TX4) (N := 4) hx hb hts hnX4 hown hE.1 hP 0 rfl rfl 2 (by decide) (hts (.fieldLink RX4 15 "MovedStones$Nights" "stones" "[I") (List.mem_cons_of_mem _ (List.mem_append_left _ (List.mem_append_left _ (List.mem_append_left _ (List.mem_of_getElem? (i := 1) rfl)))))) (fun _ h9 => h9) rfl dX4_place_79 ?_
            refine ms_cVi (qc := (RX2, TX2, 13)) (wc := [(q1, .inr (2, [.int s1_0, .int s1_1, .int s1_2, .int s1_3, .int s1_4, .ref q8, .ref q9, .ref q10, .ref q11, .ref q12, .ref q7, .ref q5, .ref q6])), (q5, .inl (cA 0, 6, .inl f5)), (q2, .inl (cA 0, 9, .inl w25)), (q6, .inl (cA 0, 6, .inl f6)), (q7, .inl (cA 0, 6, .inl f7))]) (wr := [(q0, .inr (4, [.ref q4, .int s0_1, .ref q2, .int s0_3])), (q3, .inl (cA 0, 9, .inl f3)), (q4, .inl (cA 0, 5, .inl w27))]) ⟨hx, hb, hml, hown, hts⟩ hE (kX2_holding_1 l D cA q1 q5 q2 q6 q7 q8 q9 q10 q11 q12 s1_0 s1_1 s1_2 s1_3 s1_4 f5 w25 f6 f7 (rg_le s1_0l (by decide)) (rg_ge s1_0u (by decide)) (rg_le s1_1l (by decide)) (rg_ge s1_1u (by decide)) (rg_le s1_2l (by decide)) (rg_ge s1_2u (by decide)) (rg_le h18 (by decide)) (rg_ge s1_3u (by decide)) (rg_le s1_4l (by decide)) (rg_ge s1_4u (by decide)) (rg_Smono f6_0 (by decide) (by decide) (by decide) (by decide)) (rg_Smono f7_0 (by decide) (by decide) (by decide) (by decide))) (cwV 1 hts gX4_place_X2_holding rfl rfl rfl (by decide +kernel) ⟨Nat.le_of_ble_eq_true rfl, Nat.le_of_ble_eq_true rfl⟩) hP hD hS hA [1, 5, 2, 6, 7] [0, 3, 4] rfl rfl rfl rfl (by decide) 0 2 rfl rfl rfl hl.1 rfl (Nat.le_of_ble_eq_true rfl) dX4_place_82 ⟨Nat.le_of_ble_eq_true rfl, Nat.le_of_ble_eq_true rfl⟩ (fun r31 u30 H locs hp hP hD hS => ?_)
            obtain ⟨⟨r31l, r31u⟩, -⟩ := hp
            have hP : va_P D vwCl [(q0, .inr (4, [.ref q4, .int s0_1, .ref q2, .int s0_3])), (q3, .inl (cA 0, 9, .inl f3)), (q4, .inl (cA 0, 5, .inl w27)), (q1, .inr (2, [.int s1_0, .int s1_1, .int s1_2, .int s1_3, .int s1_4, .ref q8, .ref q9, .ref q10, .ref q11, .ref q12, .ref q7, .ref q5, .ref q6])), (q5, .inl (cA 0, 6, .inl f5)), (q2, .inl (cA 0, 9, .inl w25)), (q6, .inl (cA 0, 6, .inl f6)), (q7, .inl (cA 0, 6, .inl f7))] H := hP
            have hD : va_D A [(q0, .inr (4, [.ref q4, .int s0_1, .ref q2, .int s0_3])), (q3, .inl (cA 0, 9, .inl f3)), (q4, .inl (cA 0, 5, .inl w27)), (q1, .inr (2, [.int s1_0, .int s1_1, .int s1_2, .int s1_3, .int s1_4, .ref q8, .ref q9, .ref q10, .ref q11, .ref q12, .ref q7, .ref q5, .ref q6])), (q5, .inl (cA 0, 6, .inl f5)), (q2, .inl (cA 0, 9, .inl w25)), (q6, .inl (cA 0, 6, .inl f6)), (q7, .inl (cA 0, 6, .inl f7))] := hD
            refine lv_iconst (v := (-1)) hx hb dX4_place_85 (by decide) ?_
            refine lv_ixor hx hb dX4_place_86 ?_
            refine lv_topi (fun v32 ev32 => ?_)
            refine lv_iand hx hb dX4_place_87 ?_
            refine lv_topi (fun v33 ev33 => ?_)
            refine lv_if_ne (tgt := 114) hx hb dX4_place_88 (by decide) (fun c34 => ?_) (fun c34 => ?_)
            · refine lv_aload_n hx hb dX4_place_114 rfl (lv_at hl 2 rfl) ?_
              refine va_get (D := D) (ci := 4) (v := .ref q2) (C := RX4) (T := TX4) (N := 4) hx hb hts hnX4 hown hE.1 hP 0 rfl rfl 2 (by decide) (hts (.fieldLink RX4 15 "MovedStones$Nights" "stones" "[I") (List.mem_cons_of_mem _ (List.mem_append_left _ (List.mem_append_left _ (List.mem_append_left _ (List.mem_of_getElem? (i := 1) rfl)))))) (fun _ h9 => h9) rfl dX4_place_115 ?_
              refine lv_iload hx hb dX4_place_118 (lv_at hl 1 rfl) ?_
              refine lv_iload hx hb dX4_place_120 (lv_at hl 0 rfl) ?_
              refine rg_iast hx hb hE hP hD hS (q0 := 5) rfl l5 h17 (by decide) dX4_place_122 (fun w35 H locs ew35 hP hD hS => ?_)
              have h36 : rg_F w35 f2 0 8 := rg_Ftr (rg_Fst ew35 l5 h17 (by decide)) h26 (by decide)
              have hP : va_P D vwCl [(q0, .inr (4, [.ref q4, .int s0_1, .ref q2, .int s0_3])), (q3, .inl (cA 0, 9, .inl f3)), (q4, .inl (cA 0, 5, .inl w27)), (q1, .inr (2, [.int s1_0, .int s1_1, .int s1_2, .int s1_3, .int s1_4, .ref q8, .ref q9, .ref q10, .ref q11, .ref q12, .ref q7, .ref q5, .ref q6])), (q5, .inl (cA 0, 6, .inl f5)), (q2, .inl (cA 0, 9, .inl w35)), (q6, .inl (cA 0, 6, .inl f6)), (q7, .inl (cA 0, 6, .inl f7))] H := hP
              have hD : va_D A [(q0, .inr (4, [.ref q4, .int s0_1, .ref q2, .int s0_3])), (q3, .inl (cA 0, 9, .inl f3)), (q4, .inl (cA 0, 5, .inl w27)), (q1, .inr (2, [.int s1_0, .int s1_1, .int s1_2, .int s1_3, .int s1_4, .ref q8, .ref q9, .ref q10, .ref q11, .ref q12, .ref q7, .ref q5, .ref q6])), (q5, .inl (cA 0, 6, .inl f5)), (q2, .inl (cA 0, 9, .inl w35)), (q6, .inl (cA 0, 6, .inl f6)), (q7, .inl (cA 0, 6, .inl f7))] := hD
              refine rg_iinc (lo := 1) (hi := 9) (fun z => [(5, .int z), (6, .int v23), (0, .ref q0), (1, .ref q1), (2, .ref q3), (3, .int a0), (4, .int 4)]) hx hb dX4_place_123 hl (k := 1) rfl (by decide) l5 h17 (by decide) (fun _ => rfl) (fun v37 ev37 lv37 uv37 ls hl => ?_)
              have hl : lv_has ls 7 [(5, .int v37), (6, .int v23), (0, .ref q0), (1, .ref q1), (2, .ref q3), (3, .int a0), (4, .int 4)] := hl
              refine lv_goto (tgt := 23) hx hb dX4_place_126 (by decide) ?_
              exact ih14 v37 w35 w27 _ _ _ (rg_le lv37 (by decide)) (rg_ge uv37 (by decide)) (rg_Fmono h36 (by decide)) (rg_Smono h28 (by decide) (by decide) (by decide) (by decide)) (rg_Fmono h29 (by decide))  (rg_ms hm15 ev37 (by decide)) (hP.sub [0, 3, 5, 1, 2, 4, 6, 7] rfl) (hD.sub [0, 3, 5, 1, 2, 4, 6, 7] (by decide) rfl) hS (lv_sub hl [0, 2, 3, 4, 5, 6] rfl)
            · have h38 : 0 ≤ v33.toInt := rg_eq_lo c34 (by decide : (0 : Int) ≤ (0 : Int32).toInt)
              have h39 : v33.toInt ≤ 0 := rg_eq_hi c34 (by decide : (0 : Int32).toInt ≤ 0)
              refine lv_aload_n hx hb dX4_place_91 rfl (lv_at hl 2 rfl) ?_
              refine lv_aload_n hx hb dX4_place_92 rfl (lv_at hl 3 rfl) ?_
              refine lv_aload_n hx hb dX4_place_93 rfl (lv_at hl 4 rfl) ?_
              refine lv_iload_n hx hb dX4_place_94 rfl (lv_at hl 5 rfl) ?_
              refine lv_iconst (v := 1) hx hb dX4_place_95 (by decide) ?_
              refine lv_iload hx hb dX4_place_96 (lv_at hl 1 rfl) ?_
              refine rg_shl1 (lo := 1) (hi := 256) hx hb dX4_place_98 l5 h17 (by decide) (fun v40 ev40 lv40 uv40 => ?_)
              refine lv_iconst (v := (-1)) hx hb dX4_place_99 (by decide) ?_
              refine lv_ixor hx hb dX4_place_100 ?_
              refine lv_topi (fun v41 ev41 => ?_)
              refine rg_iand (hi := 511) hx hb dX4_place_101 h3 a0u (by decide) (fun v42 ev42 lv42 uv42 => ?_)
              refine lv_iload hx hb dX4_place_102 (lv_at hl 6 rfl) ?_
              refine lv_iconst (v := 1) hx hb dX4_place_104 (by decide) ?_
              refine lv_iadd hx hb dX4_place_105 ?_
              refine ms_eqi (y := 5) (by decide) ?_
              refine ms_cVi (qc := (RX4, TX4, 4)) (wc := [(q0, .inr (4, [.ref q4, .int s0_1, .ref q2, .int s0_3]))]) (wr := [(q3, .inl (cA 0, 9, .inl f3)), (q4, .inl (cA 0, 5, .inl w27)), (q1, .inr (2, [.int s1_0, .int s1_1, .int s1_2, .int s1_3, .int s1_4, .ref q8, .ref q9, .ref q10, .ref q11, .ref q12, .ref q7, .ref q5, .ref q6])), (q5, .inl (cA 0, 6, .inl f5)), (q2, .inl (cA 0, 9, .inl w25)), (q6, .inl (cA 0, 6, .inl f6)), (q7, .inl (cA 0, 6, .inl f7))]) ⟨hx, hb, hml, hown, hts⟩ hE (kX4_place_1 l D cA q0 q1 q3 q4 q2 s0_1 s0_3 v42 (rg_le lv42 (by decide)) (rg_ge uv42 (by decide))) (cwV 4 hts gX4_place_X4_place rfl rfl rfl (by decide +kernel) ⟨Nat.le_of_ble_eq_true rfl, Nat.le_of_ble_eq_true rfl⟩) hP hD hS hA [0] [1, 2, 3, 4, 5, 6, 7] rfl rfl rfl rfl (by decide) 0 4 rfl rfl rfl hl.1 rfl (Nat.le_of_ble_eq_true rfl) dX4_place_106 ⟨Nat.le_of_ble_eq_true rfl, Nat.le_of_ble_eq_true rfl⟩ (fun r44 u43 H locs hp hP hD hS => ?_)
              rcases hp with ⟨hr, ⟨u43a0l, u43a0h⟩, exu43, -⟩ | ⟨hr, ⟨u43a0l, u43a0h⟩, exu43, -⟩
              · subst hr
                have hP : va_P D vwCl [(q3, .inl (cA 0, 9, .inl f3)), (q4, .inl (cA 0, 5, .inl w27)), (q1, .inr (2, [.int s1_0, .int s1_1, .int s1_2, .int s1_3, .int s1_4, .ref q8, .ref q9, .ref q10, .ref q11, .ref q12, .ref q7, .ref q5, .ref q6])), (q5, .inl (cA 0, 6, .inl f5)), (q2, .inl (cA 0, 9, .inl w25)), (q6, .inl (cA 0, 6, .inl f6)), (q7, .inl (cA 0, 6, .inl f7)), (q0, .inr (4, [.ref q4, .int s0_1, .ref q2, .int s0_3]))] H := hP
                have hD : va_D A [(q3, .inl (cA 0, 9, .inl f3)), (q4, .inl (cA 0, 5, .inl w27)), (q1, .inr (2, [.int s1_0, .int s1_1, .int s1_2, .int s1_3, .int s1_4, .ref q8, .ref q9, .ref q10, .ref q11, .ref q12, .ref q7, .ref q5, .ref q6])), (q5, .inl (cA 0, 6, .inl f5)), (q2, .inl (cA 0, 9, .inl w25)), (q6, .inl (cA 0, 6, .inl f6)), (q7, .inl (cA 0, 6, .inl f7)), (q0, .inr (4, [.ref q4, .int s0_1, .ref q2, .int s0_3]))] := hD
                refine lv_if_eq (tgt := 114) hx hb dX4_place_109 (by decide) (fun _ => ?_) (fun c => absurd (by decide) c)
                refine lv_aload_n hx hb dX4_place_114 rfl (lv_at hl 2 rfl) ?_
                refine va_get (D := D) (ci := 4) (v := .ref q2) (C := RX4) (T := TX4) (N := 4) hx hb hts hnX4 hown hE.1 hP 7 rfl rfl 2 (by decide) (hts (.fieldLink RX4 15 "MovedStones$Nights" "stones" "[I") (List.mem_cons_of_mem _ (List.mem_append_left _ (List.mem_append_left _ (List.mem_append_left _ (List.mem_of_getElem? (i := 1) rfl)))))) (fun _ h9 => h9) rfl dX4_place_115 ?_
                refine lv_iload hx hb dX4_place_118 (lv_at hl 1 rfl) ?_
                refine lv_iload hx hb dX4_place_120 (lv_at hl 0 rfl) ?_
                refine rg_iast hx hb hE hP hD hS (q0 := 4) rfl l5 h17 (by decide) dX4_place_122 (fun w45 H locs ew45 hP hD hS => ?_)
                have h46 : rg_F w45 f2 0 8 := rg_Ftr (rg_Fst ew45 l5 h17 (by decide)) h26 (by decide)
                have hP : va_P D vwCl [(q3, .inl (cA 0, 9, .inl f3)), (q4, .inl (cA 0, 5, .inl w27)), (q1, .inr (2, [.int s1_0, .int s1_1, .int s1_2, .int s1_3, .int s1_4, .ref q8, .ref q9, .ref q10, .ref q11, .ref q12, .ref q7, .ref q5, .ref q6])), (q5, .inl (cA 0, 6, .inl f5)), (q2, .inl (cA 0, 9, .inl w45)), (q6, .inl (cA 0, 6, .inl f6)), (q7, .inl (cA 0, 6, .inl f7)), (q0, .inr (4, [.ref q4, .int s0_1, .ref q2, .int s0_3]))] H := hP
                have hD : va_D A [(q3, .inl (cA 0, 9, .inl f3)), (q4, .inl (cA 0, 5, .inl w27)), (q1, .inr (2, [.int s1_0, .int s1_1, .int s1_2, .int s1_3, .int s1_4, .ref q8, .ref q9, .ref q10, .ref q11, .ref q12, .ref q7, .ref q5, .ref q6])), (q5, .inl (cA 0, 6, .inl f5)), (q2, .inl (cA 0, 9, .inl w45)), (q6, .inl (cA 0, 6, .inl f6)), (q7, .inl (cA 0, 6, .inl f7)), (q0, .inr (4, [.ref q4, .int s0_1, .ref q2, .int s0_3]))] := hD
                refine rg_iinc (lo := 1) (hi := 9) (fun z => [(5, .int z), (6, .int v23), (0, .ref q0), (1, .ref q1), (2, .ref q3), (3, .int a0), (4, .int 4)]) hx hb dX4_place_123 hl (k := 1) rfl (by decide) l5 h17 (by decide) (fun _ => rfl) (fun v47 ev47 lv47 uv47 ls hl => ?_)
                have hl : lv_has ls 7 [(5, .int v47), (6, .int v23), (0, .ref q0), (1, .ref q1), (2, .ref q3), (3, .int a0), (4, .int 4)] := hl
                refine lv_goto (tgt := 23) hx hb dX4_place_126 (by decide) ?_
                exact ih14 v47 w45 w27 _ _ _ (rg_le lv47 (by decide)) (rg_ge uv47 (by decide)) (rg_Fmono h46 (by decide)) (rg_Smono h28 (by decide) (by decide) (by decide) (by decide)) (rg_Fmono h29 (by decide))  (rg_ms hm15 ev47 (by decide)) (hP.sub [7, 2, 4, 0, 1, 3, 5, 6] rfl) (hD.sub [7, 2, 4, 0, 1, 3, 5, 6] (by decide) rfl) hS (lv_sub hl [0, 2, 3, 4, 5, 6] rfl)
              · subst hr
                have hP : va_P D vwCl [(q3, .inl (cA 0, 9, .inl f3)), (q4, .inl (cA 0, 5, .inl w27)), (q1, .inr (2, [.int s1_0, .int s1_1, .int s1_2, .int s1_3, .int s1_4, .ref q8, .ref q9, .ref q10, .ref q11, .ref q12, .ref q7, .ref q5, .ref q6])), (q5, .inl (cA 0, 6, .inl f5)), (q2, .inl (cA 0, 9, .inl w25)), (q6, .inl (cA 0, 6, .inl f6)), (q7, .inl (cA 0, 6, .inl f7)), (q0, .inr (4, [.ref q4, .int s0_1, .ref q2, .int s0_3]))] H := hP
                have hD : va_D A [(q3, .inl (cA 0, 9, .inl f3)), (q4, .inl (cA 0, 5, .inl w27)), (q1, .inr (2, [.int s1_0, .int s1_1, .int s1_2, .int s1_3, .int s1_4, .ref q8, .ref q9, .ref q10, .ref q11, .ref q12, .ref q7, .ref q5, .ref q6])), (q5, .inl (cA 0, 6, .inl f5)), (q2, .inl (cA 0, 9, .inl w25)), (q6, .inl (cA 0, 6, .inl f6)), (q7, .inl (cA 0, 6, .inl f7)), (q0, .inr (4, [.ref q4, .int s0_1, .ref q2, .int s0_3]))] := hD
                have h48 : ms_pc v42 + 1 = ms_pc a0 := ms_pcL (rg_le h3 (by decide)) (rg_ge a0u (by decide)) l5 h17 ev19 ev20 c21 ev40 ev41 ev42
                refine lv_if_eq (tgt := 114) hx hb dX4_place_109 (by decide) (fun c => absurd c (by decide)) (fun _ => ?_)
                refine lv_iconst (v := 1) hx hb dX4_place_112 (by decide) ?_
                exact ms_zret hx hb hr rfl hlk (fun i => [].getD i 0, fun i => [w25, w27].getD i ms_z, fun i => [].getD i 0) (Or.inr ⟨rfl, rg_Smono h28 (by decide) (by decide) (by decide) (by decide), rg_Fmono h29 (by decide), (ms_pcle h48 exu43 (by decide)), trivial⟩) (hP.sub [7, 2, 4, 0, 1, 3, 5, 6] rfl) (hD.sub [7, 2, 4, 0, 1, 3, 5, 6] (by decide) rfl) hS (Nat.le_of_ble_eq_true rfl) (Nat.le_of_ble_eq_true rfl) dX4_place_113
          · have h49 : v20.toInt ≤ 0 := rg_eq_hi c21 (by decide : (0 : Int32).toInt ≤ 0)
            refine lv_goto (tgt := 123) hx hb dX4_place_41 (by decide) ?_
            refine rg_iinc (lo := 1) (hi := 9) (fun z => [(5, .int z), (0, .ref q0), (1, .ref q1), (2, .ref q3), (3, .int a0), (4, .int 4)]) hx hb dX4_place_123 hl (k := 0) rfl (by decide) l5 h17 (by decide) (fun _ => rfl) (fun v50 ev50 lv50 uv50 ls hl => ?_)
            have hl : lv_has ls 7 [(5, .int v50), (0, .ref q0), (1, .ref q1), (2, .ref q3), (3, .int a0), (4, .int 4)] := hl
            refine lv_goto (tgt := 23) hx hb dX4_place_126 (by decide) ?_
            exact ih14 v50 w7 w9 _ _ _ (rg_le lv50 (by decide)) (rg_ge uv50 (by decide)) (rg_Fmono fr8 (by decide)) (rg_Smono g10 (by decide) (by decide) (by decide) (by decide)) (rg_Fmono fr11 (by decide))  (rg_ms hm15 ev50 (by decide)) hP hD hS (lv_sub hl [0, 1, 2, 3, 4, 5] rfl)
    exact lp12 10 0 f2 f4 _ _ _ (rg_le (by decide : (0 : Int) ≤ (0 : Int32).toInt) (by decide)) (rg_ge (by decide : (0 : Int32).toInt ≤ 0) (by decide)) (rg_Frefl _ _ _) (rg_Smono f4_0 (by decide) (by decide) (by decide) (by decide)) (rg_Frefl _ _ _)  (rg_mi (by decide : (0 : Int) ≤ (0 : Int32).toInt) (by decide)) hP hD hS (lv_sub hl [0, 1, 2, 3, 4, 5] rfl)
set_option maxHeartbeats 4000000 in
set_option maxRecDepth 100000 in
theorem kX4_place_3 (l : Launch) (D : va_G) (cA : Nat → ClassId) (q0 q1 q2 q3 q4 q5 q6 q7 q8 q9 q10 q11 q12 : Nat) (s0_1 : Int32) (s0_3 : Int32) (s1_0 : Int32) (s1_1 : Int32) (s1_2 : Int32) (s1_3 : Int32) (s1_4 : Int32) (f2 : Nat → Int32) (f3 : Nat → Int32) (f4 : Nat → Int32) (f5 : Nat → Int32) (f6 : Nat → Int32) (f7 : Nat → Int32) (a0 : Int32) (s1_0l : 0 ≤ s1_0.toInt) (s1_0u : s1_0.toInt ≤ 6) (s1_1l : 0 ≤ s1_1.toInt) (s1_1u : s1_1.toInt ≤ 4) (s1_2l : 0 ≤ s1_2.toInt) (s1_2u : s1_2.toInt ≤ 9) (s1_3l : 0 ≤ s1_3.toInt) (s1_3u : s1_3.toInt ≤ 9) (s1_4l : 0 ≤ s1_4.toInt) (s1_4u : s1_4.toInt ≤ 6) (f3_0 : rg_S f3 0 9 0 999) (f4_0 : rg_S f4 0 5 0 8) (f6_0 : rg_S f6 0 6 0 999) (f7_0 : rg_S f7 0 6 0 2) (a0l : 0 ≤ a0.toInt) (a0u : a0.toInt ≤ 511) : ms_Mi l yX4_place wsX4_place ({ frames := 5, cells := 0, slots := 0, locals := 134 } : Room) D cA [.ref q0, .ref q1, .ref q3, .int a0, .int 3] [(q0, .inr (4, [.ref q4, .int s0_1, .ref q2, .int s0_3])), (q1, .inr (2, [.int s1_0, .int s1_1, .int s1_2, .int s1_3, .int s1_4, .ref q8, .ref q9, .ref q10, .ref q11, .ref q12, .ref q7, .ref q5, .ref q6])), (q2, .inl (cA 0, 9, .inl f2)), (q3, .inl (cA 0, 9, .inl f3)), (q4, .inl (cA 0, 5, .inl f4)), (q5, .inl (cA 0, 6, .inl f5)), (q6, .inl (cA 0, 6, .inl f6)), (q7, .inl (cA 0, 6, .inl f7))] (fun (r : Int32) (u : ((Nat → Int32) × (Nat → Nat → Int32) × (Nat → Int64))) => (r = 0 ∧ rg_S (u.2.1 1) 0 5 0 8 ∧ rg_F (u.2.1 1) f4 3 4 ∧ (1 ≤ a0.toInt ∧ a0.toInt ≤ 511) ∧ True ∧ True) ∨ (r = 1 ∧ rg_S (u.2.1 1) 0 5 0 8 ∧ rg_F (u.2.1 1) f4 3 4 ∧ ms_pc a0 ≤ 2 ∧ True)) (fun (u : ((Nat → Int32) × (Nat → Nat → Int32) × (Nat → Int64))) => [(q0, .inr (4, [.ref q4, .int s0_1, .ref q2, .int s0_3])), (q1, .inr (2, [.int s1_0, .int s1_1, .int s1_2, .int s1_3, .int s1_4, .ref q8, .ref q9, .ref q10, .ref q11, .ref q12, .ref q7, .ref q5, .ref q6])), (q2, .inl (cA 0, 9, .inl (u.2.1 0))), (q3, .inl (cA 0, 9, .inl f3)), (q4, .inl (cA 0, 5, .inl (u.2.1 1))), (q5, .inl (cA 0, 6, .inl f5)), (q6, .inl (cA 0, 6, .inl f6)), (q7, .inl (cA 0, 6, .inl f7))]) := by
  refine ms_Mi_of (cc := cX4_place) (maxL := 7) (ret := (some .boolean)) (by decide) rfl (Nat.le_of_ble_eq_true rfl) ?_
  intro p e s m args below meth c A ls hB hE hA hP hD hS hl
  obtain ⟨hx, hb, hr, hml, hown, hts, hlk, hnm⟩ := hB
  have hown : s.vm.findClass RX4 = some m.cls := hown
  have hnX2 : ∀ w ∈ u_ws RX2 TX2 13, w ∈ wsX4_place := fun _ h => List.mem_cons_of_mem _ (List.mem_append_left _ (List.mem_append_right _ (h)))
  have hnX4 : ∀ w ∈ u_ws RX4 TX4 4, w ∈ wsX4_place := fun _ h => List.mem_cons_of_mem _ (List.mem_append_right _ (h))
  have hl : lv_has ls 7 [(0, .ref q0), (1, .ref q1), (2, .ref q3), (3, .int a0), (4, .int 3)] := hl
  refine lv_iload_n hx hb dX4_place_0 rfl (lv_at hl 3 rfl) ?_
  refine lv_if_eq (tgt := 10) hx hb dX4_place_1 (by decide) (fun c1 => ?_) (fun c1 => ?_)
  · have h2 : a0.toInt ≤ 0 := rg_eq_hi c1 (by decide : (0 : Int32).toInt ≤ 0)
    refine lv_iload_n hx hb dX4_place_10 rfl (lv_at hl 3 rfl) ?_
    refine lv_if_ne (tgt := 18) hx hb dX4_place_11 (by decide) (fun c => absurd (rg_yes_eq h2 a0l (by decide : (0 : Int32).toInt ≤ 0) (by decide : (0 : Int) ≤ (0 : Int32).toInt)) c) (fun _ => ?_)
    refine lv_iconst (v := 1) hx hb dX4_place_14 (by decide) ?_
    refine lv_goto (tgt := 19) hx hb dX4_place_15 (by decide) ?_
    exact ms_zret hx hb hr rfl hlk (fun i => [].getD i 0, fun i => [f2, f4].getD i ms_z, fun i => [].getD i 0) (Or.inr ⟨rfl, rg_Smono f4_0 (by decide) (by decide) (by decide) (by decide), rg_Frefl _ _ _, (by rw [c1]; decide), trivial⟩) hP hD hS (Nat.le_of_ble_eq_true rfl) (Nat.le_of_ble_eq_true rfl) dX4_place_19
  · have h3 : 1 ≤ a0.toInt := rg_ne_lo c1 a0l (by decide : (0 : Int) ≤ (0 : Int32).toInt) (by decide : (0 : Int32).toInt ≤ 0) (by decide)
    refine lv_iload hx hb dX4_place_4 (lv_at hl 4 rfl) ?_
    refine lv_iconst (v := 5) hx hb dX4_place_6 (by decide) ?_
    refine lv_icmp_lt (tgt := 20) hx hb dX4_place_7 (by decide) (fun _ => ?_) (fun c => absurd (by decide) c)
    refine lv_iconst (v := 0) hx hb dX4_place_20 (by decide) ?_
    refine lv_istore (lv' := [(5, .int 0), (0, .ref q0), (1, .ref q1), (2, .ref q3), (3, .int a0), (4, .int 3)]) hx hb dX4_place_21 hl (by decide) rfl (fun ls hl => ?_)
    have lp11 : ∀ (n12 : Nat) (x4 : Int32) (w7 : Nat → Int32) (w8 : Nat → Int32) (H : Heap) (locs : List Loc) (ls : Array Slot), 0 ≤ x4.toInt → x4.toInt ≤ 9 → rg_S w8 0 5 0 8 → rg_F w8 f4 3 4 → 9 + 1 ≤ x4.toInt + (n12 : Int) → va_P D vwCl [(q0, .inr (4, [.ref q4, .int s0_1, .ref q2, .int s0_3])), (q1, .inr (2, [.int s1_0, .int s1_1, .int s1_2, .int s1_3, .int s1_4, .ref q8, .ref q9, .ref q10, .ref q11, .ref q12, .ref q7, .ref q5, .ref q6])), (q2, .inl (cA 0, 9, .inl w7)), (q3, .inl (cA 0, 9, .inl f3)), (q4, .inl (cA 0, 5, .inl w8)), (q5, .inl (cA 0, 6, .inl f5)), (q6, .inl (cA 0, 6, .inl f6)), (q7, .inl (cA 0, 6, .inl f7))] H → va_D A [(q0, .inr (4, [.ref q4, .int s0_1, .ref q2, .int s0_3])), (q1, .inr (2, [.int s1_0, .int s1_1, .int s1_2, .int s1_3, .int s1_4, .ref q8, .ref q9, .ref q10, .ref q11, .ref q12, .ref q7, .ref q5, .ref q6])), (q2, .inl (cA 0, 9, .inl w7)), (q3, .inl (cA 0, 9, .inl f3)), (q4, .inl (cA 0, 5, .inl w8)), (q5, .inl (cA 0, 6, .inl f5)), (q6, .inl (cA 0, 6, .inl f6)), (q7, .inl (cA 0, 6, .inl f7))] → va_S A s.heap H locs → lv_has ls 7 [(5, .int x4), (0, .ref q0), (1, .ref q1), (2, .ref q3), (3, .int a0), (4, .int 3)] → W p l e ({ frames := 5, cells := 0, slots := 0, locals := 134 } : Room) s m args below meth c H locs 0 0 (MQ below (ms_Qi D A (fun (r : Int32) (u : ((Nat → Int32) × (Nat → Nat → Int32) × (Nat → Int64))) => (r = 0 ∧ rg_S (u.2.1 1) 0 5 0 8 ∧ rg_F (u.2.1 1) f4 3 4 ∧ (1 ≤ a0.toInt ∧ a0.toInt ≤ 511) ∧ True ∧ True) ∨ (r = 1 ∧ rg_S (u.2.1 1) 0 5 0 8 ∧ rg_F (u.2.1 1) f4 3 4 ∧ ms_pc a0 ≤ 2 ∧ True)) (fun (u : ((Nat → Int32) × (Nat → Nat → Int32) × (Nat → Int64))) => [(q0, .inr (4, [.ref q4, .int s0_1, .ref q2, .int s0_3])), (q1, .inr (2, [.int s1_0, .int s1_1, .int s1_2, .int s1_3, .int s1_4, .ref q8, .ref q9, .ref q10, .ref q11, .ref q12, .ref q7, .ref q5, .ref q6])), (q2, .inl (cA 0, 9, .inl (u.2.1 0))), (q3, .inl (cA 0, 9, .inl f3)), (q4, .inl (cA 0, 5, .inl (u.2.1 1))), (q5, .inl (cA 0, 6, .inl f5)), (q6, .inl (cA 0, 6, .inl f6)), (q7, .inl (cA 0, 6, .inl f7))])) args s 0 0 A) (F0 m 23 ls []) := by
      intro n12
      induction n12 with
      | zero => intro x4 w7 w8 H locs ls l5 u6 g9 fr10  hm14; exact (rg_m0 hm14 u6).elim
      | succ n12 ih13 =>
        intro x4 w7 w8 H locs ls l5 u6 g9 fr10  hm14 hP hD hS hl
        refine lv_iload hx hb dX4_place_23 (lv_at hl 0 rfl) ?_
        refine lv_aload_n hx hb dX4_place_25 rfl (lv_at hl 2 rfl) ?_
        refine va_get (D := D) (ci := 2) (v := .int s1_3) (C := RX2) (T := TX2) (N := 13) hx hb hts hnX2 hown hE.1 hP 1 rfl rfl 3 (by decide) (hts (.fieldLink RX4 34 "MovedStones$Land" "roads" "I") (List.mem_cons_of_mem _ (List.mem_append_left _ (List.mem_append_left _ (List.mem_append_left _ (List.mem_of_getElem? (i := 0) rfl)))))) (fun _ h9 => h9) rfl dX4_place_26 ?_
        refine lv_icmp_ge (tgt := 129) hx hb dX4_place_29 (by decide) (fun c15 => ?_) (fun c15 => ?_)
        · refine lv_iconst (v := 0) hx hb dX4_place_129 (by decide) ?_
          exact ms_zret hx hb hr rfl hlk (fun i => [].getD i 0, fun i => [w7, w8].getD i ms_z, fun i => [].getD i 0) (Or.inl ⟨rfl, rg_Smono g9 (by decide) (by decide) (by decide) (by decide), rg_Fmono fr10 (by decide), ⟨rg_le h3 (by decide), rg_ge a0u (by decide)⟩, trivial, trivial⟩) hP hD hS (Nat.le_of_ble_eq_true rfl) (Nat.le_of_ble_eq_true rfl) dX4_place_130
        · have h16 : x4.toInt ≤ 8 := rg_lt_hi (rg_nle c15) s1_3u (by decide)
          have h17 : 1 ≤ s1_3.toInt := rg_lt_lo (rg_nle c15) l5 (by decide)
          refine lv_iload_n hx hb dX4_place_32 rfl (lv_at hl 4 rfl) ?_
          refine lv_iload hx hb dX4_place_33 (lv_at hl 0 rfl) ?_
          refine lv_ishr hx hb dX4_place_35 ?_
          refine lv_topi (fun v18 ev18 => ?_)
          refine lv_iconst (v := 1) hx hb dX4_place_36 (by decide) ?_
          refine rg_iand1 hx hb dX4_place_37 (fun v19 ev19 lv19 uv19 => ?_)
          refine lv_if_ne (tgt := 44) hx hb dX4_place_38 (by decide) (fun c20 => ?_) (fun c20 => ?_)
          · have h21 : 1 ≤ v19.toInt := rg_ne_lo c20 lv19 (by decide : (0 : Int) ≤ (0 : Int32).toInt) (by decide : (0 : Int32).toInt ≤ 0) (by decide)
            refine lv_aload_n hx hb dX4_place_44 rfl (lv_at hl 1 rfl) ?_
            refine va_get (D := D) (ci := 4) (v := .ref q2) (C := RX4) (T := TX4) (N := 4) hx hb hts hnX4 hown hE.1 hP 0 rfl rfl 2 (by decide) (hts (.fieldLink RX4 15 "MovedStones$Nights" "stones" "[I") (List.mem_cons_of_mem _ (List.mem_append_left _ (List.mem_append_left _ (List.mem_append_left _ (List.mem_of_getElem? (i := 1) rfl)))))) (fun _ h9 => h9) rfl dX4_place_45 ?_
            refine lv_iload hx hb dX4_place_48 (lv_at hl 0 rfl) ?_
            refine rg_iald0 hx hb hE hP (q0 := 2) rfl l5 h16 (by decide) dX4_place_50 (fun v22 ev22 => ?_)
            refine lv_istore (lv' := [(6, .int v22), (5, .int x4), (0, .ref q0), (1, .ref q1), (2, .ref q3), (3, .int a0), (4, .int 3)]) hx hb dX4_place_51 hl (by decide) rfl (fun ls hl => ?_)
            refine lv_aload_n hx hb dX4_place_53 rfl (lv_at hl 2 rfl) ?_
            refine va_get (D := D) (ci := 4) (v := .ref q2) (C := RX4) (T := TX4) (N := 4) hx hb hts hnX4 hown hE.1 hP 0 rfl rfl 2 (by decide) (hts (.fieldLink RX4 15 "MovedStones$Nights" "stones" "[I") (List.mem_cons_of_mem _ (List.mem_append_left _ (List.mem_append_left _ (List.mem_append_left _ (List.mem_of_getElem? (i := 1) rfl)))))) (fun _ h9 => h9) rfl dX4_place_54 ?_
            refine lv_iload hx hb dX4_place_57 (lv_at hl 1 rfl) ?_
            refine lv_aload_n hx hb dX4_place_59 rfl (lv_at hl 4 rfl) ?_
            refine lv_iload hx hb dX4_place_60 (lv_at hl 1 rfl) ?_
            refine rg_iald hx hb hE hP (q0 := 3) rfl l5 h16 f3_0 (by decide) dX4_place_62 (fun v23 ev23 lv23 uv23 => ?_)
            refine rg_iast hx hb hE hP hD hS (q0 := 2) rfl l5 h16 (by decide) dX4_place_63 (fun w24 H locs ew24 hP hD hS => ?_)
            have hP : va_P D vwCl [(q0, .inr (4, [.ref q4, .int s0_1, .ref q2, .int s0_3])), (q1, .inr (2, [.int s1_0, .int s1_1, .int s1_2, .int s1_3, .int s1_4, .ref q8, .ref q9, .ref q10, .ref q11, .ref q12, .ref q7, .ref q5, .ref q6])), (q2, .inl (cA 0, 9, .inl w24)), (q3, .inl (cA 0, 9, .inl f3)), (q4, .inl (cA 0, 5, .inl w8)), (q5, .inl (cA 0, 6, .inl f5)), (q6, .inl (cA 0, 6, .inl f6)), (q7, .inl (cA 0, 6, .inl f7))] H := hP
            have hD : va_D A [(q0, .inr (4, [.ref q4, .int s0_1, .ref q2, .int s0_3])), (q1, .inr (2, [.int s1_0, .int s1_1, .int s1_2, .int s1_3, .int s1_4, .ref q8, .ref q9, .ref q10, .ref q11, .ref q12, .ref q7, .ref q5, .ref q6])), (q2, .inl (cA 0, 9, .inl w24)), (q3, .inl (cA 0, 9, .inl f3)), (q4, .inl (cA 0, 5, .inl w8)), (q5, .inl (cA 0, 6, .inl f5)), (q6, .inl (cA 0, 6, .inl f6)), (q7, .inl (cA 0, 6, .inl f7))] := hD
            refine lv_aload_n hx hb dX4_place_64 rfl (lv_at hl 2 rfl) ?_
            refine va_get (D := D) (ci := 4) (v := .ref q4) (C := RX4) (T := TX4) (N := 4) hx hb hts hnX4 hown hE.1 hP 0 rfl rfl 0 (by decide) (hts (.fieldLink RX4 9 "MovedStones$Nights" "order" "[I") (List.mem_cons_of_mem _ (List.mem_append_left _ (List.mem_append_left _ (List.mem_append_left _ (List.mem_of_getElem? (i := 2) rfl)))))) (fun _ h9 => h9) rfl dX4_place_65 ?_
            refine lv_iload hx hb dX4_place_68 (lv_at hl 6 rfl) ?_
            refine lv_iload hx hb dX4_place_70 (lv_at hl 1 rfl) ?_
            refine rg_iast hx hb hE hP hD hS (q0 := 4) rfl (by decide : (3 : Int) ≤ (3 : Int32).toInt) (by decide : (3 : Int32).toInt ≤ 3) (by decide) dX4_place_72 (fun w25 H locs ew25 hP hD hS => ?_)
            have h26 : rg_S w25 0 5 0 8 := rg_Supd g9 ew25 (rg_le l5 (by decide)) (rg_ge h16 (by decide))
            have h27 : rg_F w25 f4 3 4 := rg_Ftr (rg_Fst ew25 (by decide : (3 : Int) ≤ (3 : Int32).toInt) (by decide : (3 : Int32).toInt ≤ 3) (by decide)) fr10 (by decide)
            have hP : va_P D vwCl [(q0, .inr (4, [.ref q4, .int s0_1, .ref q2, .int s0_3])), (q1, .inr (2, [.int s1_0, .int s1_1, .int s1_2, .int s1_3, .int s1_4, .ref q8, .ref q9, .ref q10, .ref q11, .ref q12, .ref q7, .ref q5, .ref q6])), (q2, .inl (cA 0, 9, .inl w24)), (q3, .inl (cA 0, 9, .inl f3)), (q4, .inl (cA 0, 5, .inl w25)), (q5, .inl (cA 0, 6, .inl f5)), (q6, .inl (cA 0, 6, .inl f6)), (q7, .inl (cA 0, 6, .inl f7))] H := hP
            have hD : va_D A [(q0, .inr (4, [.ref q4, .int s0_1, .ref q2, .int s0_3])), (q1, .inr (2, [.int s1_0, .int s1_1, .int s1_2, .int s1_3, .int s1_4, .ref q8, .ref q9, .ref q10, .ref q11, .ref q12, .ref q7, .ref q5, .ref q6])), (q2, .inl (cA 0, 9, .inl w24)), (q3, .inl (cA 0, 9, .inl f3)), (q4, .inl (cA 0, 5, .inl w25)), (q5, .inl (cA 0, 6, .inl f5)), (q6, .inl (cA 0, 6, .inl f6)), (q7, .inl (cA 0, 6, .inl f7))] := hD
            refine lv_aload_n hx hb dX4_place_73 rfl (lv_at hl 2 rfl) ?_
            refine va_get (D := D) (ci := 4) (v := .int s0_3) (C := RX4) (T := TX4) (N := 4) hx hb hts hnX4 hown hE.1 hP 0 rfl rfl 3 (by decide) (hts (.fieldLink RX4 30 "MovedStones$Nights" "kept" "I") (List.mem_cons_of_mem _ (List.mem_append_left _ (List.mem_append_left _ (List.mem_append_left _ (List.mem_of_getElem? (i := 3) rfl)))))) (fun _ h9 => h9) rfl dX4_place_74 ?_
            refine lv_aload_n hx hb dX4_place_77 rfl (lv_at hl 3 rfl) ?_
            refine lv_aload_n hx hb dX4_place_78 rfl (lv_at hl 2 rfl) ?_
            refine va_get (D := D) (ci := 4) (v := .ref q2) (C := RX4) (T := TX4) (N := 4) hx hb hts hnX4 hown hE.1 hP 0 rfl rfl 2 (by decide) (hts (.fieldLink RX4 15 "MovedStones$Nights" "stones" "[I") (List.mem_cons_of_mem _ (List.mem_append_left _ (List.mem_append_left _ (List.mem_append_left _ (List.mem_of_getElem? (i := 1) rfl)))))) (fun _ h9 => h9) rfl dX4_place_79 ?_
            refine ms_cVi (qc := (RX2, TX2, 13)) (wc := [(q1, .inr (2, [.int s1_0, .int s1_1, .int s1_2, .int s1_3, .int s1_4, .ref q8, .ref q9, .ref q10, .ref q11, .ref q12, .ref q7, .ref q5, .ref q6])), (q5, .inl (cA 0, 6, .inl f5)), (q2, .inl (cA 0, 9, .inl w24)), (q6, .inl (cA 0, 6, .inl f6)), (q7, .inl (cA 0, 6, .inl f7))]) (wr := [(q0, .inr (4, [.ref q4, .int s0_1, .ref q2, .int s0_3])), (q3, .inl (cA 0, 9, .inl f3)), (q4, .inl (cA 0, 5, .inl w25))]) ⟨hx, hb, hml, hown, hts⟩ hE (kX2_holding_1 l D cA q1 q5 q2 q6 q7 q8 q9 q10 q11 q12 s1_0 s1_1 s1_2 s1_3 s1_4 f5 w24 f6 f7 (rg_le s1_0l (by decide)) (rg_ge s1_0u (by decide)) (rg_le s1_1l (by decide)) (rg_ge s1_1u (by decide)) (rg_le s1_2l (by decide)) (rg_ge s1_2u (by decide)) (rg_le h17 (by decide)) (rg_ge s1_3u (by decide)) (rg_le s1_4l (by decide)) (rg_ge s1_4u (by decide)) (rg_Smono f6_0 (by decide) (by decide) (by decide) (by decide)) (rg_Smono f7_0 (by decide) (by decide) (by decide) (by decide))) (cwV 1 hts gX4_place_X2_holding rfl rfl rfl (by decide +kernel) ⟨Nat.le_of_ble_eq_true rfl, Nat.le_of_ble_eq_true rfl⟩) hP hD hS hA [1, 5, 2, 6, 7] [0, 3, 4] rfl rfl rfl rfl (by decide) 0 2 rfl rfl rfl hl.1 rfl (Nat.le_of_ble_eq_true rfl) dX4_place_82 ⟨Nat.le_of_ble_eq_true rfl, Nat.le_of_ble_eq_true rfl⟩ (fun r29 u28 H locs hp hP hD hS => ?_)
            obtain ⟨⟨r29l, r29u⟩, -⟩ := hp
            have hP : va_P D vwCl [(q0, .inr (4, [.ref q4, .int s0_1, .ref q2, .int s0_3])), (q3, .inl (cA 0, 9, .inl f3)), (q4, .inl (cA 0, 5, .inl w25)), (q1, .inr (2, [.int s1_0, .int s1_1, .int s1_2, .int s1_3, .int s1_4, .ref q8, .ref q9, .ref q10, .ref q11, .ref q12, .ref q7, .ref q5, .ref q6])), (q5, .inl (cA 0, 6, .inl f5)), (q2, .inl (cA 0, 9, .inl w24)), (q6, .inl (cA 0, 6, .inl f6)), (q7, .inl (cA 0, 6, .inl f7))] H := hP
            have hD : va_D A [(q0, .inr (4, [.ref q4, .int s0_1, .ref q2, .int s0_3])), (q3, .inl (cA 0, 9, .inl f3)), (q4, .inl (cA 0, 5, .inl w25)), (q1, .inr (2, [.int s1_0, .int s1_1, .int s1_2, .int s1_3, .int s1_4, .ref q8, .ref q9, .ref q10, .ref q11, .ref q12, .ref q7, .ref q5, .ref q6])), (q5, .inl (cA 0, 6, .inl f5)), (q2, .inl (cA 0, 9, .inl w24)), (q6, .inl (cA 0, 6, .inl f6)), (q7, .inl (cA 0, 6, .inl f7))] := hD
            refine lv_iconst (v := (-1)) hx hb dX4_place_85 (by decide) ?_
            refine lv_ixor hx hb dX4_place_86 ?_
            refine lv_topi (fun v30 ev30 => ?_)
            refine lv_iand hx hb dX4_place_87 ?_
            refine lv_topi (fun v31 ev31 => ?_)
            refine lv_if_ne (tgt := 114) hx hb dX4_place_88 (by decide) (fun c32 => ?_) (fun c32 => ?_)
            · refine lv_aload_n hx hb dX4_place_114 rfl (lv_at hl 2 rfl) ?_
              refine va_get (D := D) (ci := 4) (v := .ref q2) (C := RX4) (T := TX4) (N := 4) hx hb hts hnX4 hown hE.1 hP 0 rfl rfl 2 (by decide) (hts (.fieldLink RX4 15 "MovedStones$Nights" "stones" "[I") (List.mem_cons_of_mem _ (List.mem_append_left _ (List.mem_append_left _ (List.mem_append_left _ (List.mem_of_getElem? (i := 1) rfl)))))) (fun _ h9 => h9) rfl dX4_place_115 ?_
              refine lv_iload hx hb dX4_place_118 (lv_at hl 1 rfl) ?_
              refine lv_iload hx hb dX4_place_120 (lv_at hl 0 rfl) ?_
              refine rg_iast hx hb hE hP hD hS (q0 := 5) rfl l5 h16 (by decide) dX4_place_122 (fun w33 H locs ew33 hP hD hS => ?_)
              have hP : va_P D vwCl [(q0, .inr (4, [.ref q4, .int s0_1, .ref q2, .int s0_3])), (q3, .inl (cA 0, 9, .inl f3)), (q4, .inl (cA 0, 5, .inl w25)), (q1, .inr (2, [.int s1_0, .int s1_1, .int s1_2, .int s1_3, .int s1_4, .ref q8, .ref q9, .ref q10, .ref q11, .ref q12, .ref q7, .ref q5, .ref q6])), (q5, .inl (cA 0, 6, .inl f5)), (q2, .inl (cA 0, 9, .inl w33)), (q6, .inl (cA 0, 6, .inl f6)), (q7, .inl (cA 0, 6, .inl f7))] H := hP
              have hD : va_D A [(q0, .inr (4, [.ref q4, .int s0_1, .ref q2, .int s0_3])), (q3, .inl (cA 0, 9, .inl f3)), (q4, .inl (cA 0, 5, .inl w25)), (q1, .inr (2, [.int s1_0, .int s1_1, .int s1_2, .int s1_3, .int s1_4, .ref q8, .ref q9, .ref q10, .ref q11, .ref q12, .ref q7, .ref q5, .ref q6])), (q5, .inl (cA 0, 6, .inl f5)), (q2, .inl (cA 0, 9, .inl w33)), (q6, .inl (cA 0, 6, .inl f6)), (q7, .inl (cA 0, 6, .inl f7))] := hD
              refine rg_iinc (lo := 1) (hi := 9) (fun z => [(5, .int z), (6, .int v22), (0, .ref q0), (1, .ref q1), (2, .ref q3), (3, .int a0), (4, .int 3)]) hx hb dX4_place_123 hl (k := 1) rfl (by decide) l5 h16 (by decide) (fun _ => rfl) (fun v34 ev34 lv34 uv34 ls hl => ?_)
              have hl : lv_has ls 7 [(5, .int v34), (6, .int v22), (0, .ref q0), (1, .ref q1), (2, .ref q3), (3, .int a0), (4, .int 3)] := hl
              refine lv_goto (tgt := 23) hx hb dX4_place_126 (by decide) ?_
              exact ih13 v34 w33 w25 _ _ _ (rg_le lv34 (by decide)) (rg_ge uv34 (by decide)) (rg_Smono h26 (by decide) (by decide) (by decide) (by decide)) (rg_Fmono h27 (by decide))  (rg_ms hm14 ev34 (by decide)) (hP.sub [0, 3, 5, 1, 2, 4, 6, 7] rfl) (hD.sub [0, 3, 5, 1, 2, 4, 6, 7] (by decide) rfl) hS (lv_sub hl [0, 2, 3, 4, 5, 6] rfl)
            · have h35 : 0 ≤ v31.toInt := rg_eq_lo c32 (by decide : (0 : Int) ≤ (0 : Int32).toInt)
              have h36 : v31.toInt ≤ 0 := rg_eq_hi c32 (by decide : (0 : Int32).toInt ≤ 0)
              refine lv_aload_n hx hb dX4_place_91 rfl (lv_at hl 2 rfl) ?_
              refine lv_aload_n hx hb dX4_place_92 rfl (lv_at hl 3 rfl) ?_
              refine lv_aload_n hx hb dX4_place_93 rfl (lv_at hl 4 rfl) ?_
              refine lv_iload_n hx hb dX4_place_94 rfl (lv_at hl 5 rfl) ?_
              refine lv_iconst (v := 1) hx hb dX4_place_95 (by decide) ?_
              refine lv_iload hx hb dX4_place_96 (lv_at hl 1 rfl) ?_
              refine rg_shl1 (lo := 1) (hi := 256) hx hb dX4_place_98 l5 h16 (by decide) (fun v37 ev37 lv37 uv37 => ?_)
              refine lv_iconst (v := (-1)) hx hb dX4_place_99 (by decide) ?_
              refine lv_ixor hx hb dX4_place_100 ?_
              refine lv_topi (fun v38 ev38 => ?_)
              refine rg_iand (hi := 511) hx hb dX4_place_101 h3 a0u (by decide) (fun v39 ev39 lv39 uv39 => ?_)
              refine lv_iload hx hb dX4_place_102 (lv_at hl 6 rfl) ?_
              refine lv_iconst (v := 1) hx hb dX4_place_104 (by decide) ?_
              refine lv_iadd hx hb dX4_place_105 ?_
              refine ms_eqi (y := 4) (by decide) ?_
              refine ms_cVi (qc := (RX4, TX4, 4)) (wc := [(q0, .inr (4, [.ref q4, .int s0_1, .ref q2, .int s0_3])), (q1, .inr (2, [.int s1_0, .int s1_1, .int s1_2, .int s1_3, .int s1_4, .ref q8, .ref q9, .ref q10, .ref q11, .ref q12, .ref q7, .ref q5, .ref q6])), (q2, .inl (cA 0, 9, .inl w24)), (q3, .inl (cA 0, 9, .inl f3)), (q4, .inl (cA 0, 5, .inl w25)), (q5, .inl (cA 0, 6, .inl f5)), (q6, .inl (cA 0, 6, .inl f6)), (q7, .inl (cA 0, 6, .inl f7))]) (wr := []) ⟨hx, hb, hml, hown, hts⟩ hE (kX4_place_2 l D cA q0 q1 q2 q3 q4 q5 q6 q7 q8 q9 q10 q11 q12 s0_1 s0_3 s1_0 s1_1 s1_2 s1_3 s1_4 w24 f3 w25 f5 f6 f7 v39 (rg_le s1_0l (by decide)) (rg_ge s1_0u (by decide)) (rg_le s1_1l (by decide)) (rg_ge s1_1u (by decide)) (rg_le s1_2l (by decide)) (rg_ge s1_2u (by decide)) (rg_le h17 (by decide)) (rg_ge s1_3u (by decide)) (rg_le s1_4l (by decide)) (rg_ge s1_4u (by decide)) (rg_Smono f3_0 (by decide) (by decide) (by decide) (by decide)) (rg_Smono h26 (by decide) (by decide) (by decide) (by decide)) (rg_Smono f6_0 (by decide) (by decide) (by decide) (by decide)) (rg_Smono f7_0 (by decide) (by decide) (by decide) (by decide)) (rg_le lv39 (by decide)) (rg_ge uv39 (by decide))) (cwV 4 hts gX4_place_X4_place rfl rfl rfl (by decide +kernel) ⟨Nat.le_of_ble_eq_true rfl, Nat.le_of_ble_eq_true rfl⟩) hP hD hS hA [0, 3, 5, 1, 2, 4, 6, 7] [] rfl rfl rfl rfl (by decide) 0 4 rfl rfl rfl hl.1 rfl (Nat.le_of_ble_eq_true rfl) dX4_place_106 ⟨Nat.le_of_ble_eq_true rfl, Nat.le_of_ble_eq_true rfl⟩ (fun r41 u40 H locs hp hP hD hS => ?_)
              rcases hp with ⟨hr, u40f1_0, u40fr1, ⟨u40a0l, u40a0h⟩, exu40, -⟩ | ⟨hr, u40f1_0, u40fr1, exu40, -⟩
              · subst hr
                have hP : va_P D vwCl [(q0, .inr (4, [.ref q4, .int s0_1, .ref q2, .int s0_3])), (q1, .inr (2, [.int s1_0, .int s1_1, .int s1_2, .int s1_3, .int s1_4, .ref q8, .ref q9, .ref q10, .ref q11, .ref q12, .ref q7, .ref q5, .ref q6])), (q2, .inl (cA 0, 9, .inl (u40.2.1 0))), (q3, .inl (cA 0, 9, .inl f3)), (q4, .inl (cA 0, 5, .inl (u40.2.1 1))), (q5, .inl (cA 0, 6, .inl f5)), (q6, .inl (cA 0, 6, .inl f6)), (q7, .inl (cA 0, 6, .inl f7))] H := hP
                have hD : va_D A [(q0, .inr (4, [.ref q4, .int s0_1, .ref q2, .int s0_3])), (q1, .inr (2, [.int s1_0, .int s1_1, .int s1_2, .int s1_3, .int s1_4, .ref q8, .ref q9, .ref q10, .ref q11, .ref q12, .ref q7, .ref q5, .ref q6])), (q2, .inl (cA 0, 9, .inl (u40.2.1 0))), (q3, .inl (cA 0, 9, .inl f3)), (q4, .inl (cA 0, 5, .inl (u40.2.1 1))), (q5, .inl (cA 0, 6, .inl f5)), (q6, .inl (cA 0, 6, .inl f6)), (q7, .inl (cA 0, 6, .inl f7))] := hD
                refine lv_if_eq (tgt := 114) hx hb dX4_place_109 (by decide) (fun _ => ?_) (fun c => absurd (by decide) c)
                refine lv_aload_n hx hb dX4_place_114 rfl (lv_at hl 2 rfl) ?_
                refine va_get (D := D) (ci := 4) (v := .ref q2) (C := RX4) (T := TX4) (N := 4) hx hb hts hnX4 hown hE.1 hP 0 rfl rfl 2 (by decide) (hts (.fieldLink RX4 15 "MovedStones$Nights" "stones" "[I") (List.mem_cons_of_mem _ (List.mem_append_left _ (List.mem_append_left _ (List.mem_append_left _ (List.mem_of_getElem? (i := 1) rfl)))))) (fun _ h9 => h9) rfl dX4_place_115 ?_
                refine lv_iload hx hb dX4_place_118 (lv_at hl 1 rfl) ?_
                refine lv_iload hx hb dX4_place_120 (lv_at hl 0 rfl) ?_
                refine rg_iast hx hb hE hP hD hS (q0 := 2) rfl l5 h16 (by decide) dX4_place_122 (fun w42 H locs ew42 hP hD hS => ?_)
                have h43 : rg_F w42 (u40.2.1 0) 0 8 := (rg_Fst ew42 l5 h16 (by decide))
                have hP : va_P D vwCl [(q0, .inr (4, [.ref q4, .int s0_1, .ref q2, .int s0_3])), (q1, .inr (2, [.int s1_0, .int s1_1, .int s1_2, .int s1_3, .int s1_4, .ref q8, .ref q9, .ref q10, .ref q11, .ref q12, .ref q7, .ref q5, .ref q6])), (q2, .inl (cA 0, 9, .inl w42)), (q3, .inl (cA 0, 9, .inl f3)), (q4, .inl (cA 0, 5, .inl (u40.2.1 1))), (q5, .inl (cA 0, 6, .inl f5)), (q6, .inl (cA 0, 6, .inl f6)), (q7, .inl (cA 0, 6, .inl f7))] H := hP
                have hD : va_D A [(q0, .inr (4, [.ref q4, .int s0_1, .ref q2, .int s0_3])), (q1, .inr (2, [.int s1_0, .int s1_1, .int s1_2, .int s1_3, .int s1_4, .ref q8, .ref q9, .ref q10, .ref q11, .ref q12, .ref q7, .ref q5, .ref q6])), (q2, .inl (cA 0, 9, .inl w42)), (q3, .inl (cA 0, 9, .inl f3)), (q4, .inl (cA 0, 5, .inl (u40.2.1 1))), (q5, .inl (cA 0, 6, .inl f5)), (q6, .inl (cA 0, 6, .inl f6)), (q7, .inl (cA 0, 6, .inl f7))] := hD
                refine rg_iinc (lo := 1) (hi := 9) (fun z => [(5, .int z), (6, .int v22), (0, .ref q0), (1, .ref q1), (2, .ref q3), (3, .int a0), (4, .int 3)]) hx hb dX4_place_123 hl (k := 1) rfl (by decide) l5 h16 (by decide) (fun _ => rfl) (fun v44 ev44 lv44 uv44 ls hl => ?_)
                have hl : lv_has ls 7 [(5, .int v44), (6, .int v22), (0, .ref q0), (1, .ref q1), (2, .ref q3), (3, .int a0), (4, .int 3)] := hl
                refine lv_goto (tgt := 23) hx hb dX4_place_126 (by decide) ?_
                exact ih13 v44 w42 (u40.2.1 1) _ _ _ (rg_le lv44 (by decide)) (rg_ge uv44 (by decide)) (rg_Smono u40f1_0 (by decide) (by decide) (by decide) (by decide)) (rg_Fmono (rg_Ftr (lo := 3) (hi := 4) u40fr1 h27 (by decide)) (by decide))  (rg_ms hm14 ev44 (by decide)) hP hD hS (lv_sub hl [0, 2, 3, 4, 5, 6] rfl)
              · subst hr
                have hP : va_P D vwCl [(q0, .inr (4, [.ref q4, .int s0_1, .ref q2, .int s0_3])), (q1, .inr (2, [.int s1_0, .int s1_1, .int s1_2, .int s1_3, .int s1_4, .ref q8, .ref q9, .ref q10, .ref q11, .ref q12, .ref q7, .ref q5, .ref q6])), (q2, .inl (cA 0, 9, .inl (u40.2.1 0))), (q3, .inl (cA 0, 9, .inl f3)), (q4, .inl (cA 0, 5, .inl (u40.2.1 1))), (q5, .inl (cA 0, 6, .inl f5)), (q6, .inl (cA 0, 6, .inl f6)), (q7, .inl (cA 0, 6, .inl f7))] H := hP
                have hD : va_D A [(q0, .inr (4, [.ref q4, .int s0_1, .ref q2, .int s0_3])), (q1, .inr (2, [.int s1_0, .int s1_1, .int s1_2, .int s1_3, .int s1_4, .ref q8, .ref q9, .ref q10, .ref q11, .ref q12, .ref q7, .ref q5, .ref q6])), (q2, .inl (cA 0, 9, .inl (u40.2.1 0))), (q3, .inl (cA 0, 9, .inl f3)), (q4, .inl (cA 0, 5, .inl (u40.2.1 1))), (q5, .inl (cA 0, 6, .inl f5)), (q6, .inl (cA 0, 6, .inl f6)), (q7, .inl (cA 0, 6, .inl f7))] := hD
                have h45 : ms_pc v39 + 1 = ms_pc a0 := ms_pcL (rg_le h3 (by decide)) (rg_ge a0u (by decide)) l5 h16 ev18 ev19 c20 ev37 ev38 ev39
                refine lv_if_eq (tgt := 114) hx hb dX4_place_109 (by decide) (fun c => absurd c (by decide)) (fun _ => ?_)
                refine lv_iconst (v := 1) hx hb dX4_place_112 (by decide) ?_
                exact ms_zret hx hb hr rfl hlk (fun i => [].getD i 0, fun i => [(u40.2.1 0), (u40.2.1 1)].getD i ms_z, fun i => [].getD i 0) (Or.inr ⟨rfl, rg_Smono u40f1_0 (by decide) (by decide) (by decide) (by decide), rg_Fmono (rg_Ftr (lo := 3) (hi := 4) u40fr1 h27 (by decide)) (by decide), (ms_pcle h45 exu40 (by decide)), trivial⟩) hP hD hS (Nat.le_of_ble_eq_true rfl) (Nat.le_of_ble_eq_true rfl) dX4_place_113
          · have h46 : v19.toInt ≤ 0 := rg_eq_hi c20 (by decide : (0 : Int32).toInt ≤ 0)
            refine lv_goto (tgt := 123) hx hb dX4_place_41 (by decide) ?_
            refine rg_iinc (lo := 1) (hi := 9) (fun z => [(5, .int z), (0, .ref q0), (1, .ref q1), (2, .ref q3), (3, .int a0), (4, .int 3)]) hx hb dX4_place_123 hl (k := 0) rfl (by decide) l5 h16 (by decide) (fun _ => rfl) (fun v47 ev47 lv47 uv47 ls hl => ?_)
            have hl : lv_has ls 7 [(5, .int v47), (0, .ref q0), (1, .ref q1), (2, .ref q3), (3, .int a0), (4, .int 3)] := hl
            refine lv_goto (tgt := 23) hx hb dX4_place_126 (by decide) ?_
            exact ih13 v47 w7 w8 _ _ _ (rg_le lv47 (by decide)) (rg_ge uv47 (by decide)) (rg_Smono g9 (by decide) (by decide) (by decide) (by decide)) (rg_Fmono fr10 (by decide))  (rg_ms hm14 ev47 (by decide)) hP hD hS (lv_sub hl [0, 1, 2, 3, 4, 5] rfl)
    exact lp11 10 0 f2 f4 _ _ _ (rg_le (by decide : (0 : Int) ≤ (0 : Int32).toInt) (by decide)) (rg_ge (by decide : (0 : Int32).toInt ≤ 0) (by decide)) (rg_Smono f4_0 (by decide) (by decide) (by decide) (by decide)) (rg_Frefl _ _ _)  (rg_mi (by decide : (0 : Int) ≤ (0 : Int32).toInt) (by decide)) hP hD hS (lv_sub hl [0, 1, 2, 3, 4, 5] rfl)
set_option maxHeartbeats 4000000 in
set_option maxRecDepth 100000 in
theorem kX4_place_4 (l : Launch) (D : va_G) (cA : Nat → ClassId) (q0 q1 q2 q3 q4 q5 q6 q7 q8 q9 q10 q11 q12 : Nat) (s0_1 : Int32) (s0_3 : Int32) (s1_0 : Int32) (s1_1 : Int32) (s1_2 : Int32) (s1_3 : Int32) (s1_4 : Int32) (f2 : Nat → Int32) (f3 : Nat → Int32) (f4 : Nat → Int32) (f5 : Nat → Int32) (f6 : Nat → Int32) (f7 : Nat → Int32) (a0 : Int32) (s1_0l : 0 ≤ s1_0.toInt) (s1_0u : s1_0.toInt ≤ 6) (s1_1l : 0 ≤ s1_1.toInt) (s1_1u : s1_1.toInt ≤ 4) (s1_2l : 0 ≤ s1_2.toInt) (s1_2u : s1_2.toInt ≤ 9) (s1_3l : 0 ≤ s1_3.toInt) (s1_3u : s1_3.toInt ≤ 9) (s1_4l : 0 ≤ s1_4.toInt) (s1_4u : s1_4.toInt ≤ 6) (f3_0 : rg_S f3 0 9 0 999) (f4_0 : rg_S f4 0 5 0 8) (f6_0 : rg_S f6 0 6 0 999) (f7_0 : rg_S f7 0 6 0 2) (a0l : 0 ≤ a0.toInt) (a0u : a0.toInt ≤ 511) : ms_Mi l yX4_place wsX4_place ({ frames := 6, cells := 0, slots := 0, locals := 160 } : Room) D cA [.ref q0, .ref q1, .ref q3, .int a0, .int 2] [(q0, .inr (4, [.ref q4, .int s0_1, .ref q2, .int s0_3])), (q1, .inr (2, [.int s1_0, .int s1_1, .int s1_2, .int s1_3, .int s1_4, .ref q8, .ref q9, .ref q10, .ref q11, .ref q12, .ref q7, .ref q5, .ref q6])), (q2, .inl (cA 0, 9, .inl f2)), (q3, .inl (cA 0, 9, .inl f3)), (q4, .inl (cA 0, 5, .inl f4)), (q5, .inl (cA 0, 6, .inl f5)), (q6, .inl (cA 0, 6, .inl f6)), (q7, .inl (cA 0, 6, .inl f7))] (fun (r : Int32) (u : ((Nat → Int32) × (Nat → Nat → Int32) × (Nat → Int64))) => (r = 0 ∧ rg_S (u.2.1 1) 0 5 0 8 ∧ rg_F (u.2.1 1) f4 2 4 ∧ (1 ≤ a0.toInt ∧ a0.toInt ≤ 511) ∧ True ∧ True) ∨ (r = 1 ∧ rg_S (u.2.1 1) 0 5 0 8 ∧ rg_F (u.2.1 1) f4 2 4 ∧ ms_pc a0 ≤ 3 ∧ True)) (fun (u : ((Nat → Int32) × (Nat → Nat → Int32) × (Nat → Int64))) => [(q0, .inr (4, [.ref q4, .int s0_1, .ref q2, .int s0_3])), (q1, .inr (2, [.int s1_0, .int s1_1, .int s1_2, .int s1_3, .int s1_4, .ref q8, .ref q9, .ref q10, .ref q11, .ref q12, .ref q7, .ref q5, .ref q6])), (q2, .inl (cA 0, 9, .inl (u.2.1 0))), (q3, .inl (cA 0, 9, .inl f3)), (q4, .inl (cA 0, 5, .inl (u.2.1 1))), (q5, .inl (cA 0, 6, .inl f5)), (q6, .inl (cA 0, 6, .inl f6)), (q7, .inl (cA 0, 6, .inl f7))]) := by
  refine ms_Mi_of (cc := cX4_place) (maxL := 7) (ret := (some .boolean)) (by decide) rfl (Nat.le_of_ble_eq_true rfl) ?_
  intro p e s m args below meth c A ls hB hE hA hP hD hS hl
  obtain ⟨hx, hb, hr, hml, hown, hts, hlk, hnm⟩ := hB
  have hown : s.vm.findClass RX4 = some m.cls := hown
  have hnX2 : ∀ w ∈ u_ws RX2 TX2 13, w ∈ wsX4_place := fun _ h => List.mem_cons_of_mem _ (List.mem_append_left _ (List.mem_append_right _ (h)))
  have hnX4 : ∀ w ∈ u_ws RX4 TX4 4, w ∈ wsX4_place := fun _ h => List.mem_cons_of_mem _ (List.mem_append_right _ (h))
  have hl : lv_has ls 7 [(0, .ref q0), (1, .ref q1), (2, .ref q3), (3, .int a0), (4, .int 2)] := hl
  refine lv_iload_n hx hb dX4_place_0 rfl (lv_at hl 3 rfl) ?_
  refine lv_if_eq (tgt := 10) hx hb dX4_place_1 (by decide) (fun c1 => ?_) (fun c1 => ?_)
  · have h2 : a0.toInt ≤ 0 := rg_eq_hi c1 (by decide : (0 : Int32).toInt ≤ 0)
    refine lv_iload_n hx hb dX4_place_10 rfl (lv_at hl 3 rfl) ?_
    refine lv_if_ne (tgt := 18) hx hb dX4_place_11 (by decide) (fun c => absurd (rg_yes_eq h2 a0l (by decide : (0 : Int32).toInt ≤ 0) (by decide : (0 : Int) ≤ (0 : Int32).toInt)) c) (fun _ => ?_)
    refine lv_iconst (v := 1) hx hb dX4_place_14 (by decide) ?_
    refine lv_goto (tgt := 19) hx hb dX4_place_15 (by decide) ?_
    exact ms_zret hx hb hr rfl hlk (fun i => [].getD i 0, fun i => [f2, f4].getD i ms_z, fun i => [].getD i 0) (Or.inr ⟨rfl, rg_Smono f4_0 (by decide) (by decide) (by decide) (by decide), rg_Frefl _ _ _, (by rw [c1]; decide), trivial⟩) hP hD hS (Nat.le_of_ble_eq_true rfl) (Nat.le_of_ble_eq_true rfl) dX4_place_19
  · have h3 : 1 ≤ a0.toInt := rg_ne_lo c1 a0l (by decide : (0 : Int) ≤ (0 : Int32).toInt) (by decide : (0 : Int32).toInt ≤ 0) (by decide)
    refine lv_iload hx hb dX4_place_4 (lv_at hl 4 rfl) ?_
    refine lv_iconst (v := 5) hx hb dX4_place_6 (by decide) ?_
    refine lv_icmp_lt (tgt := 20) hx hb dX4_place_7 (by decide) (fun _ => ?_) (fun c => absurd (by decide) c)
    refine lv_iconst (v := 0) hx hb dX4_place_20 (by decide) ?_
    refine lv_istore (lv' := [(5, .int 0), (0, .ref q0), (1, .ref q1), (2, .ref q3), (3, .int a0), (4, .int 2)]) hx hb dX4_place_21 hl (by decide) rfl (fun ls hl => ?_)
    have lp11 : ∀ (n12 : Nat) (x4 : Int32) (w7 : Nat → Int32) (w8 : Nat → Int32) (H : Heap) (locs : List Loc) (ls : Array Slot), 0 ≤ x4.toInt → x4.toInt ≤ 9 → rg_S w8 0 5 0 8 → rg_F w8 f4 2 4 → 9 + 1 ≤ x4.toInt + (n12 : Int) → va_P D vwCl [(q0, .inr (4, [.ref q4, .int s0_1, .ref q2, .int s0_3])), (q1, .inr (2, [.int s1_0, .int s1_1, .int s1_2, .int s1_3, .int s1_4, .ref q8, .ref q9, .ref q10, .ref q11, .ref q12, .ref q7, .ref q5, .ref q6])), (q2, .inl (cA 0, 9, .inl w7)), (q3, .inl (cA 0, 9, .inl f3)), (q4, .inl (cA 0, 5, .inl w8)), (q5, .inl (cA 0, 6, .inl f5)), (q6, .inl (cA 0, 6, .inl f6)), (q7, .inl (cA 0, 6, .inl f7))] H → va_D A [(q0, .inr (4, [.ref q4, .int s0_1, .ref q2, .int s0_3])), (q1, .inr (2, [.int s1_0, .int s1_1, .int s1_2, .int s1_3, .int s1_4, .ref q8, .ref q9, .ref q10, .ref q11, .ref q12, .ref q7, .ref q5, .ref q6])), (q2, .inl (cA 0, 9, .inl w7)), (q3, .inl (cA 0, 9, .inl f3)), (q4, .inl (cA 0, 5, .inl w8)), (q5, .inl (cA 0, 6, .inl f5)), (q6, .inl (cA 0, 6, .inl f6)), (q7, .inl (cA 0, 6, .inl f7))] → va_S A s.heap H locs → lv_has ls 7 [(5, .int x4), (0, .ref q0), (1, .ref q1), (2, .ref q3), (3, .int a0), (4, .int 2)] → W p l e ({ frames := 6, cells := 0, slots := 0, locals := 160 } : Room) s m args below meth c H locs 0 0 (MQ below (ms_Qi D A (fun (r : Int32) (u : ((Nat → Int32) × (Nat → Nat → Int32) × (Nat → Int64))) => (r = 0 ∧ rg_S (u.2.1 1) 0 5 0 8 ∧ rg_F (u.2.1 1) f4 2 4 ∧ (1 ≤ a0.toInt ∧ a0.toInt ≤ 511) ∧ True ∧ True) ∨ (r = 1 ∧ rg_S (u.2.1 1) 0 5 0 8 ∧ rg_F (u.2.1 1) f4 2 4 ∧ ms_pc a0 ≤ 3 ∧ True)) (fun (u : ((Nat → Int32) × (Nat → Nat → Int32) × (Nat → Int64))) => [(q0, .inr (4, [.ref q4, .int s0_1, .ref q2, .int s0_3])), (q1, .inr (2, [.int s1_0, .int s1_1, .int s1_2, .int s1_3, .int s1_4, .ref q8, .ref q9, .ref q10, .ref q11, .ref q12, .ref q7, .ref q5, .ref q6])), (q2, .inl (cA 0, 9, .inl (u.2.1 0))), (q3, .inl (cA 0, 9, .inl f3)), (q4, .inl (cA 0, 5, .inl (u.2.1 1))), (q5, .inl (cA 0, 6, .inl f5)), (q6, .inl (cA 0, 6, .inl f6)), (q7, .inl (cA 0, 6, .inl f7))])) args s 0 0 A) (F0 m 23 ls []) := by
      intro n12
      induction n12 with
      | zero => intro x4 w7 w8 H locs ls l5 u6 g9 fr10  hm14; exact (rg_m0 hm14 u6).elim
      | succ n12 ih13 =>
        intro x4 w7 w8 H locs ls l5 u6 g9 fr10  hm14 hP hD hS hl
        refine lv_iload hx hb dX4_place_23 (lv_at hl 0 rfl) ?_
        refine lv_aload_n hx hb dX4_place_25 rfl (lv_at hl 2 rfl) ?_
        refine va_get (D := D) (ci := 2) (v := .int s1_3) (C := RX2) (T := TX2) (N := 13) hx hb hts hnX2 hown hE.1 hP 1 rfl rfl 3 (by decide) (hts (.fieldLink RX4 34 "MovedStones$Land" "roads" "I") (List.mem_cons_of_mem _ (List.mem_append_left _ (List.mem_append_left _ (List.mem_append_left _ (List.mem_of_getElem? (i := 0) rfl)))))) (fun _ h9 => h9) rfl dX4_place_26 ?_
        refine lv_icmp_ge (tgt := 129) hx hb dX4_place_29 (by decide) (fun c15 => ?_) (fun c15 => ?_)
        · refine lv_iconst (v := 0) hx hb dX4_place_129 (by decide) ?_
          exact ms_zret hx hb hr rfl hlk (fun i => [].getD i 0, fun i => [w7, w8].getD i ms_z, fun i => [].getD i 0) (Or.inl ⟨rfl, rg_Smono g9 (by decide) (by decide) (by decide) (by decide), rg_Fmono fr10 (by decide), ⟨rg_le h3 (by decide), rg_ge a0u (by decide)⟩, trivial, trivial⟩) hP hD hS (Nat.le_of_ble_eq_true rfl) (Nat.le_of_ble_eq_true rfl) dX4_place_130
        · have h16 : x4.toInt ≤ 8 := rg_lt_hi (rg_nle c15) s1_3u (by decide)
          have h17 : 1 ≤ s1_3.toInt := rg_lt_lo (rg_nle c15) l5 (by decide)
          refine lv_iload_n hx hb dX4_place_32 rfl (lv_at hl 4 rfl) ?_
          refine lv_iload hx hb dX4_place_33 (lv_at hl 0 rfl) ?_
          refine lv_ishr hx hb dX4_place_35 ?_
          refine lv_topi (fun v18 ev18 => ?_)
          refine lv_iconst (v := 1) hx hb dX4_place_36 (by decide) ?_
          refine rg_iand1 hx hb dX4_place_37 (fun v19 ev19 lv19 uv19 => ?_)
          refine lv_if_ne (tgt := 44) hx hb dX4_place_38 (by decide) (fun c20 => ?_) (fun c20 => ?_)
          · have h21 : 1 ≤ v19.toInt := rg_ne_lo c20 lv19 (by decide : (0 : Int) ≤ (0 : Int32).toInt) (by decide : (0 : Int32).toInt ≤ 0) (by decide)
            refine lv_aload_n hx hb dX4_place_44 rfl (lv_at hl 1 rfl) ?_
            refine va_get (D := D) (ci := 4) (v := .ref q2) (C := RX4) (T := TX4) (N := 4) hx hb hts hnX4 hown hE.1 hP 0 rfl rfl 2 (by decide) (hts (.fieldLink RX4 15 "MovedStones$Nights" "stones" "[I") (List.mem_cons_of_mem _ (List.mem_append_left _ (List.mem_append_left _ (List.mem_append_left _ (List.mem_of_getElem? (i := 1) rfl)))))) (fun _ h9 => h9) rfl dX4_place_45 ?_
            refine lv_iload hx hb dX4_place_48 (lv_at hl 0 rfl) ?_
            refine rg_iald0 hx hb hE hP (q0 := 2) rfl l5 h16 (by decide) dX4_place_50 (fun v22 ev22 => ?_)
            refine lv_istore (lv' := [(6, .int v22), (5, .int x4), (0, .ref q0), (1, .ref q1), (2, .ref q3), (3, .int a0), (4, .int 2)]) hx hb dX4_place_51 hl (by decide) rfl (fun ls hl => ?_)
            refine lv_aload_n hx hb dX4_place_53 rfl (lv_at hl 2 rfl) ?_
            refine va_get (D := D) (ci := 4) (v := .ref q2) (C := RX4) (T := TX4) (N := 4) hx hb hts hnX4 hown hE.1 hP 0 rfl rfl 2 (by decide) (hts (.fieldLink RX4 15 "MovedStones$Nights" "stones" "[I") (List.mem_cons_of_mem _ (List.mem_append_left _ (List.mem_append_left _ (List.mem_append_left _ (List.mem_of_getElem? (i := 1) rfl)))))) (fun _ h9 => h9) rfl dX4_place_54 ?_
            refine lv_iload hx hb dX4_place_57 (lv_at hl 1 rfl) ?_
            refine lv_aload_n hx hb dX4_place_59 rfl (lv_at hl 4 rfl) ?_
            refine lv_iload hx hb dX4_place_60 (lv_at hl 1 rfl) ?_
            refine rg_iald hx hb hE hP (q0 := 3) rfl l5 h16 f3_0 (by decide) dX4_place_62 (fun v23 ev23 lv23 uv23 => ?_)
            refine rg_iast hx hb hE hP hD hS (q0 := 2) rfl l5 h16 (by decide) dX4_place_63 (fun w24 H locs ew24 hP hD hS => ?_)
            have hP : va_P D vwCl [(q0, .inr (4, [.ref q4, .int s0_1, .ref q2, .int s0_3])), (q1, .inr (2, [.int s1_0, .int s1_1, .int s1_2, .int s1_3, .int s1_4, .ref q8, .ref q9, .ref q10, .ref q11, .ref q12, .ref q7, .ref q5, .ref q6])), (q2, .inl (cA 0, 9, .inl w24)), (q3, .inl (cA 0, 9, .inl f3)), (q4, .inl (cA 0, 5, .inl w8)), (q5, .inl (cA 0, 6, .inl f5)), (q6, .inl (cA 0, 6, .inl f6)), (q7, .inl (cA 0, 6, .inl f7))] H := hP
            have hD : va_D A [(q0, .inr (4, [.ref q4, .int s0_1, .ref q2, .int s0_3])), (q1, .inr (2, [.int s1_0, .int s1_1, .int s1_2, .int s1_3, .int s1_4, .ref q8, .ref q9, .ref q10, .ref q11, .ref q12, .ref q7, .ref q5, .ref q6])), (q2, .inl (cA 0, 9, .inl w24)), (q3, .inl (cA 0, 9, .inl f3)), (q4, .inl (cA 0, 5, .inl w8)), (q5, .inl (cA 0, 6, .inl f5)), (q6, .inl (cA 0, 6, .inl f6)), (q7, .inl (cA 0, 6, .inl f7))] := hD
            refine lv_aload_n hx hb dX4_place_64 rfl (lv_at hl 2 rfl) ?_
            refine va_get (D := D) (ci := 4) (v := .ref q4) (C := RX4) (T := TX4) (N := 4) hx hb hts hnX4 hown hE.1 hP 0 rfl rfl 0 (by decide) (hts (.fieldLink RX4 9 "MovedStones$Nights" "order" "[I") (List.mem_cons_of_mem _ (List.mem_append_left _ (List.mem_append_left _ (List.mem_append_left _ (List.mem_of_getElem? (i := 2) rfl)))))) (fun _ h9 => h9) rfl dX4_place_65 ?_
            refine lv_iload hx hb dX4_place_68 (lv_at hl 6 rfl) ?_
            refine lv_iload hx hb dX4_place_70 (lv_at hl 1 rfl) ?_
            refine rg_iast hx hb hE hP hD hS (q0 := 4) rfl (by decide : (2 : Int) ≤ (2 : Int32).toInt) (by decide : (2 : Int32).toInt ≤ 2) (by decide) dX4_place_72 (fun w25 H locs ew25 hP hD hS => ?_)
            have h26 : rg_S w25 0 5 0 8 := rg_Supd g9 ew25 (rg_le l5 (by decide)) (rg_ge h16 (by decide))
            have h27 : rg_F w25 f4 2 4 := rg_Ftr (rg_Fst ew25 (by decide : (2 : Int) ≤ (2 : Int32).toInt) (by decide : (2 : Int32).toInt ≤ 2) (by decide)) fr10 (by decide)
            have hP : va_P D vwCl [(q0, .inr (4, [.ref q4, .int s0_1, .ref q2, .int s0_3])), (q1, .inr (2, [.int s1_0, .int s1_1, .int s1_2, .int s1_3, .int s1_4, .ref q8, .ref q9, .ref q10, .ref q11, .ref q12, .ref q7, .ref q5, .ref q6])), (q2, .inl (cA 0, 9, .inl w24)), (q3, .inl (cA 0, 9, .inl f3)), (q4, .inl (cA 0, 5, .inl w25)), (q5, .inl (cA 0, 6, .inl f5)), (q6, .inl (cA 0, 6, .inl f6)), (q7, .inl (cA 0, 6, .inl f7))] H := hP
            have hD : va_D A [(q0, .inr (4, [.ref q4, .int s0_1, .ref q2, .int s0_3])), (q1, .inr (2, [.int s1_0, .int s1_1, .int s1_2, .int s1_3, .int s1_4, .ref q8, .ref q9, .ref q10, .ref q11, .ref q12, .ref q7, .ref q5, .ref q6])), (q2, .inl (cA 0, 9, .inl w24)), (q3, .inl (cA 0, 9, .inl f3)), (q4, .inl (cA 0, 5, .inl w25)), (q5, .inl (cA 0, 6, .inl f5)), (q6, .inl (cA 0, 6, .inl f6)), (q7, .inl (cA 0, 6, .inl f7))] := hD
            refine lv_aload_n hx hb dX4_place_73 rfl (lv_at hl 2 rfl) ?_
            refine va_get (D := D) (ci := 4) (v := .int s0_3) (C := RX4) (T := TX4) (N := 4) hx hb hts hnX4 hown hE.1 hP 0 rfl rfl 3 (by decide) (hts (.fieldLink RX4 30 "MovedStones$Nights" "kept" "I") (List.mem_cons_of_mem _ (List.mem_append_left _ (List.mem_append_left _ (List.mem_append_left _ (List.mem_of_getElem? (i := 3) rfl)))))) (fun _ h9 => h9) rfl dX4_place_74 ?_
            refine lv_aload_n hx hb dX4_place_77 rfl (lv_at hl 3 rfl) ?_
            refine lv_aload_n hx hb dX4_place_78 rfl (lv_at hl 2 rfl) ?_
            refine va_get (D := D) (ci := 4) (v := .ref q2) (C := RX4) (T := TX4) (N := 4) hx hb hts hnX4 hown hE.1 hP 0 rfl rfl 2 (by decide) (hts (.fieldLink RX4 15 "MovedStones$Nights" "stones" "[I") (List.mem_cons_of_mem _ (List.mem_append_left _ (List.mem_append_left _ (List.mem_append_left _ (List.mem_of_getElem? (i := 1) rfl)))))) (fun _ h9 => h9) rfl dX4_place_79 ?_
            refine ms_cVi (qc := (RX2, TX2, 13)) (wc := [(q1, .inr (2, [.int s1_0, .int s1_1, .int s1_2, .int s1_3, .int s1_4, .ref q8, .ref q9, .ref q10, .ref q11, .ref q12, .ref q7, .ref q5, .ref q6])), (q5, .inl (cA 0, 6, .inl f5)), (q2, .inl (cA 0, 9, .inl w24)), (q6, .inl (cA 0, 6, .inl f6)), (q7, .inl (cA 0, 6, .inl f7))]) (wr := [(q0, .inr (4, [.ref q4, .int s0_1, .ref q2, .int s0_3])), (q3, .inl (cA 0, 9, .inl f3)), (q4, .inl (cA 0, 5, .inl w25))]) ⟨hx, hb, hml, hown, hts⟩ hE (kX2_holding_1 l D cA q1 q5 q2 q6 q7 q8 q9 q10 q11 q12 s1_0 s1_1 s1_2 s1_3 s1_4 f5 w24 f6 f7 (rg_le s1_0l (by decide)) (rg_ge s1_0u (by decide)) (rg_le s1_1l (by decide)) (rg_ge s1_1u (by decide)) (rg_le s1_2l (by decide)) (rg_ge s1_2u (by decide)) (rg_le h17 (by decide)) (rg_ge s1_3u (by decide)) (rg_le s1_4l (by decide)) (rg_ge s1_4u (by decide)) (rg_Smono f6_0 (by decide) (by decide) (by decide) (by decide)) (rg_Smono f7_0 (by decide) (by decide) (by decide) (by decide))) (cwV 1 hts gX4_place_X2_holding rfl rfl rfl (by decide +kernel) ⟨Nat.le_of_ble_eq_true rfl, Nat.le_of_ble_eq_true rfl⟩) hP hD hS hA [1, 5, 2, 6, 7] [0, 3, 4] rfl rfl rfl rfl (by decide) 0 2 rfl rfl rfl hl.1 rfl (Nat.le_of_ble_eq_true rfl) dX4_place_82 ⟨Nat.le_of_ble_eq_true rfl, Nat.le_of_ble_eq_true rfl⟩ (fun r29 u28 H locs hp hP hD hS => ?_)
            obtain ⟨⟨r29l, r29u⟩, -⟩ := hp
            have hP : va_P D vwCl [(q0, .inr (4, [.ref q4, .int s0_1, .ref q2, .int s0_3])), (q3, .inl (cA 0, 9, .inl f3)), (q4, .inl (cA 0, 5, .inl w25)), (q1, .inr (2, [.int s1_0, .int s1_1, .int s1_2, .int s1_3, .int s1_4, .ref q8, .ref q9, .ref q10, .ref q11, .ref q12, .ref q7, .ref q5, .ref q6])), (q5, .inl (cA 0, 6, .inl f5)), (q2, .inl (cA 0, 9, .inl w24)), (q6, .inl (cA 0, 6, .inl f6)), (q7, .inl (cA 0, 6, .inl f7))] H := hP
            have hD : va_D A [(q0, .inr (4, [.ref q4, .int s0_1, .ref q2, .int s0_3])), (q3, .inl (cA 0, 9, .inl f3)), (q4, .inl (cA 0, 5, .inl w25)), (q1, .inr (2, [.int s1_0, .int s1_1, .int s1_2, .int s1_3, .int s1_4, .ref q8, .ref q9, .ref q10, .ref q11, .ref q12, .ref q7, .ref q5, .ref q6])), (q5, .inl (cA 0, 6, .inl f5)), (q2, .inl (cA 0, 9, .inl w24)), (q6, .inl (cA 0, 6, .inl f6)), (q7, .inl (cA 0, 6, .inl f7))] := hD
            refine lv_iconst (v := (-1)) hx hb dX4_place_85 (by decide) ?_
            refine lv_ixor hx hb dX4_place_86 ?_
            refine lv_topi (fun v30 ev30 => ?_)
            refine lv_iand hx hb dX4_place_87 ?_
            refine lv_topi (fun v31 ev31 => ?_)
            refine lv_if_ne (tgt := 114) hx hb dX4_place_88 (by decide) (fun c32 => ?_) (fun c32 => ?_)
            · refine lv_aload_n hx hb dX4_place_114 rfl (lv_at hl 2 rfl) ?_
              refine va_get (D := D) (ci := 4) (v := .ref q2) (C := RX4) (T := TX4) (N := 4) hx hb hts hnX4 hown hE.1 hP 0 rfl rfl 2 (by decide) (hts (.fieldLink RX4 15 "MovedStones$Nights" "stones" "[I") (List.mem_cons_of_mem _ (List.mem_append_left _ (List.mem_append_left _ (List.mem_append_left _ (List.mem_of_getElem? (i := 1) rfl)))))) (fun _ h9 => h9) rfl dX4_place_115 ?_
              refine lv_iload hx hb dX4_place_118 (lv_at hl 1 rfl) ?_
              refine lv_iload hx hb dX4_place_120 (lv_at hl 0 rfl) ?_
              refine rg_iast hx hb hE hP hD hS (q0 := 5) rfl l5 h16 (by decide) dX4_place_122 (fun w33 H locs ew33 hP hD hS => ?_)
              have hP : va_P D vwCl [(q0, .inr (4, [.ref q4, .int s0_1, .ref q2, .int s0_3])), (q3, .inl (cA 0, 9, .inl f3)), (q4, .inl (cA 0, 5, .inl w25)), (q1, .inr (2, [.int s1_0, .int s1_1, .int s1_2, .int s1_3, .int s1_4, .ref q8, .ref q9, .ref q10, .ref q11, .ref q12, .ref q7, .ref q5, .ref q6])), (q5, .inl (cA 0, 6, .inl f5)), (q2, .inl (cA 0, 9, .inl w33)), (q6, .inl (cA 0, 6, .inl f6)), (q7, .inl (cA 0, 6, .inl f7))] H := hP
              have hD : va_D A [(q0, .inr (4, [.ref q4, .int s0_1, .ref q2, .int s0_3])), (q3, .inl (cA 0, 9, .inl f3)), (q4, .inl (cA 0, 5, .inl w25)), (q1, .inr (2, [.int s1_0, .int s1_1, .int s1_2, .int s1_3, .int s1_4, .ref q8, .ref q9, .ref q10, .ref q11, .ref q12, .ref q7, .ref q5, .ref q6])), (q5, .inl (cA 0, 6, .inl f5)), (q2, .inl (cA 0, 9, .inl w33)), (q6, .inl (cA 0, 6, .inl f6)), (q7, .inl (cA 0, 6, .inl f7))] := hD
              refine rg_iinc (lo := 1) (hi := 9) (fun z => [(5, .int z), (6, .int v22), (0, .ref q0), (1, .ref q1), (2, .ref q3), (3, .int a0), (4, .int 2)]) hx hb dX4_place_123 hl (k := 1) rfl (by decide) l5 h16 (by decide) (fun _ => rfl) (fun v34 ev34 lv34 uv34 ls hl => ?_)
              have hl : lv_has ls 7 [(5, .int v34), (6, .int v22), (0, .ref q0), (1, .ref q1), (2, .ref q3), (3, .int a0), (4, .int 2)] := hl
              refine lv_goto (tgt := 23) hx hb dX4_place_126 (by decide) ?_
              exact ih13 v34 w33 w25 _ _ _ (rg_le lv34 (by decide)) (rg_ge uv34 (by decide)) (rg_Smono h26 (by decide) (by decide) (by decide) (by decide)) (rg_Fmono h27 (by decide))  (rg_ms hm14 ev34 (by decide)) (hP.sub [0, 3, 5, 1, 2, 4, 6, 7] rfl) (hD.sub [0, 3, 5, 1, 2, 4, 6, 7] (by decide) rfl) hS (lv_sub hl [0, 2, 3, 4, 5, 6] rfl)
            · have h35 : 0 ≤ v31.toInt := rg_eq_lo c32 (by decide : (0 : Int) ≤ (0 : Int32).toInt)
              have h36 : v31.toInt ≤ 0 := rg_eq_hi c32 (by decide : (0 : Int32).toInt ≤ 0)
              refine lv_aload_n hx hb dX4_place_91 rfl (lv_at hl 2 rfl) ?_
              refine lv_aload_n hx hb dX4_place_92 rfl (lv_at hl 3 rfl) ?_
              refine lv_aload_n hx hb dX4_place_93 rfl (lv_at hl 4 rfl) ?_
              refine lv_iload_n hx hb dX4_place_94 rfl (lv_at hl 5 rfl) ?_
              refine lv_iconst (v := 1) hx hb dX4_place_95 (by decide) ?_
              refine lv_iload hx hb dX4_place_96 (lv_at hl 1 rfl) ?_
              refine rg_shl1 (lo := 1) (hi := 256) hx hb dX4_place_98 l5 h16 (by decide) (fun v37 ev37 lv37 uv37 => ?_)
              refine lv_iconst (v := (-1)) hx hb dX4_place_99 (by decide) ?_
              refine lv_ixor hx hb dX4_place_100 ?_
              refine lv_topi (fun v38 ev38 => ?_)
              refine rg_iand (hi := 511) hx hb dX4_place_101 h3 a0u (by decide) (fun v39 ev39 lv39 uv39 => ?_)
              refine lv_iload hx hb dX4_place_102 (lv_at hl 6 rfl) ?_
              refine lv_iconst (v := 1) hx hb dX4_place_104 (by decide) ?_
              refine lv_iadd hx hb dX4_place_105 ?_
              refine ms_eqi (y := 3) (by decide) ?_
              refine ms_cVi (qc := (RX4, TX4, 4)) (wc := [(q0, .inr (4, [.ref q4, .int s0_1, .ref q2, .int s0_3])), (q1, .inr (2, [.int s1_0, .int s1_1, .int s1_2, .int s1_3, .int s1_4, .ref q8, .ref q9, .ref q10, .ref q11, .ref q12, .ref q7, .ref q5, .ref q6])), (q2, .inl (cA 0, 9, .inl w24)), (q3, .inl (cA 0, 9, .inl f3)), (q4, .inl (cA 0, 5, .inl w25)), (q5, .inl (cA 0, 6, .inl f5)), (q6, .inl (cA 0, 6, .inl f6)), (q7, .inl (cA 0, 6, .inl f7))]) (wr := []) ⟨hx, hb, hml, hown, hts⟩ hE (kX4_place_3 l D cA q0 q1 q2 q3 q4 q5 q6 q7 q8 q9 q10 q11 q12 s0_1 s0_3 s1_0 s1_1 s1_2 s1_3 s1_4 w24 f3 w25 f5 f6 f7 v39 (rg_le s1_0l (by decide)) (rg_ge s1_0u (by decide)) (rg_le s1_1l (by decide)) (rg_ge s1_1u (by decide)) (rg_le s1_2l (by decide)) (rg_ge s1_2u (by decide)) (rg_le h17 (by decide)) (rg_ge s1_3u (by decide)) (rg_le s1_4l (by decide)) (rg_ge s1_4u (by decide)) (rg_Smono f3_0 (by decide) (by decide) (by decide) (by decide)) (rg_Smono h26 (by decide) (by decide) (by decide) (by decide)) (rg_Smono f6_0 (by decide) (by decide) (by decide) (by decide)) (rg_Smono f7_0 (by decide) (by decide) (by decide) (by decide)) (rg_le lv39 (by decide)) (rg_ge uv39 (by decide))) (cwV 4 hts gX4_place_X4_place rfl rfl rfl (by decide +kernel) ⟨Nat.le_of_ble_eq_true rfl, Nat.le_of_ble_eq_true rfl⟩) hP hD hS hA [0, 3, 5, 1, 2, 4, 6, 7] [] rfl rfl rfl rfl (by decide) 0 4 rfl rfl rfl hl.1 rfl (Nat.le_of_ble_eq_true rfl) dX4_place_106 ⟨Nat.le_of_ble_eq_true rfl, Nat.le_of_ble_eq_true rfl⟩ (fun r41 u40 H locs hp hP hD hS => ?_)
              rcases hp with ⟨hr, u40f1_0, u40fr1, ⟨u40a0l, u40a0h⟩, exu40, -⟩ | ⟨hr, u40f1_0, u40fr1, exu40, -⟩
              · subst hr
                have hP : va_P D vwCl [(q0, .inr (4, [.ref q4, .int s0_1, .ref q2, .int s0_3])), (q1, .inr (2, [.int s1_0, .int s1_1, .int s1_2, .int s1_3, .int s1_4, .ref q8, .ref q9, .ref q10, .ref q11, .ref q12, .ref q7, .ref q5, .ref q6])), (q2, .inl (cA 0, 9, .inl (u40.2.1 0))), (q3, .inl (cA 0, 9, .inl f3)), (q4, .inl (cA 0, 5, .inl (u40.2.1 1))), (q5, .inl (cA 0, 6, .inl f5)), (q6, .inl (cA 0, 6, .inl f6)), (q7, .inl (cA 0, 6, .inl f7))] H := hP
                have hD : va_D A [(q0, .inr (4, [.ref q4, .int s0_1, .ref q2, .int s0_3])), (q1, .inr (2, [.int s1_0, .int s1_1, .int s1_2, .int s1_3, .int s1_4, .ref q8, .ref q9, .ref q10, .ref q11, .ref q12, .ref q7, .ref q5, .ref q6])), (q2, .inl (cA 0, 9, .inl (u40.2.1 0))), (q3, .inl (cA 0, 9, .inl f3)), (q4, .inl (cA 0, 5, .inl (u40.2.1 1))), (q5, .inl (cA 0, 6, .inl f5)), (q6, .inl (cA 0, 6, .inl f6)), (q7, .inl (cA 0, 6, .inl f7))] := hD
                refine lv_if_eq (tgt := 114) hx hb dX4_place_109 (by decide) (fun _ => ?_) (fun c => absurd (by decide) c)
                refine lv_aload_n hx hb dX4_place_114 rfl (lv_at hl 2 rfl) ?_
                refine va_get (D := D) (ci := 4) (v := .ref q2) (C := RX4) (T := TX4) (N := 4) hx hb hts hnX4 hown hE.1 hP 0 rfl rfl 2 (by decide) (hts (.fieldLink RX4 15 "MovedStones$Nights" "stones" "[I") (List.mem_cons_of_mem _ (List.mem_append_left _ (List.mem_append_left _ (List.mem_append_left _ (List.mem_of_getElem? (i := 1) rfl)))))) (fun _ h9 => h9) rfl dX4_place_115 ?_
                refine lv_iload hx hb dX4_place_118 (lv_at hl 1 rfl) ?_
                refine lv_iload hx hb dX4_place_120 (lv_at hl 0 rfl) ?_
                refine rg_iast hx hb hE hP hD hS (q0 := 2) rfl l5 h16 (by decide) dX4_place_122 (fun w42 H locs ew42 hP hD hS => ?_)
                have h43 : rg_F w42 (u40.2.1 0) 0 8 := (rg_Fst ew42 l5 h16 (by decide))
                have hP : va_P D vwCl [(q0, .inr (4, [.ref q4, .int s0_1, .ref q2, .int s0_3])), (q1, .inr (2, [.int s1_0, .int s1_1, .int s1_2, .int s1_3, .int s1_4, .ref q8, .ref q9, .ref q10, .ref q11, .ref q12, .ref q7, .ref q5, .ref q6])), (q2, .inl (cA 0, 9, .inl w42)), (q3, .inl (cA 0, 9, .inl f3)), (q4, .inl (cA 0, 5, .inl (u40.2.1 1))), (q5, .inl (cA 0, 6, .inl f5)), (q6, .inl (cA 0, 6, .inl f6)), (q7, .inl (cA 0, 6, .inl f7))] H := hP
                have hD : va_D A [(q0, .inr (4, [.ref q4, .int s0_1, .ref q2, .int s0_3])), (q1, .inr (2, [.int s1_0, .int s1_1, .int s1_2, .int s1_3, .int s1_4, .ref q8, .ref q9, .ref q10, .ref q11, .ref q12, .ref q7, .ref q5, .ref q6])), (q2, .inl (cA 0, 9, .inl w42)), (q3, .inl (cA 0, 9, .inl f3)), (q4, .inl (cA 0, 5, .inl (u40.2.1 1))), (q5, .inl (cA 0, 6, .inl f5)), (q6, .inl (cA 0, 6, .inl f6)), (q7, .inl (cA 0, 6, .inl f7))] := hD
                refine rg_iinc (lo := 1) (hi := 9) (fun z => [(5, .int z), (6, .int v22), (0, .ref q0), (1, .ref q1), (2, .ref q3), (3, .int a0), (4, .int 2)]) hx hb dX4_place_123 hl (k := 1) rfl (by decide) l5 h16 (by decide) (fun _ => rfl) (fun v44 ev44 lv44 uv44 ls hl => ?_)
                have hl : lv_has ls 7 [(5, .int v44), (6, .int v22), (0, .ref q0), (1, .ref q1), (2, .ref q3), (3, .int a0), (4, .int 2)] := hl
                refine lv_goto (tgt := 23) hx hb dX4_place_126 (by decide) ?_
                exact ih13 v44 w42 (u40.2.1 1) _ _ _ (rg_le lv44 (by decide)) (rg_ge uv44 (by decide)) (rg_Smono u40f1_0 (by decide) (by decide) (by decide) (by decide)) (rg_Fmono (rg_Ftr (lo := 2) (hi := 4) u40fr1 h27 (by decide)) (by decide))  (rg_ms hm14 ev44 (by decide)) hP hD hS (lv_sub hl [0, 2, 3, 4, 5, 6] rfl)
              · subst hr
                have hP : va_P D vwCl [(q0, .inr (4, [.ref q4, .int s0_1, .ref q2, .int s0_3])), (q1, .inr (2, [.int s1_0, .int s1_1, .int s1_2, .int s1_3, .int s1_4, .ref q8, .ref q9, .ref q10, .ref q11, .ref q12, .ref q7, .ref q5, .ref q6])), (q2, .inl (cA 0, 9, .inl (u40.2.1 0))), (q3, .inl (cA 0, 9, .inl f3)), (q4, .inl (cA 0, 5, .inl (u40.2.1 1))), (q5, .inl (cA 0, 6, .inl f5)), (q6, .inl (cA 0, 6, .inl f6)), (q7, .inl (cA 0, 6, .inl f7))] H := hP
                have hD : va_D A [(q0, .inr (4, [.ref q4, .int s0_1, .ref q2, .int s0_3])), (q1, .inr (2, [.int s1_0, .int s1_1, .int s1_2, .int s1_3, .int s1_4, .ref q8, .ref q9, .ref q10, .ref q11, .ref q12, .ref q7, .ref q5, .ref q6])), (q2, .inl (cA 0, 9, .inl (u40.2.1 0))), (q3, .inl (cA 0, 9, .inl f3)), (q4, .inl (cA 0, 5, .inl (u40.2.1 1))), (q5, .inl (cA 0, 6, .inl f5)), (q6, .inl (cA 0, 6, .inl f6)), (q7, .inl (cA 0, 6, .inl f7))] := hD
                have h45 : ms_pc v39 + 1 = ms_pc a0 := ms_pcL (rg_le h3 (by decide)) (rg_ge a0u (by decide)) l5 h16 ev18 ev19 c20 ev37 ev38 ev39
                refine lv_if_eq (tgt := 114) hx hb dX4_place_109 (by decide) (fun c => absurd c (by decide)) (fun _ => ?_)
                refine lv_iconst (v := 1) hx hb dX4_place_112 (by decide) ?_
                exact ms_zret hx hb hr rfl hlk (fun i => [].getD i 0, fun i => [(u40.2.1 0), (u40.2.1 1)].getD i ms_z, fun i => [].getD i 0) (Or.inr ⟨rfl, rg_Smono u40f1_0 (by decide) (by decide) (by decide) (by decide), rg_Fmono (rg_Ftr (lo := 2) (hi := 4) u40fr1 h27 (by decide)) (by decide), (ms_pcle h45 exu40 (by decide)), trivial⟩) hP hD hS (Nat.le_of_ble_eq_true rfl) (Nat.le_of_ble_eq_true rfl) dX4_place_113
          · have h46 : v19.toInt ≤ 0 := rg_eq_hi c20 (by decide : (0 : Int32).toInt ≤ 0)
            refine lv_goto (tgt := 123) hx hb dX4_place_41 (by decide) ?_
            refine rg_iinc (lo := 1) (hi := 9) (fun z => [(5, .int z), (0, .ref q0), (1, .ref q1), (2, .ref q3), (3, .int a0), (4, .int 2)]) hx hb dX4_place_123 hl (k := 0) rfl (by decide) l5 h16 (by decide) (fun _ => rfl) (fun v47 ev47 lv47 uv47 ls hl => ?_)
            have hl : lv_has ls 7 [(5, .int v47), (0, .ref q0), (1, .ref q1), (2, .ref q3), (3, .int a0), (4, .int 2)] := hl
            refine lv_goto (tgt := 23) hx hb dX4_place_126 (by decide) ?_
            exact ih13 v47 w7 w8 _ _ _ (rg_le lv47 (by decide)) (rg_ge uv47 (by decide)) (rg_Smono g9 (by decide) (by decide) (by decide) (by decide)) (rg_Fmono fr10 (by decide))  (rg_ms hm14 ev47 (by decide)) hP hD hS (lv_sub hl [0, 1, 2, 3, 4, 5] rfl)
    exact lp11 10 0 f2 f4 _ _ _ (rg_le (by decide : (0 : Int) ≤ (0 : Int32).toInt) (by decide)) (rg_ge (by decide : (0 : Int32).toInt ≤ 0) (by decide)) (rg_Smono f4_0 (by decide) (by decide) (by decide) (by decide)) (rg_Frefl _ _ _)  (rg_mi (by decide : (0 : Int) ≤ (0 : Int32).toInt) (by decide)) hP hD hS (lv_sub hl [0, 1, 2, 3, 4, 5] rfl)
set_option maxHeartbeats 4000000 in
set_option maxRecDepth 100000 in
theorem kX4_place_5 (l : Launch) (D : va_G) (cA : Nat → ClassId) (q0 q1 q2 q3 q4 q5 q6 q7 q8 q9 q10 q11 q12 : Nat) (s0_1 : Int32) (s0_3 : Int32) (s1_0 : Int32) (s1_1 : Int32) (s1_2 : Int32) (s1_3 : Int32) (s1_4 : Int32) (f2 : Nat → Int32) (f3 : Nat → Int32) (f4 : Nat → Int32) (f5 : Nat → Int32) (f6 : Nat → Int32) (f7 : Nat → Int32) (a0 : Int32) (s1_0l : 0 ≤ s1_0.toInt) (s1_0u : s1_0.toInt ≤ 6) (s1_1l : 0 ≤ s1_1.toInt) (s1_1u : s1_1.toInt ≤ 4) (s1_2l : 0 ≤ s1_2.toInt) (s1_2u : s1_2.toInt ≤ 9) (s1_3l : 0 ≤ s1_3.toInt) (s1_3u : s1_3.toInt ≤ 9) (s1_4l : 0 ≤ s1_4.toInt) (s1_4u : s1_4.toInt ≤ 6) (f3_0 : rg_S f3 0 9 0 999) (f4_0 : rg_S f4 0 5 0 8) (f6_0 : rg_S f6 0 6 0 999) (f7_0 : rg_S f7 0 6 0 2) (a0l : 0 ≤ a0.toInt) (a0u : a0.toInt ≤ 511) : ms_Mi l yX4_place wsX4_place ({ frames := 7, cells := 0, slots := 0, locals := 186 } : Room) D cA [.ref q0, .ref q1, .ref q3, .int a0, .int 1] [(q0, .inr (4, [.ref q4, .int s0_1, .ref q2, .int s0_3])), (q1, .inr (2, [.int s1_0, .int s1_1, .int s1_2, .int s1_3, .int s1_4, .ref q8, .ref q9, .ref q10, .ref q11, .ref q12, .ref q7, .ref q5, .ref q6])), (q2, .inl (cA 0, 9, .inl f2)), (q3, .inl (cA 0, 9, .inl f3)), (q4, .inl (cA 0, 5, .inl f4)), (q5, .inl (cA 0, 6, .inl f5)), (q6, .inl (cA 0, 6, .inl f6)), (q7, .inl (cA 0, 6, .inl f7))] (fun (r : Int32) (u : ((Nat → Int32) × (Nat → Nat → Int32) × (Nat → Int64))) => (r = 0 ∧ rg_S (u.2.1 1) 0 5 0 8 ∧ rg_F (u.2.1 1) f4 1 4 ∧ (1 ≤ a0.toInt ∧ a0.toInt ≤ 511) ∧ True ∧ True) ∨ (r = 1 ∧ rg_S (u.2.1 1) 0 5 0 8 ∧ rg_F (u.2.1 1) f4 1 4 ∧ ms_pc a0 ≤ 4 ∧ True)) (fun (u : ((Nat → Int32) × (Nat → Nat → Int32) × (Nat → Int64))) => [(q0, .inr (4, [.ref q4, .int s0_1, .ref q2, .int s0_3])), (q1, .inr (2, [.int s1_0, .int s1_1, .int s1_2, .int s1_3, .int s1_4, .ref q8, .ref q9, .ref q10, .ref q11, .ref q12, .ref q7, .ref q5, .ref q6])), (q2, .inl (cA 0, 9, .inl (u.2.1 0))), (q3, .inl (cA 0, 9, .inl f3)), (q4, .inl (cA 0, 5, .inl (u.2.1 1))), (q5, .inl (cA 0, 6, .inl f5)), (q6, .inl (cA 0, 6, .inl f6)), (q7, .inl (cA 0, 6, .inl f7))]) := by
  refine ms_Mi_of (cc := cX4_place) (maxL := 7) (ret := (some .boolean)) (by decide) rfl (Nat.le_of_ble_eq_true rfl) ?_
  intro p e s m args below meth c A ls hB hE hA hP hD hS hl
  obtain ⟨hx, hb, hr, hml, hown, hts, hlk, hnm⟩ := hB
  have hown : s.vm.findClass RX4 = some m.cls := hown
  have hnX2 : ∀ w ∈ u_ws RX2 TX2 13, w ∈ wsX4_place := fun _ h => List.mem_cons_of_mem _ (List.mem_append_left _ (List.mem_append_right _ (h)))
  have hnX4 : ∀ w ∈ u_ws RX4 TX4 4, w ∈ wsX4_place := fun _ h => List.mem_cons_of_mem _ (List.mem_append_right _ (h))
  have hl : lv_has ls 7 [(0, .ref q0), (1, .ref q1), (2, .ref q3), (3, .int a0), (4, .int 1)] := hl
  refine lv_iload_n hx hb dX4_place_0 rfl (lv_at hl 3 rfl) ?_
  refine lv_if_eq (tgt := 10) hx hb dX4_place_1 (by decide) (fun c1 => ?_) (fun c1 => ?_)
  · have h2 : a0.toInt ≤ 0 := rg_eq_hi c1 (by decide : (0 : Int32).toInt ≤ 0)
    refine lv_iload_n hx hb dX4_place_10 rfl (lv_at hl 3 rfl) ?_
    refine lv_if_ne (tgt := 18) hx hb dX4_place_11 (by decide) (fun c => absurd (rg_yes_eq h2 a0l (by decide : (0 : Int32).toInt ≤ 0) (by decide : (0 : Int) ≤ (0 : Int32).toInt)) c) (fun _ => ?_)
    refine lv_iconst (v := 1) hx hb dX4_place_14 (by decide) ?_
    refine lv_goto (tgt := 19) hx hb dX4_place_15 (by decide) ?_
    exact ms_zret hx hb hr rfl hlk (fun i => [].getD i 0, fun i => [f2, f4].getD i ms_z, fun i => [].getD i 0) (Or.inr ⟨rfl, rg_Smono f4_0 (by decide) (by decide) (by decide) (by decide), rg_Frefl _ _ _, (by rw [c1]; decide), trivial⟩) hP hD hS (Nat.le_of_ble_eq_true rfl) (Nat.le_of_ble_eq_true rfl) dX4_place_19
  · have h3 : 1 ≤ a0.toInt := rg_ne_lo c1 a0l (by decide : (0 : Int) ≤ (0 : Int32).toInt) (by decide : (0 : Int32).toInt ≤ 0) (by decide)
    refine lv_iload hx hb dX4_place_4 (lv_at hl 4 rfl) ?_
    refine lv_iconst (v := 5) hx hb dX4_place_6 (by decide) ?_
    refine lv_icmp_lt (tgt := 20) hx hb dX4_place_7 (by decide) (fun _ => ?_) (fun c => absurd (by decide) c)
    refine lv_iconst (v := 0) hx hb dX4_place_20 (by decide) ?_
    refine lv_istore (lv' := [(5, .int 0), (0, .ref q0), (1, .ref q1), (2, .ref q3), (3, .int a0), (4, .int 1)]) hx hb dX4_place_21 hl (by decide) rfl (fun ls hl => ?_)
    have lp11 : ∀ (n12 : Nat) (x4 : Int32) (w7 : Nat → Int32) (w8 : Nat → Int32) (H : Heap) (locs : List Loc) (ls : Array Slot), 0 ≤ x4.toInt → x4.toInt ≤ 9 → rg_S w8 0 5 0 8 → rg_F w8 f4 1 4 → 9 + 1 ≤ x4.toInt + (n12 : Int) → va_P D vwCl [(q0, .inr (4, [.ref q4, .int s0_1, .ref q2, .int s0_3])), (q1, .inr (2, [.int s1_0, .int s1_1, .int s1_2, .int s1_3, .int s1_4, .ref q8, .ref q9, .ref q10, .ref q11, .ref q12, .ref q7, .ref q5, .ref q6])), (q2, .inl (cA 0, 9, .inl w7)), (q3, .inl (cA 0, 9, .inl f3)), (q4, .inl (cA 0, 5, .inl w8)), (q5, .inl (cA 0, 6, .inl f5)), (q6, .inl (cA 0, 6, .inl f6)), (q7, .inl (cA 0, 6, .inl f7))] H → va_D A [(q0, .inr (4, [.ref q4, .int s0_1, .ref q2, .int s0_3])), (q1, .inr (2, [.int s1_0, .int s1_1, .int s1_2, .int s1_3, .int s1_4, .ref q8, .ref q9, .ref q10, .ref q11, .ref q12, .ref q7, .ref q5, .ref q6])), (q2, .inl (cA 0, 9, .inl w7)), (q3, .inl (cA 0, 9, .inl f3)), (q4, .inl (cA 0, 5, .inl w8)), (q5, .inl (cA 0, 6, .inl f5)), (q6, .inl (cA 0, 6, .inl f6)), (q7, .inl (cA 0, 6, .inl f7))] → va_S A s.heap H locs → lv_has ls 7 [(5, .int x4), (0, .ref q0), (1, .ref q1), (2, .ref q3), (3, .int a0), (4, .int 1)] → W p l e ({ frames := 7, cells := 0, slots := 0, locals := 186 } : Room) s m args below meth c H locs 0 0 (MQ below (ms_Qi D A (fun (r : Int32) (u : ((Nat → Int32) × (Nat → Nat → Int32) × (Nat → Int64))) => (r = 0 ∧ rg_S (u.2.1 1) 0 5 0 8 ∧ rg_F (u.2.1 1) f4 1 4 ∧ (1 ≤ a0.toInt ∧ a0.toInt ≤ 511) ∧ True ∧ True) ∨ (r = 1 ∧ rg_S (u.2.1 1) 0 5 0 8 ∧ rg_F (u.2.1 1) f4 1 4 ∧ ms_pc a0 ≤ 4 ∧ True)) (fun (u : ((Nat → Int32) × (Nat → Nat → Int32) × (Nat → Int64))) => [(q0, .inr (4, [.ref q4, .int s0_1, .ref q2, .int s0_3])), (q1, .inr (2, [.int s1_0, .int s1_1, .int s1_2, .int s1_3, .int s1_4, .ref q8, .ref q9, .ref q10, .ref q11, .ref q12, .ref q7, .ref q5, .ref q6])), (q2, .inl (cA 0, 9, .inl (u.2.1 0))), (q3, .inl (cA 0, 9, .inl f3)), (q4, .inl (cA 0, 5, .inl (u.2.1 1))), (q5, .inl (cA 0, 6, .inl f5)), (q6, .inl (cA 0, 6, .inl f6)), (q7, .inl (cA 0, 6, .inl f7))])) args s 0 0 A) (F0 m 23 ls []) := by
      intro n12
      induction n12 with
      | zero => intro x4 w7 w8 H locs ls l5 u6 g9 fr10  hm14; exact (rg_m0 hm14 u6).elim
      | succ n12 ih13 =>
        intro x4 w7 w8 H locs ls l5 u6 g9 fr10  hm14 hP hD hS hl
        refine lv_iload hx hb dX4_place_23 (lv_at hl 0 rfl) ?_
        refine lv_aload_n hx hb dX4_place_25 rfl (lv_at hl 2 rfl) ?_
        refine va_get (D := D) (ci := 2) (v := .int s1_3) (C := RX2) (T := TX2) (N := 13) hx hb hts hnX2 hown hE.1 hP 1 rfl rfl 3 (by decide) (hts (.fieldLink RX4 34 "MovedStones$Land" "roads" "I") (List.mem_cons_of_mem _ (List.mem_append_left _ (List.mem_append_left _ (List.mem_append_left _ (List.mem_of_getElem? (i := 0) rfl)))))) (fun _ h9 => h9) rfl dX4_place_26 ?_
        refine lv_icmp_ge (tgt := 129) hx hb dX4_place_29 (by decide) (fun c15 => ?_) (fun c15 => ?_)
        · refine lv_iconst (v := 0) hx hb dX4_place_129 (by decide) ?_
          exact ms_zret hx hb hr rfl hlk (fun i => [].getD i 0, fun i => [w7, w8].getD i ms_z, fun i => [].getD i 0) (Or.inl ⟨rfl, rg_Smono g9 (by decide) (by decide) (by decide) (by decide), rg_Fmono fr10 (by decide), ⟨rg_le h3 (by decide), rg_ge a0u (by decide)⟩, trivial, trivial⟩) hP hD hS (Nat.le_of_ble_eq_true rfl) (Nat.le_of_ble_eq_true rfl) dX4_place_130
        · have h16 : x4.toInt ≤ 8 := rg_lt_hi (rg_nle c15) s1_3u (by decide)
          have h17 : 1 ≤ s1_3.toInt := rg_lt_lo (rg_nle c15) l5 (by decide)
          refine lv_iload_n hx hb dX4_place_32 rfl (lv_at hl 4 rfl) ?_
          refine lv_iload hx hb dX4_place_33 (lv_at hl 0 rfl) ?_
          refine lv_ishr hx hb dX4_place_35 ?_
          refine lv_topi (fun v18 ev18 => ?_)
          refine lv_iconst (v := 1) hx hb dX4_place_36 (by decide) ?_
          refine rg_iand1 hx hb dX4_place_37 (fun v19 ev19 lv19 uv19 => ?_)
          refine lv_if_ne (tgt := 44) hx hb dX4_place_38 (by decide) (fun c20 => ?_) (fun c20 => ?_)
          · have h21 : 1 ≤ v19.toInt := rg_ne_lo c20 lv19 (by decide : (0 : Int) ≤ (0 : Int32).toInt) (by decide : (0 : Int32).toInt ≤ 0) (by decide)
            refine lv_aload_n hx hb dX4_place_44 rfl (lv_at hl 1 rfl) ?_
            refine va_get (D := D) (ci := 4) (v := .ref q2) (C := RX4) (T := TX4) (N := 4) hx hb hts hnX4 hown hE.1 hP 0 rfl rfl 2 (by decide) (hts (.fieldLink RX4 15 "MovedStones$Nights" "stones" "[I") (List.mem_cons_of_mem _ (List.mem_append_left _ (List.mem_append_left _ (List.mem_append_left _ (List.mem_of_getElem? (i := 1) rfl)))))) (fun _ h9 => h9) rfl dX4_place_45 ?_
            refine lv_iload hx hb dX4_place_48 (lv_at hl 0 rfl) ?_
            refine rg_iald0 hx hb hE hP (q0 := 2) rfl l5 h16 (by decide) dX4_place_50 (fun v22 ev22 => ?_)
            refine lv_istore (lv' := [(6, .int v22), (5, .int x4), (0, .ref q0), (1, .ref q1), (2, .ref q3), (3, .int a0), (4, .int 1)]) hx hb dX4_place_51 hl (by decide) rfl (fun ls hl => ?_)
            refine lv_aload_n hx hb dX4_place_53 rfl (lv_at hl 2 rfl) ?_
            refine va_get (D := D) (ci := 4) (v := .ref q2) (C := RX4) (T := TX4) (N := 4) hx hb hts hnX4 hown hE.1 hP 0 rfl rfl 2 (by decide) (hts (.fieldLink RX4 15 "MovedStones$Nights" "stones" "[I") (List.mem_cons_of_mem _ (List.mem_append_left _ (List.mem_append_left _ (List.mem_append_left _ (List.mem_of_getElem? (i := 1) rfl)))))) (fun _ h9 => h9) rfl dX4_place_54 ?_
            refine lv_iload hx hb dX4_place_57 (lv_at hl 1 rfl) ?_
            refine lv_aload_n hx hb dX4_place_59 rfl (lv_at hl 4 rfl) ?_
            refine lv_iload hx hb dX4_place_60 (lv_at hl 1 rfl) ?_
            refine rg_iald hx hb hE hP (q0 := 3) rfl l5 h16 f3_0 (by decide) dX4_place_62 (fun v23 ev23 lv23 uv23 => ?_)
            refine rg_iast hx hb hE hP hD hS (q0 := 2) rfl l5 h16 (by decide) dX4_place_63 (fun w24 H locs ew24 hP hD hS => ?_)
            have hP : va_P D vwCl [(q0, .inr (4, [.ref q4, .int s0_1, .ref q2, .int s0_3])), (q1, .inr (2, [.int s1_0, .int s1_1, .int s1_2, .int s1_3, .int s1_4, .ref q8, .ref q9, .ref q10, .ref q11, .ref q12, .ref q7, .ref q5, .ref q6])), (q2, .inl (cA 0, 9, .inl w24)), (q3, .inl (cA 0, 9, .inl f3)), (q4, .inl (cA 0, 5, .inl w8)), (q5, .inl (cA 0, 6, .inl f5)), (q6, .inl (cA 0, 6, .inl f6)), (q7, .inl (cA 0, 6, .inl f7))] H := hP
            have hD : va_D A [(q0, .inr (4, [.ref q4, .int s0_1, .ref q2, .int s0_3])), (q1, .inr (2, [.int s1_0, .int s1_1, .int s1_2, .int s1_3, .int s1_4, .ref q8, .ref q9, .ref q10, .ref q11, .ref q12, .ref q7, .ref q5, .ref q6])), (q2, .inl (cA 0, 9, .inl w24)), (q3, .inl (cA 0, 9, .inl f3)), (q4, .inl (cA 0, 5, .inl w8)), (q5, .inl (cA 0, 6, .inl f5)), (q6, .inl (cA 0, 6, .inl f6)), (q7, .inl (cA 0, 6, .inl f7))] := hD
            refine lv_aload_n hx hb dX4_place_64 rfl (lv_at hl 2 rfl) ?_
            refine va_get (D := D) (ci := 4) (v := .ref q4) (C := RX4) (T := TX4) (N := 4) hx hb hts hnX4 hown hE.1 hP 0 rfl rfl 0 (by decide) (hts (.fieldLink RX4 9 "MovedStones$Nights" "order" "[I") (List.mem_cons_of_mem _ (List.mem_append_left _ (List.mem_append_left _ (List.mem_append_left _ (List.mem_of_getElem? (i := 2) rfl)))))) (fun _ h9 => h9) rfl dX4_place_65 ?_
            refine lv_iload hx hb dX4_place_68 (lv_at hl 6 rfl) ?_
            refine lv_iload hx hb dX4_place_70 (lv_at hl 1 rfl) ?_
            refine rg_iast hx hb hE hP hD hS (q0 := 4) rfl (by decide : (1 : Int) ≤ (1 : Int32).toInt) (by decide : (1 : Int32).toInt ≤ 1) (by decide) dX4_place_72 (fun w25 H locs ew25 hP hD hS => ?_)
            have h26 : rg_S w25 0 5 0 8 := rg_Supd g9 ew25 (rg_le l5 (by decide)) (rg_ge h16 (by decide))
            have h27 : rg_F w25 f4 1 4 := rg_Ftr (rg_Fst ew25 (by decide : (1 : Int) ≤ (1 : Int32).toInt) (by decide : (1 : Int32).toInt ≤ 1) (by decide)) fr10 (by decide)
            have hP : va_P D vwCl [(q0, .inr (4, [.ref q4, .int s0_1, .ref q2, .int s0_3])), (q1, .inr (2, [.int s1_0, .int s1_1, .int s1_2, .int s1_3, .int s1_4, .ref q8, .ref q9, .ref q10, .ref q11, .ref q12, .ref q7, .ref q5, .ref q6])), (q2, .inl (cA 0, 9, .inl w24)), (q3, .inl (cA 0, 9, .inl f3)), (q4, .inl (cA 0, 5, .inl w25)), (q5, .inl (cA 0, 6, .inl f5)), (q6, .inl (cA 0, 6, .inl f6)), (q7, .inl (cA 0, 6, .inl f7))] H := hP
            have hD : va_D A [(q0, .inr (4, [.ref q4, .int s0_1, .ref q2, .int s0_3])), (q1, .inr (2, [.int s1_0, .int s1_1, .int s1_2, .int s1_3, .int s1_4, .ref q8, .ref q9, .ref q10, .ref q11, .ref q12, .ref q7, .ref q5, .ref q6])), (q2, .inl (cA 0, 9, .inl w24)), (q3, .inl (cA 0, 9, .inl f3)), (q4, .inl (cA 0, 5, .inl w25)), (q5, .inl (cA 0, 6, .inl f5)), (q6, .inl (cA 0, 6, .inl f6)), (q7, .inl (cA 0, 6, .inl f7))] := hD
            refine lv_aload_n hx hb dX4_place_73 rfl (lv_at hl 2 rfl) ?_
            refine va_get (D := D) (ci := 4) (v := .int s0_3) (C := RX4) (T := TX4) (N := 4) hx hb hts hnX4 hown hE.1 hP 0 rfl rfl 3 (by decide) (hts (.fieldLink RX4 30 "MovedStones$Nights" "kept" "I") (List.mem_cons_of_mem _ (List.mem_append_left _ (List.mem_append_left _ (List.mem_append_left _ (List.mem_of_getElem? (i := 3) rfl)))))) (fun _ h9 => h9) rfl dX4_place_74 ?_
            refine lv_aload_n hx hb dX4_place_77 rfl (lv_at hl 3 rfl) ?_
            refine lv_aload_n hx hb dX4_place_78 rfl (lv_at hl 2 rfl) ?_
            refine va_get (D := D) (ci := 4) (v := .ref q2) (C := RX4) (T := TX4) (N := 4) hx hb hts hnX4 hown hE.1 hP 0 rfl rfl 2 (by decide) (hts (.fieldLink RX4 15 "MovedStones$Nights" "stones" "[I") (List.mem_cons_of_mem _ (List.mem_append_left _ (List.mem_append_left _ (List.mem_append_left _ (List.mem_of_getElem? (i := 1) rfl)))))) (fun _ h9 => h9) rfl dX4_place_79 ?_
            refine ms_cVi (qc := (RX2, TX2, 13)) (wc := [(q1, .inr (2, [.int s1_0, .int s1_1, .int s1_2, .int s1_3, .int s1_4, .ref q8, .ref q9, .ref q10, .ref q11, .ref q12, .ref q7, .ref q5, .ref q6])), (q5, .inl (cA 0, 6, .inl f5)), (q2, .inl (cA 0, 9, .inl w24)), (q6, .inl (cA 0, 6, .inl f6)), (q7, .inl (cA 0, 6, .inl f7))]) (wr := [(q0, .inr (4, [.ref q4, .int s0_1, .ref q2, .int s0_3])), (q3, .inl (cA 0, 9, .inl f3)), (q4, .inl (cA 0, 5, .inl w25))]) ⟨hx, hb, hml, hown, hts⟩ hE (kX2_holding_1 l D cA q1 q5 q2 q6 q7 q8 q9 q10 q11 q12 s1_0 s1_1 s1_2 s1_3 s1_4 f5 w24 f6 f7 (rg_le s1_0l (by decide)) (rg_ge s1_0u (by decide)) (rg_le s1_1l (by decide)) (rg_ge s1_1u (by decide)) (rg_le s1_2l (by decide)) (rg_ge s1_2u (by decide)) (rg_le h17 (by decide)) (rg_ge s1_3u (by decide)) (rg_le s1_4l (by decide)) (rg_ge s1_4u (by decide)) (rg_Smono f6_0 (by decide) (by decide) (by decide) (by decide)) (rg_Smono f7_0 (by decide) (by decide) (by decide) (by decide))) (cwV 1 hts gX4_place_X2_holding rfl rfl rfl (by decide +kernel) ⟨Nat.le_of_ble_eq_true rfl, Nat.le_of_ble_eq_true rfl⟩) hP hD hS hA [1, 5, 2, 6, 7] [0, 3, 4] rfl rfl rfl rfl (by decide) 0 2 rfl rfl rfl hl.1 rfl (Nat.le_of_ble_eq_true rfl) dX4_place_82 ⟨Nat.le_of_ble_eq_true rfl, Nat.le_of_ble_eq_true rfl⟩ (fun r29 u28 H locs hp hP hD hS => ?_)
            obtain ⟨⟨r29l, r29u⟩, -⟩ := hp
            have hP : va_P D vwCl [(q0, .inr (4, [.ref q4, .int s0_1, .ref q2, .int s0_3])), (q3, .inl (cA 0, 9, .inl f3)), (q4, .inl (cA 0, 5, .inl w25)), (q1, .inr (2, [.int s1_0, .int s1_1, .int s1_2, .int s1_3, .int s1_4, .ref q8, .ref q9, .ref q10, .ref q11, .ref q12, .ref q7, .ref q5, .ref q6])), (q5, .inl (cA 0, 6, .inl f5)), (q2, .inl (cA 0, 9, .inl w24)), (q6, .inl (cA 0, 6, .inl f6)), (q7, .inl (cA 0, 6, .inl f7))] H := hP
            have hD : va_D A [(q0, .inr (4, [.ref q4, .int s0_1, .ref q2, .int s0_3])), (q3, .inl (cA 0, 9, .inl f3)), (q4, .inl (cA 0, 5, .inl w25)), (q1, .inr (2, [.int s1_0, .int s1_1, .int s1_2, .int s1_3, .int s1_4, .ref q8, .ref q9, .ref q10, .ref q11, .ref q12, .ref q7, .ref q5, .ref q6])), (q5, .inl (cA 0, 6, .inl f5)), (q2, .inl (cA 0, 9, .inl w24)), (q6, .inl (cA 0, 6, .inl f6)), (q7, .inl (cA 0, 6, .inl f7))] := hD
            refine lv_iconst (v := (-1)) hx hb dX4_place_85 (by decide) ?_
            refine lv_ixor hx hb dX4_place_86 ?_
            refine lv_topi (fun v30 ev30 => ?_)
            refine lv_iand hx hb dX4_place_87 ?_
            refine lv_topi (fun v31 ev31 => ?_)
            refine lv_if_ne (tgt := 114) hx hb dX4_place_88 (by decide) (fun c32 => ?_) (fun c32 => ?_)
            · refine lv_aload_n hx hb dX4_place_114 rfl (lv_at hl 2 rfl) ?_
              refine va_get (D := D) (ci := 4) (v := .ref q2) (C := RX4) (T := TX4) (N := 4) hx hb hts hnX4 hown hE.1 hP 0 rfl rfl 2 (by decide) (hts (.fieldLink RX4 15 "MovedStones$Nights" "stones" "[I") (List.mem_cons_of_mem _ (List.mem_append_left _ (List.mem_append_left _ (List.mem_append_left _ (List.mem_of_getElem? (i := 1) rfl)))))) (fun _ h9 => h9) rfl dX4_place_115 ?_
              refine lv_iload hx hb dX4_place_118 (lv_at hl 1 rfl) ?_
              refine lv_iload hx hb dX4_place_120 (lv_at hl 0 rfl) ?_
              refine rg_iast hx hb hE hP hD hS (q0 := 5) rfl l5 h16 (by decide) dX4_place_122 (fun w33 H locs ew33 hP hD hS => ?_)
              have hP : va_P D vwCl [(q0, .inr (4, [.ref q4, .int s0_1, .ref q2, .int s0_3])), (q3, .inl (cA 0, 9, .inl f3)), (q4, .inl (cA 0, 5, .inl w25)), (q1, .inr (2, [.int s1_0, .int s1_1, .int s1_2, .int s1_3, .int s1_4, .ref q8, .ref q9, .ref q10, .ref q11, .ref q12, .ref q7, .ref q5, .ref q6])), (q5, .inl (cA 0, 6, .inl f5)), (q2, .inl (cA 0, 9, .inl w33)), (q6, .inl (cA 0, 6, .inl f6)), (q7, .inl (cA 0, 6, .inl f7))] H := hP
              have hD : va_D A [(q0, .inr (4, [.ref q4, .int s0_1, .ref q2, .int s0_3])), (q3, .inl (cA 0, 9, .inl f3)), (q4, .inl (cA 0, 5, .inl w25)), (q1, .inr (2, [.int s1_0, .int s1_1, .int s1_2, .int s1_3, .int s1_4, .ref q8, .ref q9, .ref q10, .ref q11, .ref q12, .ref q7, .ref q5, .ref q6])), (q5, .inl (cA 0, 6, .inl f5)), (q2, .inl (cA 0, 9, .inl w33)), (q6, .inl (cA 0, 6, .inl f6)), (q7, .inl (cA 0, 6, .inl f7))] := hD
              refine rg_iinc (lo := 1) (hi := 9) (fun z => [(5, .int z), (6, .int v22), (0, .ref q0), (1, .ref q1), (2, .ref q3), (3, .int a0), (4, .int 1)]) hx hb dX4_place_123 hl (k := 1) rfl (by decide) l5 h16 (by decide) (fun _ => rfl) (fun v34 ev34 lv34 uv34 ls hl => ?_)
              have hl : lv_has ls 7 [(5, .int v34), (6, .int v22), (0, .ref q0), (1, .ref q1), (2, .ref q3), (3, .int a0), (4, .int 1)] := hl
              refine lv_goto (tgt := 23) hx hb dX4_place_126 (by decide) ?_
              exact ih13 v34 w33 w25 _ _ _ (rg_le lv34 (by decide)) (rg_ge uv34 (by decide)) (rg_Smono h26 (by decide) (by decide) (by decide) (by decide)) (rg_Fmono h27 (by decide))  (rg_ms hm14 ev34 (by decide)) (hP.sub [0, 3, 5, 1, 2, 4, 6, 7] rfl) (hD.sub [0, 3, 5, 1, 2, 4, 6, 7] (by decide) rfl) hS (lv_sub hl [0, 2, 3, 4, 5, 6] rfl)
            · have h35 : 0 ≤ v31.toInt := rg_eq_lo c32 (by decide : (0 : Int) ≤ (0 : Int32).toInt)
              have h36 : v31.toInt ≤ 0 := rg_eq_hi c32 (by decide : (0 : Int32).toInt ≤ 0)
              refine lv_aload_n hx hb dX4_place_91 rfl (lv_at hl 2 rfl) ?_
              refine lv_aload_n hx hb dX4_place_92 rfl (lv_at hl 3 rfl) ?_
              refine lv_aload_n hx hb dX4_place_93 rfl (lv_at hl 4 rfl) ?_
              refine lv_iload_n hx hb dX4_place_94 rfl (lv_at hl 5 rfl) ?_
              refine lv_iconst (v := 1) hx hb dX4_place_95 (by decide) ?_
              refine lv_iload hx hb dX4_place_96 (lv_at hl 1 rfl) ?_
              refine rg_shl1 (lo := 1) (hi := 256) hx hb dX4_place_98 l5 h16 (by decide) (fun v37 ev37 lv37 uv37 => ?_)
              refine lv_iconst (v := (-1)) hx hb dX4_place_99 (by decide) ?_
              refine lv_ixor hx hb dX4_place_100 ?_
              refine lv_topi (fun v38 ev38 => ?_)
              refine rg_iand (hi := 511) hx hb dX4_place_101 h3 a0u (by decide) (fun v39 ev39 lv39 uv39 => ?_)
              refine lv_iload hx hb dX4_place_102 (lv_at hl 6 rfl) ?_
              refine lv_iconst (v := 1) hx hb dX4_place_104 (by decide) ?_
              refine lv_iadd hx hb dX4_place_105 ?_
              refine ms_eqi (y := 2) (by decide) ?_
              refine ms_cVi (qc := (RX4, TX4, 4)) (wc := [(q0, .inr (4, [.ref q4, .int s0_1, .ref q2, .int s0_3])), (q1, .inr (2, [.int s1_0, .int s1_1, .int s1_2, .int s1_3, .int s1_4, .ref q8, .ref q9, .ref q10, .ref q11, .ref q12, .ref q7, .ref q5, .ref q6])), (q2, .inl (cA 0, 9, .inl w24)), (q3, .inl (cA 0, 9, .inl f3)), (q4, .inl (cA 0, 5, .inl w25)), (q5, .inl (cA 0, 6, .inl f5)), (q6, .inl (cA 0, 6, .inl f6)), (q7, .inl (cA 0, 6, .inl f7))]) (wr := []) ⟨hx, hb, hml, hown, hts⟩ hE (kX4_place_4 l D cA q0 q1 q2 q3 q4 q5 q6 q7 q8 q9 q10 q11 q12 s0_1 s0_3 s1_0 s1_1 s1_2 s1_3 s1_4 w24 f3 w25 f5 f6 f7 v39 (rg_le s1_0l (by decide)) (rg_ge s1_0u (by decide)) (rg_le s1_1l (by decide)) (rg_ge s1_1u (by decide)) (rg_le s1_2l (by decide)) (rg_ge s1_2u (by decide)) (rg_le h17 (by decide)) (rg_ge s1_3u (by decide)) (rg_le s1_4l (by decide)) (rg_ge s1_4u (by decide)) (rg_Smono f3_0 (by decide) (by decide) (by decide) (by decide)) (rg_Smono h26 (by decide) (by decide) (by decide) (by decide)) (rg_Smono f6_0 (by decide) (by decide) (by decide) (by decide)) (rg_Smono f7_0 (by decide) (by decide) (by decide) (by decide)) (rg_le lv39 (by decide)) (rg_ge uv39 (by decide))) (cwV 4 hts gX4_place_X4_place rfl rfl rfl (by decide +kernel) ⟨Nat.le_of_ble_eq_true rfl, Nat.le_of_ble_eq_true rfl⟩) hP hD hS hA [0, 3, 5, 1, 2, 4, 6, 7] [] rfl rfl rfl rfl (by decide) 0 4 rfl rfl rfl hl.1 rfl (Nat.le_of_ble_eq_true rfl) dX4_place_106 ⟨Nat.le_of_ble_eq_true rfl, Nat.le_of_ble_eq_true rfl⟩ (fun r41 u40 H locs hp hP hD hS => ?_)
              rcases hp with ⟨hr, u40f1_0, u40fr1, ⟨u40a0l, u40a0h⟩, exu40, -⟩ | ⟨hr, u40f1_0, u40fr1, exu40, -⟩
              · subst hr
                have hP : va_P D vwCl [(q0, .inr (4, [.ref q4, .int s0_1, .ref q2, .int s0_3])), (q1, .inr (2, [.int s1_0, .int s1_1, .int s1_2, .int s1_3, .int s1_4, .ref q8, .ref q9, .ref q10, .ref q11, .ref q12, .ref q7, .ref q5, .ref q6])), (q2, .inl (cA 0, 9, .inl (u40.2.1 0))), (q3, .inl (cA 0, 9, .inl f3)), (q4, .inl (cA 0, 5, .inl (u40.2.1 1))), (q5, .inl (cA 0, 6, .inl f5)), (q6, .inl (cA 0, 6, .inl f6)), (q7, .inl (cA 0, 6, .inl f7))] H := hP
                have hD : va_D A [(q0, .inr (4, [.ref q4, .int s0_1, .ref q2, .int s0_3])), (q1, .inr (2, [.int s1_0, .int s1_1, .int s1_2, .int s1_3, .int s1_4, .ref q8, .ref q9, .ref q10, .ref q11, .ref q12, .ref q7, .ref q5, .ref q6])), (q2, .inl (cA 0, 9, .inl (u40.2.1 0))), (q3, .inl (cA 0, 9, .inl f3)), (q4, .inl (cA 0, 5, .inl (u40.2.1 1))), (q5, .inl (cA 0, 6, .inl f5)), (q6, .inl (cA 0, 6, .inl f6)), (q7, .inl (cA 0, 6, .inl f7))] := hD
                refine lv_if_eq (tgt := 114) hx hb dX4_place_109 (by decide) (fun _ => ?_) (fun c => absurd (by decide) c)
                refine lv_aload_n hx hb dX4_place_114 rfl (lv_at hl 2 rfl) ?_
                refine va_get (D := D) (ci := 4) (v := .ref q2) (C := RX4) (T := TX4) (N := 4) hx hb hts hnX4 hown hE.1 hP 0 rfl rfl 2 (by decide) (hts (.fieldLink RX4 15 "MovedStones$Nights" "stones" "[I") (List.mem_cons_of_mem _ (List.mem_append_left _ (List.mem_append_left _ (List.mem_append_left _ (List.mem_of_getElem? (i := 1) rfl)))))) (fun _ h9 => h9) rfl dX4_place_115 ?_
                refine lv_iload hx hb dX4_place_118 (lv_at hl 1 rfl) ?_
                refine lv_iload hx hb dX4_place_120 (lv_at hl 0 rfl) ?_
                refine rg_iast hx hb hE hP hD hS (q0 := 2) rfl l5 h16 (by decide) dX4_place_122 (fun w42 H locs ew42 hP hD hS => ?_)
                have h43 : rg_F w42 (u40.2.1 0) 0 8 := (rg_Fst ew42 l5 h16 (by decide))
                have hP : va_P D vwCl [(q0, .inr (4, [.ref q4, .int s0_1, .ref q2, .int s0_3])), (q1, .inr (2, [.int s1_0, .int s1_1, .int s1_2, .int s1_3, .int s1_4, .ref q8, .ref q9, .ref q10, .ref q11, .ref q12, .ref q7, .ref q5, .ref q6])), (q2, .inl (cA 0, 9, .inl w42)), (q3, .inl (cA 0, 9, .inl f3)), (q4, .inl (cA 0, 5, .inl (u40.2.1 1))), (q5, .inl (cA 0, 6, .inl f5)), (q6, .inl (cA 0, 6, .inl f6)), (q7, .inl (cA 0, 6, .inl f7))] H := hP
                have hD : va_D A [(q0, .inr (4, [.ref q4, .int s0_1, .ref q2, .int s0_3])), (q1, .inr (2, [.int s1_0, .int s1_1, .int s1_2, .int s1_3, .int s1_4, .ref q8, .ref q9, .ref q10, .ref q11, .ref q12, .ref q7, .ref q5, .ref q6])), (q2, .inl (cA 0, 9, .inl w42)), (q3, .inl (cA 0, 9, .inl f3)), (q4, .inl (cA 0, 5, .inl (u40.2.1 1))), (q5, .inl (cA 0, 6, .inl f5)), (q6, .inl (cA 0, 6, .inl f6)), (q7, .inl (cA 0, 6, .inl f7))] := hD
                refine rg_iinc (lo := 1) (hi := 9) (fun z => [(5, .int z), (6, .int v22), (0, .ref q0), (1, .ref q1), (2, .ref q3), (3, .int a0), (4, .int 1)]) hx hb dX4_place_123 hl (k := 1) rfl (by decide) l5 h16 (by decide) (fun _ => rfl) (fun v44 ev44 lv44 uv44 ls hl => ?_)
                have hl : lv_has ls 7 [(5, .int v44), (6, .int v22), (0, .ref q0), (1, .ref q1), (2, .ref q3), (3, .int a0), (4, .int 1)] := hl
                refine lv_goto (tgt := 23) hx hb dX4_place_126 (by decide) ?_
                exact ih13 v44 w42 (u40.2.1 1) _ _ _ (rg_le lv44 (by decide)) (rg_ge uv44 (by decide)) (rg_Smono u40f1_0 (by decide) (by decide) (by decide) (by decide)) (rg_Fmono (rg_Ftr (lo := 1) (hi := 4) u40fr1 h27 (by decide)) (by decide))  (rg_ms hm14 ev44 (by decide)) hP hD hS (lv_sub hl [0, 2, 3, 4, 5, 6] rfl)
              · subst hr
                have hP : va_P D vwCl [(q0, .inr (4, [.ref q4, .int s0_1, .ref q2, .int s0_3])), (q1, .inr (2, [.int s1_0, .int s1_1, .int s1_2, .int s1_3, .int s1_4, .ref q8, .ref q9, .ref q10, .ref q11, .ref q12, .ref q7, .ref q5, .ref q6])), (q2, .inl (cA 0, 9, .inl (u40.2.1 0))), (q3, .inl (cA 0, 9, .inl f3)), (q4, .inl (cA 0, 5, .inl (u40.2.1 1))), (q5, .inl (cA 0, 6, .inl f5)), (q6, .inl (cA 0, 6, .inl f6)), (q7, .inl (cA 0, 6, .inl f7))] H := hP
                have hD : va_D A [(q0, .inr (4, [.ref q4, .int s0_1, .ref q2, .int s0_3])), (q1, .inr (2, [.int s1_0, .int s1_1, .int s1_2, .int s1_3, .int s1_4, .ref q8, .ref q9, .ref q10, .ref q11, .ref q12, .ref q7, .ref q5, .ref q6])), (q2, .inl (cA 0, 9, .inl (u40.2.1 0))), (q3, .inl (cA 0, 9, .inl f3)), (q4, .inl (cA 0, 5, .inl (u40.2.1 1))), (q5, .inl (cA 0, 6, .inl f5)), (q6, .inl (cA 0, 6, .inl f6)), (q7, .inl (cA 0, 6, .inl f7))] := hD
                have h45 : ms_pc v39 + 1 = ms_pc a0 := ms_pcL (rg_le h3 (by decide)) (rg_ge a0u (by decide)) l5 h16 ev18 ev19 c20 ev37 ev38 ev39
                refine lv_if_eq (tgt := 114) hx hb dX4_place_109 (by decide) (fun c => absurd c (by decide)) (fun _ => ?_)
                refine lv_iconst (v := 1) hx hb dX4_place_112 (by decide) ?_
                exact ms_zret hx hb hr rfl hlk (fun i => [].getD i 0, fun i => [(u40.2.1 0), (u40.2.1 1)].getD i ms_z, fun i => [].getD i 0) (Or.inr ⟨rfl, rg_Smono u40f1_0 (by decide) (by decide) (by decide) (by decide), rg_Fmono (rg_Ftr (lo := 1) (hi := 4) u40fr1 h27 (by decide)) (by decide), (ms_pcle h45 exu40 (by decide)), trivial⟩) hP hD hS (Nat.le_of_ble_eq_true rfl) (Nat.le_of_ble_eq_true rfl) dX4_place_113
          · have h46 : v19.toInt ≤ 0 := rg_eq_hi c20 (by decide : (0 : Int32).toInt ≤ 0)
            refine lv_goto (tgt := 123) hx hb dX4_place_41 (by decide) ?_
            refine rg_iinc (lo := 1) (hi := 9) (fun z => [(5, .int z), (0, .ref q0), (1, .ref q1), (2, .ref q3), (3, .int a0), (4, .int 1)]) hx hb dX4_place_123 hl (k := 0) rfl (by decide) l5 h16 (by decide) (fun _ => rfl) (fun v47 ev47 lv47 uv47 ls hl => ?_)
            have hl : lv_has ls 7 [(5, .int v47), (0, .ref q0), (1, .ref q1), (2, .ref q3), (3, .int a0), (4, .int 1)] := hl
            refine lv_goto (tgt := 23) hx hb dX4_place_126 (by decide) ?_
            exact ih13 v47 w7 w8 _ _ _ (rg_le lv47 (by decide)) (rg_ge uv47 (by decide)) (rg_Smono g9 (by decide) (by decide) (by decide) (by decide)) (rg_Fmono fr10 (by decide))  (rg_ms hm14 ev47 (by decide)) hP hD hS (lv_sub hl [0, 1, 2, 3, 4, 5] rfl)
    exact lp11 10 0 f2 f4 _ _ _ (rg_le (by decide : (0 : Int) ≤ (0 : Int32).toInt) (by decide)) (rg_ge (by decide : (0 : Int32).toInt ≤ 0) (by decide)) (rg_Smono f4_0 (by decide) (by decide) (by decide) (by decide)) (rg_Frefl _ _ _)  (rg_mi (by decide : (0 : Int) ≤ (0 : Int32).toInt) (by decide)) hP hD hS (lv_sub hl [0, 1, 2, 3, 4, 5] rfl)
set_option maxHeartbeats 4000000 in
set_option maxRecDepth 100000 in
theorem kX4_place_6 (l : Launch) (D : va_G) (cA : Nat → ClassId) (q0 q1 q2 q3 q4 q5 q6 q7 q8 q9 q10 q11 q12 : Nat) (s0_1 : Int32) (s0_3 : Int32) (s1_0 : Int32) (s1_1 : Int32) (s1_2 : Int32) (s1_3 : Int32) (s1_4 : Int32) (f2 : Nat → Int32) (f3 : Nat → Int32) (f4 : Nat → Int32) (f5 : Nat → Int32) (f6 : Nat → Int32) (f7 : Nat → Int32) (a0 : Int32) (s1_0l : 0 ≤ s1_0.toInt) (s1_0u : s1_0.toInt ≤ 6) (s1_1l : 0 ≤ s1_1.toInt) (s1_1u : s1_1.toInt ≤ 4) (s1_2l : 0 ≤ s1_2.toInt) (s1_2u : s1_2.toInt ≤ 9) (s1_3l : 0 ≤ s1_3.toInt) (s1_3u : s1_3.toInt ≤ 9) (s1_4l : 0 ≤ s1_4.toInt) (s1_4u : s1_4.toInt ≤ 6) (f3_0 : rg_S f3 0 9 0 999) (f4_0 : rg_S f4 0 5 0 8) (f6_0 : rg_S f6 0 6 0 999) (f7_0 : rg_S f7 0 6 0 2) (a0l : 0 ≤ a0.toInt) (a0u : a0.toInt ≤ 511) : ms_Mi l yX4_place wsX4_place ({ frames := 8, cells := 0, slots := 0, locals := 212 } : Room) D cA [.ref q0, .ref q1, .ref q3, .int a0, .int 0] [(q0, .inr (4, [.ref q4, .int s0_1, .ref q2, .int s0_3])), (q1, .inr (2, [.int s1_0, .int s1_1, .int s1_2, .int s1_3, .int s1_4, .ref q8, .ref q9, .ref q10, .ref q11, .ref q12, .ref q7, .ref q5, .ref q6])), (q2, .inl (cA 0, 9, .inl f2)), (q3, .inl (cA 0, 9, .inl f3)), (q4, .inl (cA 0, 5, .inl f4)), (q5, .inl (cA 0, 6, .inl f5)), (q6, .inl (cA 0, 6, .inl f6)), (q7, .inl (cA 0, 6, .inl f7))] (fun (r : Int32) (u : ((Nat → Int32) × (Nat → Nat → Int32) × (Nat → Int64))) => (r = 0 ∧ rg_S (u.2.1 1) 0 5 0 8 ∧ (1 ≤ a0.toInt ∧ a0.toInt ≤ 511) ∧ True ∧ True) ∨ (r = 1 ∧ rg_S (u.2.1 1) 0 5 0 8 ∧ ms_pc a0 ≤ 5 ∧ True)) (fun (u : ((Nat → Int32) × (Nat → Nat → Int32) × (Nat → Int64))) => [(q0, .inr (4, [.ref q4, .int s0_1, .ref q2, .int s0_3])), (q1, .inr (2, [.int s1_0, .int s1_1, .int s1_2, .int s1_3, .int s1_4, .ref q8, .ref q9, .ref q10, .ref q11, .ref q12, .ref q7, .ref q5, .ref q6])), (q2, .inl (cA 0, 9, .inl (u.2.1 0))), (q3, .inl (cA 0, 9, .inl f3)), (q4, .inl (cA 0, 5, .inl (u.2.1 1))), (q5, .inl (cA 0, 6, .inl f5)), (q6, .inl (cA 0, 6, .inl f6)), (q7, .inl (cA 0, 6, .inl f7))]) := by
  refine ms_Mi_of (cc := cX4_place) (maxL := 7) (ret := (some .boolean)) (by decide) rfl (Nat.le_of_ble_eq_true rfl) ?_
  intro p e s m args below meth c A ls hB hE hA hP hD hS hl
  obtain ⟨hx, hb, hr, hml, hown, hts, hlk, hnm⟩ := hB
  have hown : s.vm.findClass RX4 = some m.cls := hown
  have hnX2 : ∀ w ∈ u_ws RX2 TX2 13, w ∈ wsX4_place := fun _ h => List.mem_cons_of_mem _ (List.mem_append_left _ (List.mem_append_right _ (h)))
  have hnX4 : ∀ w ∈ u_ws RX4 TX4 4, w ∈ wsX4_place := fun _ h => List.mem_cons_of_mem _ (List.mem_append_right _ (h))
  have hl : lv_has ls 7 [(0, .ref q0), (1, .ref q1), (2, .ref q3), (3, .int a0), (4, .int 0)] := hl
  refine lv_iload_n hx hb dX4_place_0 rfl (lv_at hl 3 rfl) ?_
  refine lv_if_eq (tgt := 10) hx hb dX4_place_1 (by decide) (fun c1 => ?_) (fun c1 => ?_)
  · have h2 : a0.toInt ≤ 0 := rg_eq_hi c1 (by decide : (0 : Int32).toInt ≤ 0)
    refine lv_iload_n hx hb dX4_place_10 rfl (lv_at hl 3 rfl) ?_
    refine lv_if_ne (tgt := 18) hx hb dX4_place_11 (by decide) (fun c => absurd (rg_yes_eq h2 a0l (by decide : (0 : Int32).toInt ≤ 0) (by decide : (0 : Int) ≤ (0 : Int32).toInt)) c) (fun _ => ?_)
    refine lv_iconst (v := 1) hx hb dX4_place_14 (by decide) ?_
    refine lv_goto (tgt := 19) hx hb dX4_place_15 (by decide) ?_
    exact ms_zret hx hb hr rfl hlk (fun i => [].getD i 0, fun i => [f2, f4].getD i ms_z, fun i => [].getD i 0) (Or.inr ⟨rfl, rg_Smono f4_0 (by decide) (by decide) (by decide) (by decide), (by rw [c1]; decide), trivial⟩) hP hD hS (Nat.le_of_ble_eq_true rfl) (Nat.le_of_ble_eq_true rfl) dX4_place_19
  · have h3 : 1 ≤ a0.toInt := rg_ne_lo c1 a0l (by decide : (0 : Int) ≤ (0 : Int32).toInt) (by decide : (0 : Int32).toInt ≤ 0) (by decide)
    refine lv_iload hx hb dX4_place_4 (lv_at hl 4 rfl) ?_
    refine lv_iconst (v := 5) hx hb dX4_place_6 (by decide) ?_
    refine lv_icmp_lt (tgt := 20) hx hb dX4_place_7 (by decide) (fun _ => ?_) (fun c => absurd (by decide) c)
    refine lv_iconst (v := 0) hx hb dX4_place_20 (by decide) ?_
    refine lv_istore (lv' := [(5, .int 0), (0, .ref q0), (1, .ref q1), (2, .ref q3), (3, .int a0), (4, .int 0)]) hx hb dX4_place_21 hl (by decide) rfl (fun ls hl => ?_)
    have lp11 : ∀ (n12 : Nat) (x4 : Int32) (w7 : Nat → Int32) (w8 : Nat → Int32) (H : Heap) (locs : List Loc) (ls : Array Slot), 0 ≤ x4.toInt → x4.toInt ≤ 9 → rg_S w8 0 5 0 8 → rg_F w8 f4 0 4 → 9 + 1 ≤ x4.toInt + (n12 : Int) → va_P D vwCl [(q0, .inr (4, [.ref q4, .int s0_1, .ref q2, .int s0_3])), (q1, .inr (2, [.int s1_0, .int s1_1, .int s1_2, .int s1_3, .int s1_4, .ref q8, .ref q9, .ref q10, .ref q11, .ref q12, .ref q7, .ref q5, .ref q6])), (q2, .inl (cA 0, 9, .inl w7)), (q3, .inl (cA 0, 9, .inl f3)), (q4, .inl (cA 0, 5, .inl w8)), (q5, .inl (cA 0, 6, .inl f5)), (q6, .inl (cA 0, 6, .inl f6)), (q7, .inl (cA 0, 6, .inl f7))] H → va_D A [(q0, .inr (4, [.ref q4, .int s0_1, .ref q2, .int s0_3])), (q1, .inr (2, [.int s1_0, .int s1_1, .int s1_2, .int s1_3, .int s1_4, .ref q8, .ref q9, .ref q10, .ref q11, .ref q12, .ref q7, .ref q5, .ref q6])), (q2, .inl (cA 0, 9, .inl w7)), (q3, .inl (cA 0, 9, .inl f3)), (q4, .inl (cA 0, 5, .inl w8)), (q5, .inl (cA 0, 6, .inl f5)), (q6, .inl (cA 0, 6, .inl f6)), (q7, .inl (cA 0, 6, .inl f7))] → va_S A s.heap H locs → lv_has ls 7 [(5, .int x4), (0, .ref q0), (1, .ref q1), (2, .ref q3), (3, .int a0), (4, .int 0)] → W p l e ({ frames := 8, cells := 0, slots := 0, locals := 212 } : Room) s m args below meth c H locs 0 0 (MQ below (ms_Qi D A (fun (r : Int32) (u : ((Nat → Int32) × (Nat → Nat → Int32) × (Nat → Int64))) => (r = 0 ∧ rg_S (u.2.1 1) 0 5 0 8 ∧ (1 ≤ a0.toInt ∧ a0.toInt ≤ 511) ∧ True ∧ True) ∨ (r = 1 ∧ rg_S (u.2.1 1) 0 5 0 8 ∧ ms_pc a0 ≤ 5 ∧ True)) (fun (u : ((Nat → Int32) × (Nat → Nat → Int32) × (Nat → Int64))) => [(q0, .inr (4, [.ref q4, .int s0_1, .ref q2, .int s0_3])), (q1, .inr (2, [.int s1_0, .int s1_1, .int s1_2, .int s1_3, .int s1_4, .ref q8, .ref q9, .ref q10, .ref q11, .ref q12, .ref q7, .ref q5, .ref q6])), (q2, .inl (cA 0, 9, .inl (u.2.1 0))), (q3, .inl (cA 0, 9, .inl f3)), (q4, .inl (cA 0, 5, .inl (u.2.1 1))), (q5, .inl (cA 0, 6, .inl f5)), (q6, .inl (cA 0, 6, .inl f6)), (q7, .inl (cA 0, 6, .inl f7))])) args s 0 0 A) (F0 m 23 ls []) := by
      intro n12
      induction n12 with
      | zero => intro x4 w7 w8 H locs ls l5 u6 g9 fr10  hm14; exact (rg_m0 hm14 u6).elim
      | succ n12 ih13 =>
        intro x4 w7 w8 H locs ls l5 u6 g9 fr10  hm14 hP hD hS hl
        refine lv_iload hx hb dX4_place_23 (lv_at hl 0 rfl) ?_
        refine lv_aload_n hx hb dX4_place_25 rfl (lv_at hl 2 rfl) ?_
        refine va_get (D := D) (ci := 2) (v := .int s1_3) (C := RX2) (T := TX2) (N := 13) hx hb hts hnX2 hown hE.1 hP 1 rfl rfl 3 (by decide) (hts (.fieldLink RX4 34 "MovedStones$Land" "roads" "I") (List.mem_cons_of_mem _ (List.mem_append_left _ (List.mem_append_left _ (List.mem_append_left _ (List.mem_of_getElem? (i := 0) rfl)))))) (fun _ h9 => h9) rfl dX4_place_26 ?_
        refine lv_icmp_ge (tgt := 129) hx hb dX4_place_29 (by decide) (fun c15 => ?_) (fun c15 => ?_)
        · refine lv_iconst (v := 0) hx hb dX4_place_129 (by decide) ?_
          exact ms_zret hx hb hr rfl hlk (fun i => [].getD i 0, fun i => [w7, w8].getD i ms_z, fun i => [].getD i 0) (Or.inl ⟨rfl, rg_Smono g9 (by decide) (by decide) (by decide) (by decide), ⟨rg_le h3 (by decide), rg_ge a0u (by decide)⟩, trivial, trivial⟩) hP hD hS (Nat.le_of_ble_eq_true rfl) (Nat.le_of_ble_eq_true rfl) dX4_place_130
        · have h16 : x4.toInt ≤ 8 := rg_lt_hi (rg_nle c15) s1_3u (by decide)
          have h17 : 1 ≤ s1_3.toInt := rg_lt_lo (rg_nle c15) l5 (by decide)
          refine lv_iload_n hx hb dX4_place_32 rfl (lv_at hl 4 rfl) ?_
          refine lv_iload hx hb dX4_place_33 (lv_at hl 0 rfl) ?_
          refine lv_ishr hx hb dX4_place_35 ?_
          refine lv_topi (fun v18 ev18 => ?_)
          refine lv_iconst (v := 1) hx hb dX4_place_36 (by decide) ?_
          refine rg_iand1 hx hb dX4_place_37 (fun v19 ev19 lv19 uv19 => ?_)
          refine lv_if_ne (tgt := 44) hx hb dX4_place_38 (by decide) (fun c20 => ?_) (fun c20 => ?_)
          · have h21 : 1 ≤ v19.toInt := rg_ne_lo c20 lv19 (by decide : (0 : Int) ≤ (0 : Int32).toInt) (by decide : (0 : Int32).toInt ≤ 0) (by decide)
            refine lv_aload_n hx hb dX4_place_44 rfl (lv_at hl 1 rfl) ?_
            refine va_get (D := D) (ci := 4) (v := .ref q2) (C := RX4) (T := TX4) (N := 4) hx hb hts hnX4 hown hE.1 hP 0 rfl rfl 2 (by decide) (hts (.fieldLink RX4 15 "MovedStones$Nights" "stones" "[I") (List.mem_cons_of_mem _ (List.mem_append_left _ (List.mem_append_left _ (List.mem_append_left _ (List.mem_of_getElem? (i := 1) rfl)))))) (fun _ h9 => h9) rfl dX4_place_45 ?_
            refine lv_iload hx hb dX4_place_48 (lv_at hl 0 rfl) ?_
            refine rg_iald0 hx hb hE hP (q0 := 2) rfl l5 h16 (by decide) dX4_place_50 (fun v22 ev22 => ?_)
            refine lv_istore (lv' := [(6, .int v22), (5, .int x4), (0, .ref q0), (1, .ref q1), (2, .ref q3), (3, .int a0), (4, .int 0)]) hx hb dX4_place_51 hl (by decide) rfl (fun ls hl => ?_)
            refine lv_aload_n hx hb dX4_place_53 rfl (lv_at hl 2 rfl) ?_
            refine va_get (D := D) (ci := 4) (v := .ref q2) (C := RX4) (T := TX4) (N := 4) hx hb hts hnX4 hown hE.1 hP 0 rfl rfl 2 (by decide) (hts (.fieldLink RX4 15 "MovedStones$Nights" "stones" "[I") (List.mem_cons_of_mem _ (List.mem_append_left _ (List.mem_append_left _ (List.mem_append_left _ (List.mem_of_getElem? (i := 1) rfl)))))) (fun _ h9 => h9) rfl dX4_place_54 ?_
            refine lv_iload hx hb dX4_place_57 (lv_at hl 1 rfl) ?_
            refine lv_aload_n hx hb dX4_place_59 rfl (lv_at hl 4 rfl) ?_
            refine lv_iload hx hb dX4_place_60 (lv_at hl 1 rfl) ?_
            refine rg_iald hx hb hE hP (q0 := 3) rfl l5 h16 f3_0 (by decide) dX4_place_62 (fun v23 ev23 lv23 uv23 => ?_)
            refine rg_iast hx hb hE hP hD hS (q0 := 2) rfl l5 h16 (by decide) dX4_place_63 (fun w24 H locs ew24 hP hD hS => ?_)
            have hP : va_P D vwCl [(q0, .inr (4, [.ref q4, .int s0_1, .ref q2, .int s0_3])), (q1, .inr (2, [.int s1_0, .int s1_1, .int s1_2, .int s1_3, .int s1_4, .ref q8, .ref q9, .ref q10, .ref q11, .ref q12, .ref q7, .ref q5, .ref q6])), (q2, .inl (cA 0, 9, .inl w24)), (q3, .inl (cA 0, 9, .inl f3)), (q4, .inl (cA 0, 5, .inl w8)), (q5, .inl (cA 0, 6, .inl f5)), (q6, .inl (cA 0, 6, .inl f6)), (q7, .inl (cA 0, 6, .inl f7))] H := hP
            have hD : va_D A [(q0, .inr (4, [.ref q4, .int s0_1, .ref q2, .int s0_3])), (q1, .inr (2, [.int s1_0, .int s1_1, .int s1_2, .int s1_3, .int s1_4, .ref q8, .ref q9, .ref q10, .ref q11, .ref q12, .ref q7, .ref q5, .ref q6])), (q2, .inl (cA 0, 9, .inl w24)), (q3, .inl (cA 0, 9, .inl f3)), (q4, .inl (cA 0, 5, .inl w8)), (q5, .inl (cA 0, 6, .inl f5)), (q6, .inl (cA 0, 6, .inl f6)), (q7, .inl (cA 0, 6, .inl f7))] := hD
            refine lv_aload_n hx hb dX4_place_64 rfl (lv_at hl 2 rfl) ?_
            refine va_get (D := D) (ci := 4) (v := .ref q4) (C := RX4) (T := TX4) (N := 4) hx hb hts hnX4 hown hE.1 hP 0 rfl rfl 0 (by decide) (hts (.fieldLink RX4 9 "MovedStones$Nights" "order" "[I") (List.mem_cons_of_mem _ (List.mem_append_left _ (List.mem_append_left _ (List.mem_append_left _ (List.mem_of_getElem? (i := 2) rfl)))))) (fun _ h9 => h9) rfl dX4_place_65 ?_
            refine lv_iload hx hb dX4_place_68 (lv_at hl 6 rfl) ?_
            refine lv_iload hx hb dX4_place_70 (lv_at hl 1 rfl) ?_
            refine rg_iast hx hb hE hP hD hS (q0 := 4) rfl (by decide : (0 : Int) ≤ (0 : Int32).toInt) (by decide : (0 : Int32).toInt ≤ 0) (by decide) dX4_place_72 (fun w25 H locs ew25 hP hD hS => ?_)
            have h26 : rg_S w25 0 5 0 8 := rg_Supd g9 ew25 (rg_le l5 (by decide)) (rg_ge h16 (by decide))
            have h27 : rg_F w25 f4 0 4 := rg_Ftr (rg_Fst ew25 (by decide : (0 : Int) ≤ (0 : Int32).toInt) (by decide : (0 : Int32).toInt ≤ 0) (by decide)) fr10 (by decide)
            have hP : va_P D vwCl [(q0, .inr (4, [.ref q4, .int s0_1, .ref q2, .int s0_3])), (q1, .inr (2, [.int s1_0, .int s1_1, .int s1_2, .int s1_3, .int s1_4, .ref q8, .ref q9, .ref q10, .ref q11, .ref q12, .ref q7, .ref q5, .ref q6])), (q2, .inl (cA 0, 9, .inl w24)), (q3, .inl (cA 0, 9, .inl f3)), (q4, .inl (cA 0, 5, .inl w25)), (q5, .inl (cA 0, 6, .inl f5)), (q6, .inl (cA 0, 6, .inl f6)), (q7, .inl (cA 0, 6, .inl f7))] H := hP
            have hD : va_D A [(q0, .inr (4, [.ref q4, .int s0_1, .ref q2, .int s0_3])), (q1, .inr (2, [.int s1_0, .int s1_1, .int s1_2, .int s1_3, .int s1_4, .ref q8, .ref q9, .ref q10, .ref q11, .ref q12, .ref q7, .ref q5, .ref q6])), (q2, .inl (cA 0, 9, .inl w24)), (q3, .inl (cA 0, 9, .inl f3)), (q4, .inl (cA 0, 5, .inl w25)), (q5, .inl (cA 0, 6, .inl f5)), (q6, .inl (cA 0, 6, .inl f6)), (q7, .inl (cA 0, 6, .inl f7))] := hD
            refine lv_aload_n hx hb dX4_place_73 rfl (lv_at hl 2 rfl) ?_
            refine va_get (D := D) (ci := 4) (v := .int s0_3) (C := RX4) (T := TX4) (N := 4) hx hb hts hnX4 hown hE.1 hP 0 rfl rfl 3 (by decide) (hts (.fieldLink RX4 30 "MovedStones$Nights" "kept" "I") (List.mem_cons_of_mem _ (List.mem_append_left _ (List.mem_append_left _ (List.mem_append_left _ (List.mem_of_getElem? (i := 3) rfl)))))) (fun _ h9 => h9) rfl dX4_place_74 ?_
            refine lv_aload_n hx hb dX4_place_77 rfl (lv_at hl 3 rfl) ?_
            refine lv_aload_n hx hb dX4_place_78 rfl (lv_at hl 2 rfl) ?_
            refine va_get (D := D) (ci := 4) (v := .ref q2) (C := RX4) (T := TX4) (N := 4) hx hb hts hnX4 hown hE.1 hP 0 rfl rfl 2 (by decide) (hts (.fieldLink RX4 15 "MovedStones$Nights" "stones" "[I") (List.mem_cons_of_mem _ (List.mem_append_left _ (List.mem_append_left _ (List.mem_append_left _ (List.mem_of_getElem? (i := 1) rfl)))))) (fun _ h9 => h9) rfl dX4_place_79 ?_
            refine ms_cVi (qc := (RX2, TX2, 13)) (wc := [(q1, .inr (2, [.int s1_0, .int s1_1, .int s1_2, .int s1_3, .int s1_4, .ref q8, .ref q9, .ref q10, .ref q11, .ref q12, .ref q7, .ref q5, .ref q6])), (q5, .inl (cA 0, 6, .inl f5)), (q2, .inl (cA 0, 9, .inl w24)), (q6, .inl (cA 0, 6, .inl f6)), (q7, .inl (cA 0, 6, .inl f7))]) (wr := [(q0, .inr (4, [.ref q4, .int s0_1, .ref q2, .int s0_3])), (q3, .inl (cA 0, 9, .inl f3)), (q4, .inl (cA 0, 5, .inl w25))]) ⟨hx, hb, hml, hown, hts⟩ hE (kX2_holding_1 l D cA q1 q5 q2 q6 q7 q8 q9 q10 q11 q12 s1_0 s1_1 s1_2 s1_3 s1_4 f5 w24 f6 f7 (rg_le s1_0l (by decide)) (rg_ge s1_0u (by decide)) (rg_le s1_1l (by decide)) (rg_ge s1_1u (by decide)) (rg_le s1_2l (by decide)) (rg_ge s1_2u (by decide)) (rg_le h17 (by decide)) (rg_ge s1_3u (by decide)) (rg_le s1_4l (by decide)) (rg_ge s1_4u (by decide)) (rg_Smono f6_0 (by decide) (by decide) (by decide) (by decide)) (rg_Smono f7_0 (by decide) (by decide) (by decide) (by decide))) (cwV 1 hts gX4_place_X2_holding rfl rfl rfl (by decide +kernel) ⟨Nat.le_of_ble_eq_true rfl, Nat.le_of_ble_eq_true rfl⟩) hP hD hS hA [1, 5, 2, 6, 7] [0, 3, 4] rfl rfl rfl rfl (by decide) 0 2 rfl rfl rfl hl.1 rfl (Nat.le_of_ble_eq_true rfl) dX4_place_82 ⟨Nat.le_of_ble_eq_true rfl, Nat.le_of_ble_eq_true rfl⟩ (fun r29 u28 H locs hp hP hD hS => ?_)
            obtain ⟨⟨r29l, r29u⟩, -⟩ := hp
            have hP : va_P D vwCl [(q0, .inr (4, [.ref q4, .int s0_1, .ref q2, .int s0_3])), (q3, .inl (cA 0, 9, .inl f3)), (q4, .inl (cA 0, 5, .inl w25)), (q1, .inr (2, [.int s1_0, .int s1_1, .int s1_2, .int s1_3, .int s1_4, .ref q8, .ref q9, .ref q10, .ref q11, .ref q12, .ref q7, .ref q5, .ref q6])), (q5, .inl (cA 0, 6, .inl f5)), (q2, .inl (cA 0, 9, .inl w24)), (q6, .inl (cA 0, 6, .inl f6)), (q7, .inl (cA 0, 6, .inl f7))] H := hP
            have hD : va_D A [(q0, .inr (4, [.ref q4, .int s0_1, .ref q2, .int s0_3])), (q3, .inl (cA 0, 9, .inl f3)), (q4, .inl (cA 0, 5, .inl w25)), (q1, .inr (2, [.int s1_0, .int s1_1, .int s1_2, .int s1_3, .int s1_4, .ref q8, .ref q9, .ref q10, .ref q11, .ref q12, .ref q7, .ref q5, .ref q6])), (q5, .inl (cA 0, 6, .inl f5)), (q2, .inl (cA 0, 9, .inl w24)), (q6, .inl (cA 0, 6, .inl f6)), (q7, .inl (cA 0, 6, .inl f7))] := hD
            refine lv_iconst (v := (-1)) hx hb dX4_place_85 (by decide) ?_
            refine lv_ixor hx hb dX4_place_86 ?_
            refine lv_topi (fun v30 ev30 => ?_)
            refine lv_iand hx hb dX4_place_87 ?_
            refine lv_topi (fun v31 ev31 => ?_)
            refine lv_if_ne (tgt := 114) hx hb dX4_place_88 (by decide) (fun c32 => ?_) (fun c32 => ?_)
            · refine lv_aload_n hx hb dX4_place_114 rfl (lv_at hl 2 rfl) ?_
              refine va_get (D := D) (ci := 4) (v := .ref q2) (C := RX4) (T := TX4) (N := 4) hx hb hts hnX4 hown hE.1 hP 0 rfl rfl 2 (by decide) (hts (.fieldLink RX4 15 "MovedStones$Nights" "stones" "[I") (List.mem_cons_of_mem _ (List.mem_append_left _ (List.mem_append_left _ (List.mem_append_left _ (List.mem_of_getElem? (i := 1) rfl)))))) (fun _ h9 => h9) rfl dX4_place_115 ?_
              refine lv_iload hx hb dX4_place_118 (lv_at hl 1 rfl) ?_
              refine lv_iload hx hb dX4_place_120 (lv_at hl 0 rfl) ?_
              refine rg_iast hx hb hE hP hD hS (q0 := 5) rfl l5 h16 (by decide) dX4_place_122 (fun w33 H locs ew33 hP hD hS => ?_)
              have hP : va_P D vwCl [(q0, .inr (4, [.ref q4, .int s0_1, .ref q2, .int s0_3])), (q3, .inl (cA 0, 9, .inl f3)), (q4, .inl (cA 0, 5, .inl w25)), (q1, .inr (2, [.int s1_0, .int s1_1, .int s1_2, .int s1_3, .int s1_4, .ref q8, .ref q9, .ref q10, .ref q11, .ref q12, .ref q7, .ref q5, .ref q6])), (q5, .inl (cA 0, 6, .inl f5)), (q2, .inl (cA 0, 9, .inl w33)), (q6, .inl (cA 0, 6, .inl f6)), (q7, .inl (cA 0, 6, .inl f7))] H := hP
              have hD : va_D A [(q0, .inr (4, [.ref q4, .int s0_1, .ref q2, .int s0_3])), (q3, .inl (cA 0, 9, .inl f3)), (q4, .inl (cA 0, 5, .inl w25)), (q1, .inr (2, [.int s1_0, .int s1_1, .int s1_2, .int s1_3, .int s1_4, .ref q8, .ref q9, .ref q10, .ref q11, .ref q12, .ref q7, .ref q5, .ref q6])), (q5, .inl (cA 0, 6, .inl f5)), (q2, .inl (cA 0, 9, .inl w33)), (q6, .inl (cA 0, 6, .inl f6)), (q7, .inl (cA 0, 6, .inl f7))] := hD
              refine rg_iinc (lo := 1) (hi := 9) (fun z => [(5, .int z), (6, .int v22), (0, .ref q0), (1, .ref q1), (2, .ref q3), (3, .int a0), (4, .int 0)]) hx hb dX4_place_123 hl (k := 1) rfl (by decide) l5 h16 (by decide) (fun _ => rfl) (fun v34 ev34 lv34 uv34 ls hl => ?_)
              have hl : lv_has ls 7 [(5, .int v34), (6, .int v22), (0, .ref q0), (1, .ref q1), (2, .ref q3), (3, .int a0), (4, .int 0)] := hl
              refine lv_goto (tgt := 23) hx hb dX4_place_126 (by decide) ?_
              exact ih13 v34 w33 w25 _ _ _ (rg_le lv34 (by decide)) (rg_ge uv34 (by decide)) (rg_Smono h26 (by decide) (by decide) (by decide) (by decide)) (rg_Fmono h27 (by decide))  (rg_ms hm14 ev34 (by decide)) (hP.sub [0, 3, 5, 1, 2, 4, 6, 7] rfl) (hD.sub [0, 3, 5, 1, 2, 4, 6, 7] (by decide) rfl) hS (lv_sub hl [0, 2, 3, 4, 5, 6] rfl)
            · have h35 : 0 ≤ v31.toInt := rg_eq_lo c32 (by decide : (0 : Int) ≤ (0 : Int32).toInt)
              have h36 : v31.toInt ≤ 0 := rg_eq_hi c32 (by decide : (0 : Int32).toInt ≤ 0)
              refine lv_aload_n hx hb dX4_place_91 rfl (lv_at hl 2 rfl) ?_
              refine lv_aload_n hx hb dX4_place_92 rfl (lv_at hl 3 rfl) ?_
              refine lv_aload_n hx hb dX4_place_93 rfl (lv_at hl 4 rfl) ?_
              refine lv_iload_n hx hb dX4_place_94 rfl (lv_at hl 5 rfl) ?_
              refine lv_iconst (v := 1) hx hb dX4_place_95 (by decide) ?_
              refine lv_iload hx hb dX4_place_96 (lv_at hl 1 rfl) ?_
              refine rg_shl1 (lo := 1) (hi := 256) hx hb dX4_place_98 l5 h16 (by decide) (fun v37 ev37 lv37 uv37 => ?_)
              refine lv_iconst (v := (-1)) hx hb dX4_place_99 (by decide) ?_
              refine lv_ixor hx hb dX4_place_100 ?_
              refine lv_topi (fun v38 ev38 => ?_)
              refine rg_iand (hi := 511) hx hb dX4_place_101 h3 a0u (by decide) (fun v39 ev39 lv39 uv39 => ?_)
              refine lv_iload hx hb dX4_place_102 (lv_at hl 6 rfl) ?_
              refine lv_iconst (v := 1) hx hb dX4_place_104 (by decide) ?_
              refine lv_iadd hx hb dX4_place_105 ?_
              refine ms_eqi (y := 1) (by decide) ?_
              refine ms_cVi (qc := (RX4, TX4, 4)) (wc := [(q0, .inr (4, [.ref q4, .int s0_1, .ref q2, .int s0_3])), (q1, .inr (2, [.int s1_0, .int s1_1, .int s1_2, .int s1_3, .int s1_4, .ref q8, .ref q9, .ref q10, .ref q11, .ref q12, .ref q7, .ref q5, .ref q6])), (q2, .inl (cA 0, 9, .inl w24)), (q3, .inl (cA 0, 9, .inl f3)), (q4, .inl (cA 0, 5, .inl w25)), (q5, .inl (cA 0, 6, .inl f5)), (q6, .inl (cA 0, 6, .inl f6)), (q7, .inl (cA 0, 6, .inl f7))]) (wr := []) ⟨hx, hb, hml, hown, hts⟩ hE (kX4_place_5 l D cA q0 q1 q2 q3 q4 q5 q6 q7 q8 q9 q10 q11 q12 s0_1 s0_3 s1_0 s1_1 s1_2 s1_3 s1_4 w24 f3 w25 f5 f6 f7 v39 (rg_le s1_0l (by decide)) (rg_ge s1_0u (by decide)) (rg_le s1_1l (by decide)) (rg_ge s1_1u (by decide)) (rg_le s1_2l (by decide)) (rg_ge s1_2u (by decide)) (rg_le h17 (by decide)) (rg_ge s1_3u (by decide)) (rg_le s1_4l (by decide)) (rg_ge s1_4u (by decide)) (rg_Smono f3_0 (by decide) (by decide) (by decide) (by decide)) (rg_Smono h26 (by decide) (by decide) (by decide) (by decide)) (rg_Smono f6_0 (by decide) (by decide) (by decide) (by decide)) (rg_Smono f7_0 (by decide) (by decide) (by decide) (by decide)) (rg_le lv39 (by decide)) (rg_ge uv39 (by decide))) (cwV 4 hts gX4_place_X4_place rfl rfl rfl (by decide +kernel) ⟨Nat.le_of_ble_eq_true rfl, Nat.le_of_ble_eq_true rfl⟩) hP hD hS hA [0, 3, 5, 1, 2, 4, 6, 7] [] rfl rfl rfl rfl (by decide) 0 4 rfl rfl rfl hl.1 rfl (Nat.le_of_ble_eq_true rfl) dX4_place_106 ⟨Nat.le_of_ble_eq_true rfl, Nat.le_of_ble_eq_true rfl⟩ (fun r41 u40 H locs hp hP hD hS => ?_)
              rcases hp with ⟨hr, u40f1_0, u40fr1, ⟨u40a0l, u40a0h⟩, exu40, -⟩ | ⟨hr, u40f1_0, u40fr1, exu40, -⟩
              · subst hr
                have hP : va_P D vwCl [(q0, .inr (4, [.ref q4, .int s0_1, .ref q2, .int s0_3])), (q1, .inr (2, [.int s1_0, .int s1_1, .int s1_2, .int s1_3, .int s1_4, .ref q8, .ref q9, .ref q10, .ref q11, .ref q12, .ref q7, .ref q5, .ref q6])), (q2, .inl (cA 0, 9, .inl (u40.2.1 0))), (q3, .inl (cA 0, 9, .inl f3)), (q4, .inl (cA 0, 5, .inl (u40.2.1 1))), (q5, .inl (cA 0, 6, .inl f5)), (q6, .inl (cA 0, 6, .inl f6)), (q7, .inl (cA 0, 6, .inl f7))] H := hP
                have hD : va_D A [(q0, .inr (4, [.ref q4, .int s0_1, .ref q2, .int s0_3])), (q1, .inr (2, [.int s1_0, .int s1_1, .int s1_2, .int s1_3, .int s1_4, .ref q8, .ref q9, .ref q10, .ref q11, .ref q12, .ref q7, .ref q5, .ref q6])), (q2, .inl (cA 0, 9, .inl (u40.2.1 0))), (q3, .inl (cA 0, 9, .inl f3)), (q4, .inl (cA 0, 5, .inl (u40.2.1 1))), (q5, .inl (cA 0, 6, .inl f5)), (q6, .inl (cA 0, 6, .inl f6)), (q7, .inl (cA 0, 6, .inl f7))] := hD
                refine lv_if_eq (tgt := 114) hx hb dX4_place_109 (by decide) (fun _ => ?_) (fun c => absurd (by decide) c)
                refine lv_aload_n hx hb dX4_place_114 rfl (lv_at hl 2 rfl) ?_
                refine va_get (D := D) (ci := 4) (v := .ref q2) (C := RX4) (T := TX4) (N := 4) hx hb hts hnX4 hown hE.1 hP 0 rfl rfl 2 (by decide) (hts (.fieldLink RX4 15 "MovedStones$Nights" "stones" "[I") (List.mem_cons_of_mem _ (List.mem_append_left _ (List.mem_append_left _ (List.mem_append_left _ (List.mem_of_getElem? (i := 1) rfl)))))) (fun _ h9 => h9) rfl dX4_place_115 ?_
                refine lv_iload hx hb dX4_place_118 (lv_at hl 1 rfl) ?_
                refine lv_iload hx hb dX4_place_120 (lv_at hl 0 rfl) ?_
                refine rg_iast hx hb hE hP hD hS (q0 := 2) rfl l5 h16 (by decide) dX4_place_122 (fun w42 H locs ew42 hP hD hS => ?_)
                have h43 : rg_F w42 (u40.2.1 0) 0 8 := (rg_Fst ew42 l5 h16 (by decide))
                have hP : va_P D vwCl [(q0, .inr (4, [.ref q4, .int s0_1, .ref q2, .int s0_3])), (q1, .inr (2, [.int s1_0, .int s1_1, .int s1_2, .int s1_3, .int s1_4, .ref q8, .ref q9, .ref q10, .ref q11, .ref q12, .ref q7, .ref q5, .ref q6])), (q2, .inl (cA 0, 9, .inl w42)), (q3, .inl (cA 0, 9, .inl f3)), (q4, .inl (cA 0, 5, .inl (u40.2.1 1))), (q5, .inl (cA 0, 6, .inl f5)), (q6, .inl (cA 0, 6, .inl f6)), (q7, .inl (cA 0, 6, .inl f7))] H := hP
                have hD : va_D A [(q0, .inr (4, [.ref q4, .int s0_1, .ref q2, .int s0_3])), (q1, .inr (2, [.int s1_0, .int s1_1, .int s1_2, .int s1_3, .int s1_4, .ref q8, .ref q9, .ref q10, .ref q11, .ref q12, .ref q7, .ref q5, .ref q6])), (q2, .inl (cA 0, 9, .inl w42)), (q3, .inl (cA 0, 9, .inl f3)), (q4, .inl (cA 0, 5, .inl (u40.2.1 1))), (q5, .inl (cA 0, 6, .inl f5)), (q6, .inl (cA 0, 6, .inl f6)), (q7, .inl (cA 0, 6, .inl f7))] := hD
                refine rg_iinc (lo := 1) (hi := 9) (fun z => [(5, .int z), (6, .int v22), (0, .ref q0), (1, .ref q1), (2, .ref q3), (3, .int a0), (4, .int 0)]) hx hb dX4_place_123 hl (k := 1) rfl (by decide) l5 h16 (by decide) (fun _ => rfl) (fun v44 ev44 lv44 uv44 ls hl => ?_)
                have hl : lv_has ls 7 [(5, .int v44), (6, .int v22), (0, .ref q0), (1, .ref q1), (2, .ref q3), (3, .int a0), (4, .int 0)] := hl
                refine lv_goto (tgt := 23) hx hb dX4_place_126 (by decide) ?_
                exact ih13 v44 w42 (u40.2.1 1) _ _ _ (rg_le lv44 (by decide)) (rg_ge uv44 (by decide)) (rg_Smono u40f1_0 (by decide) (by decide) (by decide) (by decide)) (rg_Fmono (rg_Ftr (lo := 0) (hi := 4) u40fr1 h27 (by decide)) (by decide))  (rg_ms hm14 ev44 (by decide)) hP hD hS (lv_sub hl [0, 2, 3, 4, 5, 6] rfl)
              · subst hr
                have hP : va_P D vwCl [(q0, .inr (4, [.ref q4, .int s0_1, .ref q2, .int s0_3])), (q1, .inr (2, [.int s1_0, .int s1_1, .int s1_2, .int s1_3, .int s1_4, .ref q8, .ref q9, .ref q10, .ref q11, .ref q12, .ref q7, .ref q5, .ref q6])), (q2, .inl (cA 0, 9, .inl (u40.2.1 0))), (q3, .inl (cA 0, 9, .inl f3)), (q4, .inl (cA 0, 5, .inl (u40.2.1 1))), (q5, .inl (cA 0, 6, .inl f5)), (q6, .inl (cA 0, 6, .inl f6)), (q7, .inl (cA 0, 6, .inl f7))] H := hP
                have hD : va_D A [(q0, .inr (4, [.ref q4, .int s0_1, .ref q2, .int s0_3])), (q1, .inr (2, [.int s1_0, .int s1_1, .int s1_2, .int s1_3, .int s1_4, .ref q8, .ref q9, .ref q10, .ref q11, .ref q12, .ref q7, .ref q5, .ref q6])), (q2, .inl (cA 0, 9, .inl (u40.2.1 0))), (q3, .inl (cA 0, 9, .inl f3)), (q4, .inl (cA 0, 5, .inl (u40.2.1 1))), (q5, .inl (cA 0, 6, .inl f5)), (q6, .inl (cA 0, 6, .inl f6)), (q7, .inl (cA 0, 6, .inl f7))] := hD
                have h45 : ms_pc v39 + 1 = ms_pc a0 := ms_pcL (rg_le h3 (by decide)) (rg_ge a0u (by decide)) l5 h16 ev18 ev19 c20 ev37 ev38 ev39
                refine lv_if_eq (tgt := 114) hx hb dX4_place_109 (by decide) (fun c => absurd c (by decide)) (fun _ => ?_)
                refine lv_iconst (v := 1) hx hb dX4_place_112 (by decide) ?_
                exact ms_zret hx hb hr rfl hlk (fun i => [].getD i 0, fun i => [(u40.2.1 0), (u40.2.1 1)].getD i ms_z, fun i => [].getD i 0) (Or.inr ⟨rfl, rg_Smono u40f1_0 (by decide) (by decide) (by decide) (by decide), (ms_pcle h45 exu40 (by decide)), trivial⟩) hP hD hS (Nat.le_of_ble_eq_true rfl) (Nat.le_of_ble_eq_true rfl) dX4_place_113
          · have h46 : v19.toInt ≤ 0 := rg_eq_hi c20 (by decide : (0 : Int32).toInt ≤ 0)
            refine lv_goto (tgt := 123) hx hb dX4_place_41 (by decide) ?_
            refine rg_iinc (lo := 1) (hi := 9) (fun z => [(5, .int z), (0, .ref q0), (1, .ref q1), (2, .ref q3), (3, .int a0), (4, .int 0)]) hx hb dX4_place_123 hl (k := 0) rfl (by decide) l5 h16 (by decide) (fun _ => rfl) (fun v47 ev47 lv47 uv47 ls hl => ?_)
            have hl : lv_has ls 7 [(5, .int v47), (0, .ref q0), (1, .ref q1), (2, .ref q3), (3, .int a0), (4, .int 0)] := hl
            refine lv_goto (tgt := 23) hx hb dX4_place_126 (by decide) ?_
            exact ih13 v47 w7 w8 _ _ _ (rg_le lv47 (by decide)) (rg_ge uv47 (by decide)) (rg_Smono g9 (by decide) (by decide) (by decide) (by decide)) (rg_Fmono fr10 (by decide))  (rg_ms hm14 ev47 (by decide)) hP hD hS (lv_sub hl [0, 1, 2, 3, 4, 5] rfl)
    exact lp11 10 0 f2 f4 _ _ _ (rg_le (by decide : (0 : Int) ≤ (0 : Int32).toInt) (by decide)) (rg_ge (by decide : (0 : Int32).toInt ≤ 0) (by decide)) (rg_Smono f4_0 (by decide) (by decide) (by decide) (by decide)) (rg_Frefl _ _ _)  (rg_mi (by decide : (0 : Int) ≤ (0 : Int32).toInt) (by decide)) hP hD hS (lv_sub hl [0, 1, 2, 3, 4, 5] rfl)
set_option maxHeartbeats 4000000 in
set_option maxRecDepth 100000 in
theorem kX4_plan_1 (l : Launch) (D : va_G) (cA : Nat → ClassId) (q0 q1 q2 q3 q4 q5 q6 q7 q8 q9 q10 q11 q12 q13 : Nat) (s0_1 : Int32) (s0_3 : Int32) (f1 : Nat → Int32) (f2 : Nat → Int32) (s3_0 : Int32) (s3_1 : Int32) (s3_2 : Int32) (s3_3 : Int32) (s3_4 : Int32) (f4 : Nat → Int32) (f5 : Nat → Int32) (f6 : Nat → Int32) (f7 : Nat → Int32) (f8 : Nat → Int32) (s3_0l : 0 ≤ s3_0.toInt) (s3_0u : s3_0.toInt ≤ 6) (s3_1l : 0 ≤ s3_1.toInt) (s3_1u : s3_1.toInt ≤ 4) (s3_2l : 0 ≤ s3_2.toInt) (s3_2u : s3_2.toInt ≤ 9) (s3_3l : 0 ≤ s3_3.toInt) (s3_3u : s3_3.toInt ≤ 9) (s3_4l : 0 ≤ s3_4.toInt) (s3_4u : s3_4.toInt ≤ 6) (f5_0 : rg_S f5 0 6 0 999) (f6_0 : rg_S f6 0 6 0 2) (f7_0 : rg_S f7 0 9 0 999) (f8_0 : rg_S f8 0 5 0 8) : ms_Mi l yX4_plan wsX4_plan ({ frames := 9, cells := 0, slots := 0, locals := 238 } : Room) D cA [.ref q0, .ref q3, .ref q1, .ref q7] [(q0, .inr (4, [.ref q8, .int s0_1, .ref q2, .int s0_3])), (q1, .inl (cA 0, 9, .inl f1)), (q2, .inl (cA 0, 9, .inl f2)), (q3, .inr (2, [.int s3_0, .int s3_1, .int s3_2, .int s3_3, .int s3_4, .ref q9, .ref q10, .ref q11, .ref q12, .ref q13, .ref q6, .ref q4, .ref q5])), (q4, .inl (cA 0, 6, .inl f4)), (q5, .inl (cA 0, 6, .inl f5)), (q6, .inl (cA 0, 6, .inl f6)), (q7, .inl (cA 0, 9, .inl f7)), (q8, .inl (cA 0, 5, .inl f8))] (fun (r : Int32) (u : ((Nat → Int32) × (Nat → Nat → Int32) × (Nat → Int64))) => (r = 0 ∧ (0 ≤ (u.1 1).toInt ∧ (u.1 1).toInt ≤ 255) ∧ rg_S (u.2.1 1) 0 5 0 8 ∧ True) ∨ (r = 1 ∧ (0 ≤ (u.1 0).toInt ∧ (u.1 0).toInt ≤ 5) ∧ (0 ≤ (u.1 1).toInt ∧ (u.1 1).toInt ≤ 255) ∧ rg_S (u.2.1 1) 0 5 0 8 ∧ True)) (fun (u : ((Nat → Int32) × (Nat → Nat → Int32) × (Nat → Int64))) => [(q0, .inr (4, [.ref q8, .int (u.1 0), .ref q2, .int (u.1 1)])), (q1, .inl (cA 0, 9, .inl f1)), (q2, .inl (cA 0, 9, .inl (u.2.1 0))), (q3, .inr (2, [.int s3_0, .int s3_1, .int s3_2, .int s3_3, .int s3_4, .ref q9, .ref q10, .ref q11, .ref q12, .ref q13, .ref q6, .ref q4, .ref q5])), (q4, .inl (cA 0, 6, .inl f4)), (q5, .inl (cA 0, 6, .inl f5)), (q6, .inl (cA 0, 6, .inl f6)), (q7, .inl (cA 0, 9, .inl f7)), (q8, .inl (cA 0, 5, .inl (u.2.1 1)))]) := by
  refine ms_Mi_of (cc := cX4_plan) (maxL := 6) (ret := (some .boolean)) (by decide) rfl (Nat.le_of_ble_eq_true rfl) ?_
  intro p e s m args below meth c A ls hB hE hA hP hD hS hl
  obtain ⟨hx, hb, hr, hml, hown, hts, hlk, hnm⟩ := hB
  have hown : s.vm.findClass RX4 = some m.cls := hown
  have hnX2 : ∀ w ∈ u_ws RX2 TX2 13, w ∈ wsX4_plan := fun _ h => List.mem_cons_of_mem _ (List.mem_append_right _ (h))
  have hnX4 : ∀ w ∈ u_ws RX4 TX4 4, w ∈ wsX4_plan := fun _ h => List.mem_cons_of_mem _ (List.mem_append_left _ (List.mem_append_right _ (h)))
  have hl : lv_has ls 6 [(0, .ref q0), (1, .ref q3), (2, .ref q1), (3, .ref q7)] := hl
  refine lv_aload_n hx hb dX4_plan_0 rfl (lv_at hl 2 rfl) ?_
  refine lv_iconst (v := 0) hx hb dX4_plan_1 (by decide) ?_
  refine lv_aload_n hx hb dX4_plan_2 rfl (lv_at hl 0 rfl) ?_
  refine va_get (D := D) (ci := 4) (v := .ref q2) (C := RX4) (T := TX4) (N := 4) hx hb hts hnX4 hown hE.1 hP 0 rfl rfl 2 (by decide) (hts (.fieldLink RX4 15 "MovedStones$Nights" "stones" "[I") (List.mem_cons_of_mem _ (List.mem_append_left _ (List.mem_append_left _ (List.mem_append_left _ (List.mem_of_getElem? (i := 0) rfl)))))) (fun _ h9 => h9) rfl dX4_plan_3 ?_
  refine lv_iconst (v := 0) hx hb dX4_plan_6 (by decide) ?_
  refine lv_bipush (v := 9) hx hb dX4_plan_7 (by decide) ?_
  refine rg_copy hx hb (hml.trans hl.1.symm) hown (hts (.methodLink RX4 18 arraycopyName) (List.mem_cons_of_mem _ (List.mem_append_left _ (List.mem_append_left _ (List.mem_append_left _ (List.mem_of_getElem? (i := 1) rfl)))))) (hts (.native arraycopyName) (List.mem_cons_of_mem _ (List.mem_append_left _ (List.mem_append_left _ (List.mem_append_left _ (List.mem_of_getElem? (i := 2) rfl)))))) (hts (.static arraycopyName) (List.mem_cons_of_mem _ (List.mem_append_left _ (List.mem_append_left _ (List.mem_append_left _ (List.mem_of_getElem? (i := 3) rfl)))))) (hts (.initialized "java/lang/System") (List.mem_cons_of_mem _ (List.mem_append_left _ (List.mem_append_left _ (List.mem_append_left _ (List.mem_of_getElem? (i := 4) rfl)))))) hE hP hD hS 1 2 rfl rfl rfl rfl 9 (by decide) rfl (by decide) (by decide) (Nat.le_of_ble_eq_true rfl) (Nat.le_of_ble_eq_true rfl) dX4_plan_9 (fun w1 H locs ew1 hP hD hS => ?_)
  have hP : va_P D vwCl [(q0, .inr (4, [.ref q8, .int s0_1, .ref q2, .int s0_3])), (q1, .inl (cA 0, 9, .inl f1)), (q2, .inl (cA 0, 9, .inl w1)), (q3, .inr (2, [.int s3_0, .int s3_1, .int s3_2, .int s3_3, .int s3_4, .ref q9, .ref q10, .ref q11, .ref q12, .ref q13, .ref q6, .ref q4, .ref q5])), (q4, .inl (cA 0, 6, .inl f4)), (q5, .inl (cA 0, 6, .inl f5)), (q6, .inl (cA 0, 6, .inl f6)), (q7, .inl (cA 0, 9, .inl f7)), (q8, .inl (cA 0, 5, .inl f8))] H := hP
  have hD : va_D A [(q0, .inr (4, [.ref q8, .int s0_1, .ref q2, .int s0_3])), (q1, .inl (cA 0, 9, .inl f1)), (q2, .inl (cA 0, 9, .inl w1)), (q3, .inr (2, [.int s3_0, .int s3_1, .int s3_2, .int s3_3, .int s3_4, .ref q9, .ref q10, .ref q11, .ref q12, .ref q13, .ref q6, .ref q4, .ref q5])), (q4, .inl (cA 0, 6, .inl f4)), (q5, .inl (cA 0, 6, .inl f5)), (q6, .inl (cA 0, 6, .inl f6)), (q7, .inl (cA 0, 9, .inl f7)), (q8, .inl (cA 0, 5, .inl f8))] := hD
  refine lv_aload_n hx hb dX4_plan_12 rfl (lv_at hl 0 rfl) ?_
  refine lv_aload_n hx hb dX4_plan_13 rfl (lv_at hl 1 rfl) ?_
  refine lv_aload_n hx hb dX4_plan_14 rfl (lv_at hl 2 rfl) ?_
  refine ms_cVi (qc := (RX2, TX2, 13)) (wc := [(q3, .inr (2, [.int s3_0, .int s3_1, .int s3_2, .int s3_3, .int s3_4, .ref q9, .ref q10, .ref q11, .ref q12, .ref q13, .ref q6, .ref q4, .ref q5])), (q4, .inl (cA 0, 6, .inl f4)), (q1, .inl (cA 0, 9, .inl f1)), (q5, .inl (cA 0, 6, .inl f5)), (q6, .inl (cA 0, 6, .inl f6))]) (wr := [(q0, .inr (4, [.ref q8, .int s0_1, .ref q2, .int s0_3])), (q2, .inl (cA 0, 9, .inl w1)), (q7, .inl (cA 0, 9, .inl f7)), (q8, .inl (cA 0, 5, .inl f8))]) ⟨hx, hb, hml, hown, hts⟩ hE (kX2_holding_1 l D cA q3 q4 q1 q5 q6 q9 q10 q11 q12 q13 s3_0 s3_1 s3_2 s3_3 s3_4 f4 f1 f5 f6 (rg_le s3_0l (by decide)) (rg_ge s3_0u (by decide)) (rg_le s3_1l (by decide)) (rg_ge s3_1u (by decide)) (rg_le s3_2l (by decide)) (rg_ge s3_2u (by decide)) (rg_le s3_3l (by decide)) (rg_ge s3_3u (by decide)) (rg_le s3_4l (by decide)) (rg_ge s3_4u (by decide)) (rg_Smono f5_0 (by decide) (by decide) (by decide) (by decide)) (rg_Smono f6_0 (by decide) (by decide) (by decide) (by decide))) (cwV 1 hts gX4_plan_X2_holding rfl rfl rfl (by decide +kernel) ⟨Nat.le_of_ble_eq_true rfl, Nat.le_of_ble_eq_true rfl⟩) hP hD hS hA [3, 4, 1, 5, 6] [0, 2, 7, 8] rfl rfl rfl rfl (by decide) 0 2 rfl rfl rfl hl.1 rfl (Nat.le_of_ble_eq_true rfl) dX4_plan_15 ⟨Nat.le_of_ble_eq_true rfl, Nat.le_of_ble_eq_true rfl⟩ (fun r3 u2 H locs hp hP hD hS => ?_)
  obtain ⟨⟨r3l, r3u⟩, -⟩ := hp
  have hP : va_P D vwCl [(q0, .inr (4, [.ref q8, .int s0_1, .ref q2, .int s0_3])), (q2, .inl (cA 0, 9, .inl w1)), (q7, .inl (cA 0, 9, .inl f7)), (q8, .inl (cA 0, 5, .inl f8)), (q3, .inr (2, [.int s3_0, .int s3_1, .int s3_2, .int s3_3, .int s3_4, .ref q9, .ref q10, .ref q11, .ref q12, .ref q13, .ref q6, .ref q4, .ref q5])), (q4, .inl (cA 0, 6, .inl f4)), (q1, .inl (cA 0, 9, .inl f1)), (q5, .inl (cA 0, 6, .inl f5)), (q6, .inl (cA 0, 6, .inl f6))] H := hP
  have hD : va_D A [(q0, .inr (4, [.ref q8, .int s0_1, .ref q2, .int s0_3])), (q2, .inl (cA 0, 9, .inl w1)), (q7, .inl (cA 0, 9, .inl f7)), (q8, .inl (cA 0, 5, .inl f8)), (q3, .inr (2, [.int s3_0, .int s3_1, .int s3_2, .int s3_3, .int s3_4, .ref q9, .ref q10, .ref q11, .ref q12, .ref q13, .ref q6, .ref q4, .ref q5])), (q4, .inl (cA 0, 6, .inl f4)), (q1, .inl (cA 0, 9, .inl f1)), (q5, .inl (cA 0, 6, .inl f5)), (q6, .inl (cA 0, 6, .inl f6))] := hD
  refine va_put (D := D) (ci := 4) (v := .int r3) (ty := tyX4 3) (C := RX4) (T := TX4) (N := 4) hx hb hts hnX4 tyX4 tyX4_ok nmX4 hown hE.1 hP hD hS 0 rfl rfl 3 (by decide) (hts (.fieldLink RX4 30 "MovedStones$Nights" "kept" "I") (List.mem_cons_of_mem _ (List.mem_append_left _ (List.mem_append_left _ (List.mem_append_left _ (List.mem_of_getElem? (i := 5) rfl)))))) (fun _ h9 => h9) rfl (tyX4_ok 3 (by decide)) rfl rfl (Nat.le_of_ble_eq_true rfl) dX4_plan_18 (fun H locs hP hD hS => ?_)
  have hP : va_P D vwCl [(q0, .inr (4, [.ref q8, .int s0_1, .ref q2, .int r3])), (q2, .inl (cA 0, 9, .inl w1)), (q7, .inl (cA 0, 9, .inl f7)), (q8, .inl (cA 0, 5, .inl f8)), (q3, .inr (2, [.int s3_0, .int s3_1, .int s3_2, .int s3_3, .int s3_4, .ref q9, .ref q10, .ref q11, .ref q12, .ref q13, .ref q6, .ref q4, .ref q5])), (q4, .inl (cA 0, 6, .inl f4)), (q1, .inl (cA 0, 9, .inl f1)), (q5, .inl (cA 0, 6, .inl f5)), (q6, .inl (cA 0, 6, .inl f6))] H := hP
  have hD : va_D A [(q0, .inr (4, [.ref q8, .int s0_1, .ref q2, .int r3])), (q2, .inl (cA 0, 9, .inl w1)), (q7, .inl (cA 0, 9, .inl f7)), (q8, .inl (cA 0, 5, .inl f8)), (q3, .inr (2, [.int s3_0, .int s3_1, .int s3_2, .int s3_3, .int s3_4, .ref q9, .ref q10, .ref q11, .ref q12, .ref q13, .ref q6, .ref q4, .ref q5])), (q4, .inl (cA 0, 6, .inl f4)), (q1, .inl (cA 0, 9, .inl f1)), (q5, .inl (cA 0, 6, .inl f5)), (q6, .inl (cA 0, 6, .inl f6))] := hD
  refine lv_iconst (v := 0) hx hb dX4_plan_21 (by decide) ?_
  refine lv_istore (lv' := [(4, .int 0), (0, .ref q0), (1, .ref q3), (2, .ref q1), (3, .ref q7)]) hx hb dX4_plan_22 hl (by decide) rfl (fun ls hl => ?_)
  refine lv_iconst (v := 0) hx hb dX4_plan_24 (by decide) ?_
  refine lv_istore (lv' := [(5, .int 0), (4, .int 0), (0, .ref q0), (1, .ref q3), (2, .ref q1), (3, .ref q7)]) hx hb dX4_plan_25 hl (by decide) rfl (fun ls hl => ?_)
  have lp10 : ∀ (n11 : Nat) (x4 : Int32) (x7 : Int32) (H : Heap) (locs : List Loc) (ls : Array Slot), 0 ≤ x4.toInt → x4.toInt ≤ 9 → 0 ≤ x7.toInt → x7.toInt ≤ 511 → 9 + 1 ≤ x4.toInt + (n11 : Int) → va_P D vwCl [(q0, .inr (4, [.ref q8, .int s0_1, .ref q2, .int r3])), (q2, .inl (cA 0, 9, .inl w1)), (q7, .inl (cA 0, 9, .inl f7)), (q8, .inl (cA 0, 5, .inl f8)), (q3, .inr (2, [.int s3_0, .int s3_1, .int s3_2, .int s3_3, .int s3_4, .ref q9, .ref q10, .ref q11, .ref q12, .ref q13, .ref q6, .ref q4, .ref q5])), (q4, .inl (cA 0, 6, .inl f4)), (q1, .inl (cA 0, 9, .inl f1)), (q5, .inl (cA 0, 6, .inl f5)), (q6, .inl (cA 0, 6, .inl f6))] H → va_D A [(q0, .inr (4, [.ref q8, .int s0_1, .ref q2, .int r3])), (q2, .inl (cA 0, 9, .inl w1)), (q7, .inl (cA 0, 9, .inl f7)), (q8, .inl (cA 0, 5, .inl f8)), (q3, .inr (2, [.int s3_0, .int s3_1, .int s3_2, .int s3_3, .int s3_4, .ref q9, .ref q10, .ref q11, .ref q12, .ref q13, .ref q6, .ref q4, .ref q5])), (q4, .inl (cA 0, 6, .inl f4)), (q1, .inl (cA 0, 9, .inl f1)), (q5, .inl (cA 0, 6, .inl f5)), (q6, .inl (cA 0, 6, .inl f6))] → va_S A s.heap H locs → lv_has ls 6 [(5, .int x4), (4, .int x7), (0, .ref q0), (1, .ref q3), (2, .ref q1), (3, .ref q7)] → W p l e ({ frames := 9, cells := 0, slots := 0, locals := 238 } : Room) s m args below meth c H locs 0 0 (MQ below (ms_Qi D A (fun (r : Int32) (u : ((Nat → Int32) × (Nat → Nat → Int32) × (Nat → Int64))) => (r = 0 ∧ (0 ≤ (u.1 1).toInt ∧ (u.1 1).toInt ≤ 255) ∧ rg_S (u.2.1 1) 0 5 0 8 ∧ True) ∨ (r = 1 ∧ (0 ≤ (u.1 0).toInt ∧ (u.1 0).toInt ≤ 5) ∧ (0 ≤ (u.1 1).toInt ∧ (u.1 1).toInt ≤ 255) ∧ rg_S (u.2.1 1) 0 5 0 8 ∧ True)) (fun (u : ((Nat → Int32) × (Nat → Nat → Int32) × (Nat → Int64))) => [(q0, .inr (4, [.ref q8, .int (u.1 0), .ref q2, .int (u.1 1)])), (q1, .inl (cA 0, 9, .inl f1)), (q2, .inl (cA 0, 9, .inl (u.2.1 0))), (q3, .inr (2, [.int s3_0, .int s3_1, .int s3_2, .int s3_3, .int s3_4, .ref q9, .ref q10, .ref q11, .ref q12, .ref q13, .ref q6, .ref q4, .ref q5])), (q4, .inl (cA 0, 6, .inl f4)), (q5, .inl (cA 0, 6, .inl f5)), (q6, .inl (cA 0, 6, .inl f6)), (q7, .inl (cA 0, 9, .inl f7)), (q8, .inl (cA 0, 5, .inl (u.2.1 1)))])) args s 0 0 A) (F0 m 27 ls []) := by
    intro n11
    induction n11 with
    | zero => intro x4 x7 H locs ls l5 u6 l8 u9  hm13; exact (rg_m0 hm13 u6).elim
    | succ n11 ih12 =>
      intro x4 x7 H locs ls l5 u6 l8 u9  hm13 hP hD hS hl
      refine lv_iload hx hb dX4_plan_27 (lv_at hl 0 rfl) ?_
      refine lv_aload_n hx hb dX4_plan_29 rfl (lv_at hl 3 rfl) ?_
      refine va_get (D := D) (ci := 2) (v := .int s3_3) (C := RX2) (T := TX2) (N := 13) hx hb hts hnX2 hown hE.1 hP 4 rfl rfl 3 (by decide) (hts (.fieldLink RX4 34 "MovedStones$Land" "roads" "I") (List.mem_cons_of_mem _ (List.mem_append_left _ (List.mem_append_left _ (List.mem_append_left _ (List.mem_of_getElem? (i := 6) rfl)))))) (fun _ h9 => h9) rfl dX4_plan_30 ?_
      refine lv_icmp_ge (tgt := 69) hx hb dX4_plan_33 (by decide) (fun c14 => ?_) (fun c14 => ?_)
      · refine lv_aload_n hx hb dX4_plan_69 rfl (lv_at hl 2 rfl) ?_
        refine lv_iload hx hb dX4_plan_70 (lv_at hl 1 rfl) ?_
        refine ms_cSi (wc := []) (wr := [(q0, .inr (4, [.ref q8, .int s0_1, .ref q2, .int r3])), (q2, .inl (cA 0, 9, .inl w1)), (q7, .inl (cA 0, 9, .inl f7)), (q8, .inl (cA 0, 5, .inl f8)), (q3, .inr (2, [.int s3_0, .int s3_1, .int s3_2, .int s3_3, .int s3_4, .ref q9, .ref q10, .ref q11, .ref q12, .ref q13, .ref q6, .ref q4, .ref q5])), (q4, .inl (cA 0, 6, .inl f4)), (q1, .inl (cA 0, 9, .inl f1)), (q5, .inl (cA 0, 6, .inl f5)), (q6, .inl (cA 0, 6, .inl f6))]) ⟨hx, hb, hml, hown, hts⟩ hE (kJ6_bitCount_0f7a4_1 l D cA x7) (va_cwS 1 hts gX4_plan_J6_bitCount_0f7a4 rfl rfl rfl (by decide +kernel) ⟨Nat.le_of_ble_eq_true rfl, Nat.le_of_ble_eq_true rfl⟩) hP hD hS hA [] [0, 1, 2, 3, 4, 5, 6, 7, 8] rfl rfl rfl rfl (by decide) rfl hl.1 rfl (Nat.le_of_ble_eq_true rfl) dX4_plan_72 ⟨Nat.le_of_ble_eq_true rfl, Nat.le_of_ble_eq_true rfl⟩ (fun r16 u15 H locs hp hP hD hS => ?_)
        obtain ⟨⟨r16l, r16u⟩, exu15, -⟩ := hp
        have hP : va_P D vwCl [(q0, .inr (4, [.ref q8, .int s0_1, .ref q2, .int r3])), (q2, .inl (cA 0, 9, .inl w1)), (q7, .inl (cA 0, 9, .inl f7)), (q8, .inl (cA 0, 5, .inl f8)), (q3, .inr (2, [.int s3_0, .int s3_1, .int s3_2, .int s3_3, .int s3_4, .ref q9, .ref q10, .ref q11, .ref q12, .ref q13, .ref q6, .ref q4, .ref q5])), (q4, .inl (cA 0, 6, .inl f4)), (q1, .inl (cA 0, 9, .inl f1)), (q5, .inl (cA 0, 6, .inl f5)), (q6, .inl (cA 0, 6, .inl f6))] H := hP
        have hD : va_D A [(q0, .inr (4, [.ref q8, .int s0_1, .ref q2, .int r3])), (q2, .inl (cA 0, 9, .inl w1)), (q7, .inl (cA 0, 9, .inl f7)), (q8, .inl (cA 0, 5, .inl f8)), (q3, .inr (2, [.int s3_0, .int s3_1, .int s3_2, .int s3_3, .int s3_4, .ref q9, .ref q10, .ref q11, .ref q12, .ref q13, .ref q6, .ref q4, .ref q5])), (q4, .inl (cA 0, 6, .inl f4)), (q1, .inl (cA 0, 9, .inl f1)), (q5, .inl (cA 0, 6, .inl f5)), (q6, .inl (cA 0, 6, .inl f6))] := hD
        refine va_put (D := D) (ci := 4) (v := .int r16) (ty := tyX4 1) (C := RX4) (T := TX4) (N := 4) hx hb hts hnX4 tyX4 tyX4_ok nmX4 hown hE.1 hP hD hS 0 rfl rfl 1 (by decide) (hts (.fieldLink RX4 43 "MovedStones$Nights" "count" "I") (List.mem_cons_of_mem _ (List.mem_append_left _ (List.mem_append_left _ (List.mem_append_left _ (List.mem_of_getElem? (i := 7) rfl)))))) (fun _ h9 => h9) rfl (tyX4_ok 1 (by decide)) rfl rfl (Nat.le_of_ble_eq_true rfl) dX4_plan_75 (fun H locs hP hD hS => ?_)
        have hP : va_P D vwCl [(q0, .inr (4, [.ref q8, .int r16, .ref q2, .int r3])), (q2, .inl (cA 0, 9, .inl w1)), (q7, .inl (cA 0, 9, .inl f7)), (q8, .inl (cA 0, 5, .inl f8)), (q3, .inr (2, [.int s3_0, .int s3_1, .int s3_2, .int s3_3, .int s3_4, .ref q9, .ref q10, .ref q11, .ref q12, .ref q13, .ref q6, .ref q4, .ref q5])), (q4, .inl (cA 0, 6, .inl f4)), (q1, .inl (cA 0, 9, .inl f1)), (q5, .inl (cA 0, 6, .inl f5)), (q6, .inl (cA 0, 6, .inl f6))] H := hP
        have hD : va_D A [(q0, .inr (4, [.ref q8, .int r16, .ref q2, .int r3])), (q2, .inl (cA 0, 9, .inl w1)), (q7, .inl (cA 0, 9, .inl f7)), (q8, .inl (cA 0, 5, .inl f8)), (q3, .inr (2, [.int s3_0, .int s3_1, .int s3_2, .int s3_3, .int s3_4, .ref q9, .ref q10, .ref q11, .ref q12, .ref q13, .ref q6, .ref q4, .ref q5])), (q4, .inl (cA 0, 6, .inl f4)), (q1, .inl (cA 0, 9, .inl f1)), (q5, .inl (cA 0, 6, .inl f5)), (q6, .inl (cA 0, 6, .inl f6))] := hD
        refine lv_aload_n hx hb dX4_plan_78 rfl (lv_at hl 2 rfl) ?_
        refine lv_aload_n hx hb dX4_plan_79 rfl (lv_at hl 3 rfl) ?_
        refine lv_aload_n hx hb dX4_plan_80 rfl (lv_at hl 5 rfl) ?_
        refine lv_iload hx hb dX4_plan_81 (lv_at hl 1 rfl) ?_
        refine lv_iconst (v := 0) hx hb dX4_plan_83 (by decide) ?_
        refine ms_cVi (qc := (RX4, TX4, 4)) (wc := [(q0, .inr (4, [.ref q8, .int r16, .ref q2, .int r3])), (q3, .inr (2, [.int s3_0, .int s3_1, .int s3_2, .int s3_3, .int s3_4, .ref q9, .ref q10, .ref q11, .ref q12, .ref q13, .ref q6, .ref q4, .ref q5])), (q2, .inl (cA 0, 9, .inl w1)), (q7, .inl (cA 0, 9, .inl f7)), (q8, .inl (cA 0, 5, .inl f8)), (q4, .inl (cA 0, 6, .inl f4)), (q5, .inl (cA 0, 6, .inl f5)), (q6, .inl (cA 0, 6, .inl f6))]) (wr := [(q1, .inl (cA 0, 9, .inl f1))]) ⟨hx, hb, hml, hown, hts⟩ hE (kX4_place_6 l D cA q0 q3 q2 q7 q8 q4 q5 q6 q9 q10 q11 q12 q13 r16 r3 s3_0 s3_1 s3_2 s3_3 s3_4 w1 f7 f8 f4 f5 f6 x7 (rg_le s3_0l (by decide)) (rg_ge s3_0u (by decide)) (rg_le s3_1l (by decide)) (rg_ge s3_1u (by decide)) (rg_le s3_2l (by decide)) (rg_ge s3_2u (by decide)) (rg_le s3_3l (by decide)) (rg_ge s3_3u (by decide)) (rg_le s3_4l (by decide)) (rg_ge s3_4u (by decide)) (rg_Smono f7_0 (by decide) (by decide) (by decide) (by decide)) (rg_Smono f8_0 (by decide) (by decide) (by decide) (by decide)) (rg_Smono f5_0 (by decide) (by decide) (by decide) (by decide)) (rg_Smono f6_0 (by decide) (by decide) (by decide) (by decide)) (rg_le l8 (by decide)) (rg_ge u9 (by decide))) (cwV 4 hts gX4_plan_X4_place rfl rfl rfl (by decide +kernel) ⟨Nat.le_of_ble_eq_true rfl, Nat.le_of_ble_eq_true rfl⟩) hP hD hS hA [0, 4, 1, 2, 3, 5, 7, 8] [6] rfl rfl rfl rfl (by decide) 0 4 rfl rfl rfl hl.1 rfl (Nat.le_of_ble_eq_true rfl) dX4_plan_84 ⟨Nat.le_of_ble_eq_true rfl, Nat.le_of_ble_eq_true rfl⟩ (fun r18 u17 H locs hp hP hD hS => ?_)
        rcases hp with ⟨hr, u17f1_0, ⟨u17a0l, u17a0h⟩, exu17, -⟩ | ⟨hr, u17f1_0, exu17, -⟩
        · subst hr
          have hP : va_P D vwCl [(q1, .inl (cA 0, 9, .inl f1)), (q0, .inr (4, [.ref q8, .int r16, .ref q2, .int r3])), (q3, .inr (2, [.int s3_0, .int s3_1, .int s3_2, .int s3_3, .int s3_4, .ref q9, .ref q10, .ref q11, .ref q12, .ref q13, .ref q6, .ref q4, .ref q5])), (q2, .inl (cA 0, 9, .inl (u17.2.1 0))), (q7, .inl (cA 0, 9, .inl f7)), (q8, .inl (cA 0, 5, .inl (u17.2.1 1))), (q4, .inl (cA 0, 6, .inl f4)), (q5, .inl (cA 0, 6, .inl f5)), (q6, .inl (cA 0, 6, .inl f6))] H := hP
          have hD : va_D A [(q1, .inl (cA 0, 9, .inl f1)), (q0, .inr (4, [.ref q8, .int r16, .ref q2, .int r3])), (q3, .inr (2, [.int s3_0, .int s3_1, .int s3_2, .int s3_3, .int s3_4, .ref q9, .ref q10, .ref q11, .ref q12, .ref q13, .ref q6, .ref q4, .ref q5])), (q2, .inl (cA 0, 9, .inl (u17.2.1 0))), (q7, .inl (cA 0, 9, .inl f7)), (q8, .inl (cA 0, 5, .inl (u17.2.1 1))), (q4, .inl (cA 0, 6, .inl f4)), (q5, .inl (cA 0, 6, .inl f5)), (q6, .inl (cA 0, 6, .inl f6))] := hD
          exact ms_zret hx hb hr rfl hlk (fun i => [r16, r3].getD i 0, fun i => [(u17.2.1 0), (u17.2.1 1)].getD i ms_z, fun i => [].getD i 0) (Or.inl ⟨rfl, ⟨rg_le r3l (by decide), rg_ge r3u (by decide)⟩, rg_Smono u17f1_0 (by decide) (by decide) (by decide) (by decide), trivial⟩) (hP.sub [1, 0, 3, 2, 6, 7, 8, 4, 5] rfl) (hD.sub [1, 0, 3, 2, 6, 7, 8, 4, 5] (by decide) rfl) hS (Nat.le_of_ble_eq_true rfl) (Nat.le_of_ble_eq_true rfl) dX4_plan_87
        · subst hr
          have hP : va_P D vwCl [(q1, .inl (cA 0, 9, .inl f1)), (q0, .inr (4, [.ref q8, .int r16, .ref q2, .int r3])), (q3, .inr (2, [.int s3_0, .int s3_1, .int s3_2, .int s3_3, .int s3_4, .ref q9, .ref q10, .ref q11, .ref q12, .ref q13, .ref q6, .ref q4, .ref q5])), (q2, .inl (cA 0, 9, .inl (u17.2.1 0))), (q7, .inl (cA 0, 9, .inl f7)), (q8, .inl (cA 0, 5, .inl (u17.2.1 1))), (q4, .inl (cA 0, 6, .inl f4)), (q5, .inl (cA 0, 6, .inl f5)), (q6, .inl (cA 0, 6, .inl f6))] H := hP
          have hD : va_D A [(q1, .inl (cA 0, 9, .inl f1)), (q0, .inr (4, [.ref q8, .int r16, .ref q2, .int r3])), (q3, .inr (2, [.int s3_0, .int s3_1, .int s3_2, .int s3_3, .int s3_4, .ref q9, .ref q10, .ref q11, .ref q12, .ref q13, .ref q6, .ref q4, .ref q5])), (q2, .inl (cA 0, 9, .inl (u17.2.1 0))), (q7, .inl (cA 0, 9, .inl f7)), (q8, .inl (cA 0, 5, .inl (u17.2.1 1))), (q4, .inl (cA 0, 6, .inl f4)), (q5, .inl (cA 0, 6, .inl f5)), (q6, .inl (cA 0, 6, .inl f6))] := hD
          have h19 : 0 ≤ r16.toInt ∧ r16.toInt ≤ 5 := ms_pc5 (exu15 (rg_le l8 (by decide)) (rg_ge u9 (by decide))) exu17
          exact ms_zret hx hb hr rfl hlk (fun i => [r16, r3].getD i 0, fun i => [(u17.2.1 0), (u17.2.1 1)].getD i ms_z, fun i => [].getD i 0) (Or.inr ⟨rfl, ⟨rg_le h19.1 (by decide), rg_ge h19.2 (by decide)⟩, ⟨rg_le r3l (by decide), rg_ge r3u (by decide)⟩, rg_Smono u17f1_0 (by decide) (by decide) (by decide) (by decide), trivial⟩) (hP.sub [1, 0, 3, 2, 6, 7, 8, 4, 5] rfl) (hD.sub [1, 0, 3, 2, 6, 7, 8, 4, 5] (by decide) rfl) hS (Nat.le_of_ble_eq_true rfl) (Nat.le_of_ble_eq_true rfl) dX4_plan_87
      · have h20 : x4.toInt ≤ 8 := rg_lt_hi (rg_nle c14) s3_3u (by decide)
        have h21 : 1 ≤ s3_3.toInt := rg_lt_lo (rg_nle c14) l5 (by decide)
        refine lv_aload_n hx hb dX4_plan_36 rfl (lv_at hl 5 rfl) ?_
        refine lv_iload hx hb dX4_plan_37 (lv_at hl 0 rfl) ?_
        refine rg_iald hx hb hE hP (q0 := 2) rfl l5 h20 f7_0 (by decide) dX4_plan_39 (fun v22 ev22 lv22 uv22 => ?_)
        have jn26 : ∀ (x23 : Int32) (H : Heap) (locs : List Loc) (ls : Array Slot), 0 ≤ x23.toInt → x23.toInt ≤ 511 → va_P D vwCl [(q0, .inr (4, [.ref q8, .int s0_1, .ref q2, .int r3])), (q2, .inl (cA 0, 9, .inl w1)), (q7, .inl (cA 0, 9, .inl f7)), (q8, .inl (cA 0, 5, .inl f8)), (q3, .inr (2, [.int s3_0, .int s3_1, .int s3_2, .int s3_3, .int s3_4, .ref q9, .ref q10, .ref q11, .ref q12, .ref q13, .ref q6, .ref q4, .ref q5])), (q4, .inl (cA 0, 6, .inl f4)), (q1, .inl (cA 0, 9, .inl f1)), (q5, .inl (cA 0, 6, .inl f5)), (q6, .inl (cA 0, 6, .inl f6))] H → va_D A [(q0, .inr (4, [.ref q8, .int s0_1, .ref q2, .int r3])), (q2, .inl (cA 0, 9, .inl w1)), (q7, .inl (cA 0, 9, .inl f7)), (q8, .inl (cA 0, 5, .inl f8)), (q3, .inr (2, [.int s3_0, .int s3_1, .int s3_2, .int s3_3, .int s3_4, .ref q9, .ref q10, .ref q11, .ref q12, .ref q13, .ref q6, .ref q4, .ref q5])), (q4, .inl (cA 0, 6, .inl f4)), (q1, .inl (cA 0, 9, .inl f1)), (q5, .inl (cA 0, 6, .inl f5)), (q6, .inl (cA 0, 6, .inl f6))] → va_S A s.heap H locs → lv_has ls 6 [(5, .int x4), (4, .int x23), (0, .ref q0), (1, .ref q3), (2, .ref q1), (3, .ref q7)] → W p l e ({ frames := 9, cells := 0, slots := 0, locals := 238 } : Room) s m args below meth c H locs 0 0 (MQ below (ms_Qi D A (fun (r : Int32) (u : ((Nat → Int32) × (Nat → Nat → Int32) × (Nat → Int64))) => (r = 0 ∧ (0 ≤ (u.1 1).toInt ∧ (u.1 1).toInt ≤ 255) ∧ rg_S (u.2.1 1) 0 5 0 8 ∧ True) ∨ (r = 1 ∧ (0 ≤ (u.1 0).toInt ∧ (u.1 0).toInt ≤ 5) ∧ (0 ≤ (u.1 1).toInt ∧ (u.1 1).toInt ≤ 255) ∧ rg_S (u.2.1 1) 0 5 0 8 ∧ True)) (fun (u : ((Nat → Int32) × (Nat → Nat → Int32) × (Nat → Int64))) => [(q0, .inr (4, [.ref q8, .int (u.1 0), .ref q2, .int (u.1 1)])), (q1, .inl (cA 0, 9, .inl f1)), (q2, .inl (cA 0, 9, .inl (u.2.1 0))), (q3, .inr (2, [.int s3_0, .int s3_1, .int s3_2, .int s3_3, .int s3_4, .ref q9, .ref q10, .ref q11, .ref q12, .ref q13, .ref q6, .ref q4, .ref q5])), (q4, .inl (cA 0, 6, .inl f4)), (q5, .inl (cA 0, 6, .inl f5)), (q6, .inl (cA 0, 6, .inl f6)), (q7, .inl (cA 0, 9, .inl f7)), (q8, .inl (cA 0, 5, .inl (u.2.1 1)))])) args s 0 0 A) (F0 m 63 ls []) := by
          intro x23 H locs ls l24 u25  hP hD hS hl
          refine rg_iinc (lo := 1) (hi := 9) (fun z => [(5, .int z), (4, .int x23), (0, .ref q0), (1, .ref q3), (2, .ref q1), (3, .ref q7)]) hx hb dX4_plan_63 hl (k := 0) rfl (by decide) l5 h20 (by decide) (fun _ => rfl) (fun v27 ev27 lv27 uv27 ls hl => ?_)
          have hl : lv_has ls 6 [(5, .int v27), (4, .int x23), (0, .ref q0), (1, .ref q3), (2, .ref q1), (3, .ref q7)] := hl
          refine lv_goto (tgt := 27) hx hb dX4_plan_66 (by decide) ?_
          exact ih12 v27 x23 _ _ _ (rg_le lv27 (by decide)) (rg_ge uv27 (by decide)) (rg_le l24 (by decide)) (rg_ge u25 (by decide))  (rg_ms hm13 ev27 (by decide)) hP hD hS (lv_sub hl [0, 1, 2, 3, 4, 5] rfl)
        refine lv_if_eq (tgt := 63) hx hb dX4_plan_40 (by decide) (fun c28 => ?_) (fun c28 => ?_)
        · have h29 : v22.toInt ≤ 0 := rg_eq_hi c28 (by decide : (0 : Int32).toInt ≤ 0)
          exact jn26 x7 _ _ _ (rg_le l8 (by decide)) (rg_ge u9 (by decide))  hP hD hS (lv_sub hl [0, 1, 2, 3, 4, 5] rfl)
        · have h30 : 1 ≤ v22.toInt := rg_ne_lo c28 lv22 (by decide : (0 : Int) ≤ (0 : Int32).toInt) (by decide : (0 : Int32).toInt ≤ 0) (by decide)
          refine lv_aload_n hx hb dX4_plan_43 rfl (lv_at hl 5 rfl) ?_
          refine lv_iload hx hb dX4_plan_44 (lv_at hl 0 rfl) ?_
          refine rg_iald hx hb hE hP (q0 := 2) rfl l5 h20 f7_0 (by decide) dX4_plan_46 (fun v31 ev31 lv31 uv31 => ?_)
          obtain rfl : v22 = v31 := ev22.trans ev31.symm
          refine lv_aload_n hx hb dX4_plan_47 rfl (lv_at hl 4 rfl) ?_
          refine lv_iload hx hb dX4_plan_48 (lv_at hl 0 rfl) ?_
          refine rg_iald0 hx hb hE hP (q0 := 6) rfl l5 h20 (by decide) dX4_plan_50 (fun v32 ev32 => ?_)
          refine lv_icmp_eq (tgt := 63) hx hb dX4_plan_51 (by decide) (fun c33 => ?_) (fun c33 => ?_)
          · have h34 : 1 ≤ v32.toInt := rg_eq_lo c33.symm h30
            have h35 : v32.toInt ≤ 999 := rg_eq_hi c33.symm uv22
            exact jn26 x7 _ _ _ (rg_le l8 (by decide)) (rg_ge u9 (by decide))  hP hD hS (lv_sub hl [0, 1, 2, 3, 4, 5] rfl)
          · refine lv_iload hx hb dX4_plan_54 (lv_at hl 1 rfl) ?_
            refine lv_iconst (v := 1) hx hb dX4_plan_56 (by decide) ?_
            refine lv_iload hx hb dX4_plan_57 (lv_at hl 0 rfl) ?_
            refine rg_shl1 (lo := 1) (hi := 256) hx hb dX4_plan_59 l5 h20 (by decide) (fun v36 ev36 lv36 uv36 => ?_)
            refine rg_ior (k := 9) (hi := 511) hx hb dX4_plan_60 l8 u9 lv36 uv36 (by decide) (fun v37 ev37 lv37 uv37 => ?_)
            refine lv_istore (lv' := [(4, .int v37), (5, .int x4), (0, .ref q0), (1, .ref q3), (2, .ref q1), (3, .ref q7)]) hx hb dX4_plan_61 hl (by decide) rfl (fun ls hl => ?_)
            exact jn26 v37 _ _ _ (rg_le lv37 (by decide)) (rg_ge uv37 (by decide))  hP hD hS (lv_sub hl [1, 0, 2, 3, 4, 5] rfl)
  exact lp10 10 0 0 _ _ _ (rg_le (by decide : (0 : Int) ≤ (0 : Int32).toInt) (by decide)) (rg_ge (by decide : (0 : Int32).toInt ≤ 0) (by decide)) (rg_le (by decide : (0 : Int) ≤ (0 : Int32).toInt) (by decide)) (rg_ge (by decide : (0 : Int32).toInt ≤ 0) (by decide))  (rg_mi (by decide : (0 : Int) ≤ (0 : Int32).toInt) (by decide)) hP hD hS (lv_sub hl [0, 1, 2, 3, 4, 5] rfl)
set_option maxHeartbeats 4000000 in
set_option maxRecDepth 100000 in
theorem kX10_dawns_1 (l : Launch) (D : va_G) (cA : Nat → ClassId) (q0 q1 q2 q3 q4 q5 q6 q7 q8 q9 q10 q11 q12 q13 q14 q15 q16 q17 q18 q19 q20 q21 q22 q23 q24 q25 q26 q27 q28 : Nat) (s0_5 : Int32) (s1_1 : Int32) (s1_2 : Int32) (s1_3 : Int32) (s1_4 : Int32) (s1_5 : Int32) (s2_4 : Int32) (s2_7 : Int32) (s3_1 : Int32) (s3_3 : Int32) (f4 : Nat → Int32) (f5 : Nat → Int32) (s6_0 : Int32) (s6_1 : Int32) (s6_2 : Int32) (s6_3 : Int32) (s6_4 : Int32) (f7 : Nat → Int32) (f8 : Nat → Int32) (f9 : Nat → Int32) (f10 : Nat → Int32) (f11 : Nat → Int32) (a0 : Int32) (s2_4l : 0 ≤ s2_4.toInt) (s2_4u : s2_4.toInt ≤ 8) (s2_7l : 0 ≤ s2_7.toInt) (s2_7u : s2_7.toInt ≤ 15) (s6_0l : 0 ≤ s6_0.toInt) (s6_0u : s6_0.toInt ≤ 6) (s6_1l : 0 ≤ s6_1.toInt) (s6_1u : s6_1.toInt ≤ 4) (s6_2l : 0 ≤ s6_2.toInt) (s6_2u : s6_2.toInt ≤ 9) (s6_3l : 0 ≤ s6_3.toInt) (s6_3u : s6_3.toInt ≤ 9) (s6_4l : 0 ≤ s6_4.toInt) (s6_4u : s6_4.toInt ≤ 6) (f8_0 : rg_S f8 0 6 0 999) (f9_0 : rg_S f9 0 6 0 2) (f10_0 : rg_S f10 0 9 0 999) (f11_0 : rg_S f11 0 5 0 8) : ms_Mi l yX10_dawns wsX10_dawns ({ frames := 10, cells := 0, slots := 0, locals := 263 } : Room) D cA [.ref q0, .int a0] [(q0, .inr (10, [.ref q12, .ref q6, .ref q1, .ref q13, .ref q14, .int s0_5, .ref q2, .ref q15, .ref q16, .ref q3, .ref q17, .ref q18])), (q1, .inr (8, [.ref q4, .int s1_1, .int s1_2, .int s1_3, .int s1_4, .int s1_5])), (q2, .inr (5, [.ref q10, .ref q19, .ref q20, .ref q21, .int s2_4, .ref q22, .ref q23, .int s2_7])), (q3, .inr (4, [.ref q11, .int s3_1, .ref q5, .int s3_3])), (q4, .inl (cA 0, 9, .inl f4)), (q5, .inl (cA 0, 9, .inl f5)), (q6, .inr (2, [.int s6_0, .int s6_1, .int s6_2, .int s6_3, .int s6_4, .ref q24, .ref q25, .ref q26, .ref q27, .ref q28, .ref q9, .ref q7, .ref q8])), (q7, .inl (cA 0, 6, .inl f7)), (q8, .inl (cA 0, 6, .inl f8)), (q9, .inl (cA 0, 6, .inl f9)), (q10, .inl (cA 0, 9, .inl f10)), (q11, .inl (cA 0, 5, .inl f11))] (fun (r : Int32) (u : ((Nat → Int32) × (Nat → Nat → Int32) × (Nat → Int64))) => ((-1) ≤ r.toInt ∧ r.toInt ≤ 8) ∧ (0 ≤ (u.1 1).toInt ∧ (u.1 1).toInt ≤ 255) ∧ rg_S (u.2.1 1) 0 5 0 8 ∧ True) (fun (u : ((Nat → Int32) × (Nat → Nat → Int32) × (Nat → Int64))) => [(q0, .inr (10, [.ref q12, .ref q6, .ref q1, .ref q13, .ref q14, .int s0_5, .ref q2, .ref q15, .ref q16, .ref q3, .ref q17, .ref q18])), (q1, .inr (8, [.ref q4, .int s1_1, .int s1_2, .int s1_3, .int s1_4, .int s1_5])), (q2, .inr (5, [.ref q10, .ref q19, .ref q20, .ref q21, .int s2_4, .ref q22, .ref q23, .int s2_7])), (q3, .inr (4, [.ref q11, .int (u.1 0), .ref q5, .int (u.1 1)])), (q4, .inl (cA 0, 9, .inl f4)), (q5, .inl (cA 0, 9, .inl (u.2.1 0))), (q6, .inr (2, [.int s6_0, .int s6_1, .int s6_2, .int s6_3, .int s6_4, .ref q24, .ref q25, .ref q26, .ref q27, .ref q28, .ref q9, .ref q7, .ref q8])), (q7, .inl (cA 0, 6, .inl f7)), (q8, .inl (cA 0, 6, .inl f8)), (q9, .inl (cA 0, 6, .inl f9)), (q10, .inl (cA 0, 9, .inl f10)), (q11, .inl (cA 0, 5, .inl (u.2.1 1)))]) := by
  refine ms_Mi_of (cc := cX10_dawns) (maxL := 2) (ret := (some .int)) (by decide) rfl (Nat.le_of_ble_eq_true rfl) ?_
  intro p e s m args below meth c A ls hB hE hA hP hD hS hl
  obtain ⟨hx, hb, hr, hml, hown, hts, hlk, hnm⟩ := hB
  have hown : s.vm.findClass RX10 = some m.cls := hown
  have hnX4 : ∀ w ∈ u_ws RX4 TX4 4, w ∈ wsX10_dawns := fun _ h => List.mem_cons_of_mem _ (List.mem_append_left _ (List.mem_append_right _ (h)))
  have hnX5 : ∀ w ∈ u_ws RX5 TX5 8, w ∈ wsX10_dawns := fun _ h => List.mem_cons_of_mem _ (List.mem_append_left _ (List.mem_append_left _ (List.mem_append_right _ (h))))
  have hnX8 : ∀ w ∈ u_ws RX8 TX8 6, w ∈ wsX10_dawns := fun _ h => List.mem_cons_of_mem _ (List.mem_append_left _ (List.mem_append_left _ (List.mem_append_left _ (List.mem_append_right _ (h)))))
  have hnX10 : ∀ w ∈ u_ws RX10 TX10 12, w ∈ wsX10_dawns := fun _ h => List.mem_cons_of_mem _ (List.mem_append_left _ (List.mem_append_left _ (List.mem_append_left _ (List.mem_append_left _ (List.mem_append_right _ (h))))))
  have hl : lv_has ls 2 [(0, .ref q0), (1, .int a0)] := hl
  refine lv_aload_n hx hb dX10_dawns_0 rfl (lv_at hl 0 rfl) ?_
  refine va_get (D := D) (ci := 10) (v := .ref q3) (C := RX10) (T := TX10) (N := 12) hx hb hts hnX10 hown hE.1 hP 0 rfl rfl 9 (by decide) (hts (.fieldLink RX10 68 "MovedStones" "nights" "LMovedStones$Nights;") (List.mem_cons_of_mem _ (List.mem_append_left _ (List.mem_append_left _ (List.mem_append_left _ (List.mem_append_left _ (List.mem_append_left _ (List.mem_append_left _ (List.mem_of_getElem? (i := 0) rfl))))))))) (fun _ h9 => h9) rfl dX10_dawns_1 ?_
  refine lv_aload_n hx hb dX10_dawns_4 rfl (lv_at hl 0 rfl) ?_
  refine va_get (D := D) (ci := 10) (v := .ref q6) (C := RX10) (T := TX10) (N := 12) hx hb hts hnX10 hown hE.1 hP 0 rfl rfl 1 (by decide) (hts (.fieldLink RX10 19 "MovedStones" "land" "LMovedStones$Land;") (List.mem_cons_of_mem _ (List.mem_append_left _ (List.mem_append_left _ (List.mem_append_left _ (List.mem_append_left _ (List.mem_append_left _ (List.mem_append_left _ (List.mem_of_getElem? (i := 1) rfl))))))))) (fun _ h9 => h9) rfl dX10_dawns_5 ?_
  refine lv_aload_n hx hb dX10_dawns_8 rfl (lv_at hl 0 rfl) ?_
  refine va_get (D := D) (ci := 10) (v := .ref q1) (C := RX10) (T := TX10) (N := 12) hx hb hts hnX10 hown hE.1 hP 0 rfl rfl 2 (by decide) (hts (.fieldLink RX10 26 "MovedStones" "now" "LMovedStones$State;") (List.mem_cons_of_mem _ (List.mem_append_left _ (List.mem_append_left _ (List.mem_append_left _ (List.mem_append_left _ (List.mem_append_left _ (List.mem_append_left _ (List.mem_of_getElem? (i := 2) rfl))))))))) (fun _ h9 => h9) rfl dX10_dawns_9 ?_
  refine va_get (D := D) (ci := 8) (v := .ref q4) (C := RX8) (T := TX8) (N := 6) hx hb hts hnX8 hown hE.1 hP 1 rfl rfl 0 (by decide) (hts (.fieldLink RX10 140 "MovedStones$State" "miles" "[I") (List.mem_cons_of_mem _ (List.mem_append_left _ (List.mem_append_left _ (List.mem_append_left _ (List.mem_append_left _ (List.mem_append_left _ (List.mem_append_left _ (List.mem_of_getElem? (i := 3) rfl))))))))) (fun _ h9 => h9) rfl dX10_dawns_12 ?_
  refine lv_aload_n hx hb dX10_dawns_15 rfl (lv_at hl 0 rfl) ?_
  refine va_get (D := D) (ci := 10) (v := .ref q2) (C := RX10) (T := TX10) (N := 12) hx hb hts hnX10 hown hE.1 hP 0 rfl rfl 6 (by decide) (hts (.fieldLink RX10 47 "MovedStones" "papers" "LMovedStones$Papers;") (List.mem_cons_of_mem _ (List.mem_append_left _ (List.mem_append_left _ (List.mem_append_left _ (List.mem_append_left _ (List.mem_append_left _ (List.mem_append_left _ (List.mem_of_getElem? (i := 4) rfl))))))))) (fun _ h9 => h9) rfl dX10_dawns_16 ?_
  refine va_get (D := D) (ci := 5) (v := .ref q10) (C := RX5) (T := TX5) (N := 8) hx hb hts hnX5 hown hE.1 hP 2 rfl rfl 0 (by decide) (hts (.fieldLink RX10 192 "MovedStones$Papers" "wanted" "[I") (List.mem_cons_of_mem _ (List.mem_append_left _ (List.mem_append_left _ (List.mem_append_left _ (List.mem_append_left _ (List.mem_append_left _ (List.mem_append_left _ (List.mem_of_getElem? (i := 5) rfl))))))))) (fun _ h9 => h9) rfl dX10_dawns_19 ?_
  refine ms_cVi (qc := (RX4, TX4, 4)) (wc := [(q3, .inr (4, [.ref q11, .int s3_1, .ref q5, .int s3_3])), (q4, .inl (cA 0, 9, .inl f4)), (q5, .inl (cA 0, 9, .inl f5)), (q6, .inr (2, [.int s6_0, .int s6_1, .int s6_2, .int s6_3, .int s6_4, .ref q24, .ref q25, .ref q26, .ref q27, .ref q28, .ref q9, .ref q7, .ref q8])), (q7, .inl (cA 0, 6, .inl f7)), (q8, .inl (cA 0, 6, .inl f8)), (q9, .inl (cA 0, 6, .inl f9)), (q10, .inl (cA 0, 9, .inl f10)), (q11, .inl (cA 0, 5, .inl f11))]) (wr := [(q0, .inr (10, [.ref q12, .ref q6, .ref q1, .ref q13, .ref q14, .int s0_5, .ref q2, .ref q15, .ref q16, .ref q3, .ref q17, .ref q18])), (q1, .inr (8, [.ref q4, .int s1_1, .int s1_2, .int s1_3, .int s1_4, .int s1_5])), (q2, .inr (5, [.ref q10, .ref q19, .ref q20, .ref q21, .int s2_4, .ref q22, .ref q23, .int s2_7]))]) ⟨hx, hb, hml, hown, hts⟩ hE (kX4_plan_1 l D cA q3 q4 q5 q6 q7 q8 q9 q10 q11 q24 q25 q26 q27 q28 s3_1 s3_3 f4 f5 s6_0 s6_1 s6_2 s6_3 s6_4 f7 f8 f9 f10 f11 (rg_le s6_0l (by decide)) (rg_ge s6_0u (by decide)) (rg_le s6_1l (by decide)) (rg_ge s6_1u (by decide)) (rg_le s6_2l (by decide)) (rg_ge s6_2u (by decide)) (rg_le s6_3l (by decide)) (rg_ge s6_3u (by decide)) (rg_le s6_4l (by decide)) (rg_ge s6_4u (by decide)) (rg_Smono f8_0 (by decide) (by decide) (by decide) (by decide)) (rg_Smono f9_0 (by decide) (by decide) (by decide) (by decide)) (rg_Smono f10_0 (by decide) (by decide) (by decide) (by decide)) (rg_Smono f11_0 (by decide) (by decide) (by decide) (by decide))) (cwV 3 hts gX10_dawns_X4_plan rfl rfl rfl (by decide +kernel) ⟨Nat.le_of_ble_eq_true rfl, Nat.le_of_ble_eq_true rfl⟩) hP hD hS hA [3, 4, 5, 6, 7, 8, 9, 10, 11] [0, 1, 2] rfl rfl rfl rfl (by decide) 0 4 rfl rfl rfl hl.1 rfl (Nat.le_of_ble_eq_true rfl) dX10_dawns_22 ⟨Nat.le_of_ble_eq_true rfl, Nat.le_of_ble_eq_true rfl⟩ (fun r2 u1 H locs hp hP hD hS => ?_)
  rcases hp with ⟨hr, ⟨u1l1, u1h1⟩, u1f1_0, -⟩ | ⟨hr, ⟨u1l0, u1h0⟩, ⟨u1l1, u1h1⟩, u1f1_0, -⟩
  · subst hr
    have hP : va_P D vwCl [(q0, .inr (10, [.ref q12, .ref q6, .ref q1, .ref q13, .ref q14, .int s0_5, .ref q2, .ref q15, .ref q16, .ref q3, .ref q17, .ref q18])), (q1, .inr (8, [.ref q4, .int s1_1, .int s1_2, .int s1_3, .int s1_4, .int s1_5])), (q2, .inr (5, [.ref q10, .ref q19, .ref q20, .ref q21, .int s2_4, .ref q22, .ref q23, .int s2_7])), (q3, .inr (4, [.ref q11, .int (u1.1 0), .ref q5, .int (u1.1 1)])), (q4, .inl (cA 0, 9, .inl f4)), (q5, .inl (cA 0, 9, .inl (u1.2.1 0))), (q6, .inr (2, [.int s6_0, .int s6_1, .int s6_2, .int s6_3, .int s6_4, .ref q24, .ref q25, .ref q26, .ref q27, .ref q28, .ref q9, .ref q7, .ref q8])), (q7, .inl (cA 0, 6, .inl f7)), (q8, .inl (cA 0, 6, .inl f8)), (q9, .inl (cA 0, 6, .inl f9)), (q10, .inl (cA 0, 9, .inl f10)), (q11, .inl (cA 0, 5, .inl (u1.2.1 1)))] H := hP
    have hD : va_D A [(q0, .inr (10, [.ref q12, .ref q6, .ref q1, .ref q13, .ref q14, .int s0_5, .ref q2, .ref q15, .ref q16, .ref q3, .ref q17, .ref q18])), (q1, .inr (8, [.ref q4, .int s1_1, .int s1_2, .int s1_3, .int s1_4, .int s1_5])), (q2, .inr (5, [.ref q10, .ref q19, .ref q20, .ref q21, .int s2_4, .ref q22, .ref q23, .int s2_7])), (q3, .inr (4, [.ref q11, .int (u1.1 0), .ref q5, .int (u1.1 1)])), (q4, .inl (cA 0, 9, .inl f4)), (q5, .inl (cA 0, 9, .inl (u1.2.1 0))), (q6, .inr (2, [.int s6_0, .int s6_1, .int s6_2, .int s6_3, .int s6_4, .ref q24, .ref q25, .ref q26, .ref q27, .ref q28, .ref q9, .ref q7, .ref q8])), (q7, .inl (cA 0, 6, .inl f7)), (q8, .inl (cA 0, 6, .inl f8)), (q9, .inl (cA 0, 6, .inl f9)), (q10, .inl (cA 0, 9, .inl f10)), (q11, .inl (cA 0, 5, .inl (u1.2.1 1)))] := hD
    refine lv_if_ne (tgt := 30) hx hb dX10_dawns_25 (by decide) (fun c => absurd (by decide) c) (fun _ => ?_)
    refine lv_iconst (v := (-1)) hx hb dX10_dawns_28 (by decide) ?_
    exact ms_iret hx hb hr hlk (fun i => [(u1.1 0), (u1.1 1)].getD i 0, fun i => [(u1.2.1 0), (u1.2.1 1)].getD i ms_z, fun i => [].getD i 0) ⟨⟨rg_le (by decide : (-1 : Int) ≤ ((-1) : Int32).toInt) (by decide), rg_ge (by decide : ((-1) : Int32).toInt ≤ -1) (by decide)⟩, ⟨rg_le u1l1 (by decide), rg_ge u1h1 (by decide)⟩, rg_Smono u1f1_0 (by decide) (by decide) (by decide) (by decide), trivial⟩ hP hD hS (Nat.le_of_ble_eq_true rfl) (Nat.le_of_ble_eq_true rfl) dX10_dawns_29
  · subst hr
    have hP : va_P D vwCl [(q0, .inr (10, [.ref q12, .ref q6, .ref q1, .ref q13, .ref q14, .int s0_5, .ref q2, .ref q15, .ref q16, .ref q3, .ref q17, .ref q18])), (q1, .inr (8, [.ref q4, .int s1_1, .int s1_2, .int s1_3, .int s1_4, .int s1_5])), (q2, .inr (5, [.ref q10, .ref q19, .ref q20, .ref q21, .int s2_4, .ref q22, .ref q23, .int s2_7])), (q3, .inr (4, [.ref q11, .int (u1.1 0), .ref q5, .int (u1.1 1)])), (q4, .inl (cA 0, 9, .inl f4)), (q5, .inl (cA 0, 9, .inl (u1.2.1 0))), (q6, .inr (2, [.int s6_0, .int s6_1, .int s6_2, .int s6_3, .int s6_4, .ref q24, .ref q25, .ref q26, .ref q27, .ref q28, .ref q9, .ref q7, .ref q8])), (q7, .inl (cA 0, 6, .inl f7)), (q8, .inl (cA 0, 6, .inl f8)), (q9, .inl (cA 0, 6, .inl f9)), (q10, .inl (cA 0, 9, .inl f10)), (q11, .inl (cA 0, 5, .inl (u1.2.1 1)))] H := hP
    have hD : va_D A [(q0, .inr (10, [.ref q12, .ref q6, .ref q1, .ref q13, .ref q14, .int s0_5, .ref q2, .ref q15, .ref q16, .ref q3, .ref q17, .ref q18])), (q1, .inr (8, [.ref q4, .int s1_1, .int s1_2, .int s1_3, .int s1_4, .int s1_5])), (q2, .inr (5, [.ref q10, .ref q19, .ref q20, .ref q21, .int s2_4, .ref q22, .ref q23, .int s2_7])), (q3, .inr (4, [.ref q11, .int (u1.1 0), .ref q5, .int (u1.1 1)])), (q4, .inl (cA 0, 9, .inl f4)), (q5, .inl (cA 0, 9, .inl (u1.2.1 0))), (q6, .inr (2, [.int s6_0, .int s6_1, .int s6_2, .int s6_3, .int s6_4, .ref q24, .ref q25, .ref q26, .ref q27, .ref q28, .ref q9, .ref q7, .ref q8])), (q7, .inl (cA 0, 6, .inl f7)), (q8, .inl (cA 0, 6, .inl f8)), (q9, .inl (cA 0, 6, .inl f9)), (q10, .inl (cA 0, 9, .inl f10)), (q11, .inl (cA 0, 5, .inl (u1.2.1 1)))] := hD
    refine lv_if_ne (tgt := 30) hx hb dX10_dawns_25 (by decide) (fun _ => ?_) (fun c => absurd c (by decide))
    refine lv_iload_n hx hb dX10_dawns_30 rfl (lv_at hl 1 rfl) ?_
    refine lv_iconst (v := (-1)) hx hb dX10_dawns_31 (by decide) ?_
    refine lv_icmp_ne (tgt := 43) hx hb dX10_dawns_32 (by decide) (fun c3 => ?_) (fun c3 => ?_)
    · refine lv_iload_n hx hb dX10_dawns_43 rfl (lv_at hl 1 rfl) ?_
      have jn7 : ∀ (x4 : Int32) (H : Heap) (locs : List Loc) (ls : Array Slot), (-1) ≤ x4.toInt → x4.toInt ≤ 8 → va_P D vwCl [(q0, .inr (10, [.ref q12, .ref q6, .ref q1, .ref q13, .ref q14, .int s0_5, .ref q2, .ref q15, .ref q16, .ref q3, .ref q17, .ref q18])), (q1, .inr (8, [.ref q4, .int s1_1, .int s1_2, .int s1_3, .int s1_4, .int s1_5])), (q2, .inr (5, [.ref q10, .ref q19, .ref q20, .ref q21, .int s2_4, .ref q22, .ref q23, .int s2_7])), (q3, .inr (4, [.ref q11, .int (u1.1 0), .ref q5, .int (u1.1 1)])), (q4, .inl (cA 0, 9, .inl f4)), (q5, .inl (cA 0, 9, .inl (u1.2.1 0))), (q6, .inr (2, [.int s6_0, .int s6_1, .int s6_2, .int s6_3, .int s6_4, .ref q24, .ref q25, .ref q26, .ref q27, .ref q28, .ref q9, .ref q7, .ref q8])), (q7, .inl (cA 0, 6, .inl f7)), (q8, .inl (cA 0, 6, .inl f8)), (q9, .inl (cA 0, 6, .inl f9)), (q10, .inl (cA 0, 9, .inl f10)), (q11, .inl (cA 0, 5, .inl (u1.2.1 1)))] H → va_D A [(q0, .inr (10, [.ref q12, .ref q6, .ref q1, .ref q13, .ref q14, .int s0_5, .ref q2, .ref q15, .ref q16, .ref q3, .ref q17, .ref q18])), (q1, .inr (8, [.ref q4, .int s1_1, .int s1_2, .int s1_3, .int s1_4, .int s1_5])), (q2, .inr (5, [.ref q10, .ref q19, .ref q20, .ref q21, .int s2_4, .ref q22, .ref q23, .int s2_7])), (q3, .inr (4, [.ref q11, .int (u1.1 0), .ref q5, .int (u1.1 1)])), (q4, .inl (cA 0, 9, .inl f4)), (q5, .inl (cA 0, 9, .inl (u1.2.1 0))), (q6, .inr (2, [.int s6_0, .int s6_1, .int s6_2, .int s6_3, .int s6_4, .ref q24, .ref q25, .ref q26, .ref q27, .ref q28, .ref q9, .ref q7, .ref q8])), (q7, .inl (cA 0, 6, .inl f7)), (q8, .inl (cA 0, 6, .inl f8)), (q9, .inl (cA 0, 6, .inl f9)), (q10, .inl (cA 0, 9, .inl f10)), (q11, .inl (cA 0, 5, .inl (u1.2.1 1)))] → va_S A s.heap H locs → lv_has ls 2 [(0, .ref q0), (1, .int a0)] → W p l e ({ frames := 10, cells := 0, slots := 0, locals := 263 } : Room) s m args below meth c H locs 0 0 (MQ below (ms_Qi D A (fun (r : Int32) (u : ((Nat → Int32) × (Nat → Nat → Int32) × (Nat → Int64))) => ((-1) ≤ r.toInt ∧ r.toInt ≤ 8) ∧ (0 ≤ (u.1 1).toInt ∧ (u.1 1).toInt ≤ 255) ∧ rg_S (u.2.1 1) 0 5 0 8 ∧ True) (fun (u : ((Nat → Int32) × (Nat → Nat → Int32) × (Nat → Int64))) => [(q0, .inr (10, [.ref q12, .ref q6, .ref q1, .ref q13, .ref q14, .int s0_5, .ref q2, .ref q15, .ref q16, .ref q3, .ref q17, .ref q18])), (q1, .inr (8, [.ref q4, .int s1_1, .int s1_2, .int s1_3, .int s1_4, .int s1_5])), (q2, .inr (5, [.ref q10, .ref q19, .ref q20, .ref q21, .int s2_4, .ref q22, .ref q23, .int s2_7])), (q3, .inr (4, [.ref q11, .int (u.1 0), .ref q5, .int (u.1 1)])), (q4, .inl (cA 0, 9, .inl f4)), (q5, .inl (cA 0, 9, .inl (u.2.1 0))), (q6, .inr (2, [.int s6_0, .int s6_1, .int s6_2, .int s6_3, .int s6_4, .ref q24, .ref q25, .ref q26, .ref q27, .ref q28, .ref q9, .ref q7, .ref q8])), (q7, .inl (cA 0, 6, .inl f7)), (q8, .inl (cA 0, 6, .inl f8)), (q9, .inl (cA 0, 6, .inl f9)), (q10, .inl (cA 0, 9, .inl f10)), (q11, .inl (cA 0, 5, .inl (u.2.1 1)))])) args s 0 0 A) (F0 m 71 ls [.int x4]) := by
        intro x4 H locs ls l5 u6  hP hD hS hl
        exact ms_iret hx hb hr hlk (fun i => [(u1.1 0), (u1.1 1)].getD i 0, fun i => [(u1.2.1 0), (u1.2.1 1)].getD i ms_z, fun i => [].getD i 0) ⟨⟨rg_le l5 (by decide), rg_ge u6 (by decide)⟩, ⟨rg_le u1l1 (by decide), rg_ge u1h1 (by decide)⟩, rg_Smono u1f1_0 (by decide) (by decide) (by decide) (by decide), trivial⟩ hP hD hS (Nat.le_of_ble_eq_true rfl) (Nat.le_of_ble_eq_true rfl) dX10_dawns_71
      refine lv_if_lt (tgt := 70) hx hb dX10_dawns_44 (by decide) (fun c8 => ?_) (fun c8 => ?_)
      · have h9 : a0.toInt ≤ (-1) := rg_lt_hi c8 (by decide : (0 : Int32).toInt ≤ 0) (by decide)
        refine lv_iconst (v := (-1)) hx hb dX10_dawns_70 (by decide) ?_
        exact jn7 (-1) _ _ _ (rg_le (by decide : (-1 : Int) ≤ ((-1) : Int32).toInt) (by decide)) (rg_ge (by decide : ((-1) : Int32).toInt ≤ -1) (by decide))  hP hD hS (lv_sub hl [0, 1] rfl)
      · have h10 : 0 ≤ a0.toInt := rg_le_lo (rg_nlt c8) (by decide : (0 : Int) ≤ (0 : Int32).toInt)
        refine lv_iload_n hx hb dX10_dawns_47 rfl (lv_at hl 1 rfl) ?_
        refine lv_aload_n hx hb dX10_dawns_48 rfl (lv_at hl 0 rfl) ?_
        refine va_get (D := D) (ci := 10) (v := .ref q3) (C := RX10) (T := TX10) (N := 12) hx hb hts hnX10 hown hE.1 hP 0 rfl rfl 9 (by decide) (hts (.fieldLink RX10 68 "MovedStones" "nights" "LMovedStones$Nights;") (List.mem_cons_of_mem _ (List.mem_append_left _ (List.mem_append_left _ (List.mem_append_left _ (List.mem_append_left _ (List.mem_append_left _ (List.mem_append_left _ (List.mem_of_getElem? (i := 0) rfl))))))))) (fun _ h9 => h9) rfl dX10_dawns_49 ?_
        refine va_get (D := D) (ci := 4) (v := .int (u1.1 0)) (C := RX4) (T := TX4) (N := 4) hx hb hts hnX4 hown hE.1 hP 3 rfl rfl 1 (by decide) (hts (.fieldLink RX10 282 "MovedStones$Nights" "count" "I") (List.mem_cons_of_mem _ (List.mem_append_left _ (List.mem_append_left _ (List.mem_append_left _ (List.mem_append_left _ (List.mem_append_left _ (List.mem_append_left _ (List.mem_of_getElem? (i := 6) rfl))))))))) (fun _ h9 => h9) rfl dX10_dawns_52 ?_
        refine lv_icmp_ge (tgt := 70) hx hb dX10_dawns_55 (by decide) (fun c11 => ?_) (fun c11 => ?_)
        · refine lv_iconst (v := (-1)) hx hb dX10_dawns_70 (by decide) ?_
          exact jn7 (-1) _ _ _ (rg_le (by decide : (-1 : Int) ≤ ((-1) : Int32).toInt) (by decide)) (rg_ge (by decide : ((-1) : Int32).toInt ≤ -1) (by decide))  hP hD hS (lv_sub hl [0, 1] rfl)
        · have h12 : a0.toInt ≤ 4 := rg_lt_hi (rg_nle c11) u1h0 (by decide)
          have h13 : 1 ≤ (u1.1 0).toInt := rg_lt_lo (rg_nle c11) h10 (by decide)
          refine lv_aload_n hx hb dX10_dawns_58 rfl (lv_at hl 0 rfl) ?_
          refine va_get (D := D) (ci := 10) (v := .ref q3) (C := RX10) (T := TX10) (N := 12) hx hb hts hnX10 hown hE.1 hP 0 rfl rfl 9 (by decide) (hts (.fieldLink RX10 68 "MovedStones" "nights" "LMovedStones$Nights;") (List.mem_cons_of_mem _ (List.mem_append_left _ (List.mem_append_left _ (List.mem_append_left _ (List.mem_append_left _ (List.mem_append_left _ (List.mem_append_left _ (List.mem_of_getElem? (i := 0) rfl))))))))) (fun _ h9 => h9) rfl dX10_dawns_59 ?_
          refine va_get (D := D) (ci := 4) (v := .ref q11) (C := RX4) (T := TX4) (N := 4) hx hb hts hnX4 hown hE.1 hP 3 rfl rfl 0 (by decide) (hts (.fieldLink RX10 283 "MovedStones$Nights" "order" "[I") (List.mem_cons_of_mem _ (List.mem_append_left _ (List.mem_append_left _ (List.mem_append_left _ (List.mem_append_left _ (List.mem_append_left _ (List.mem_append_left _ (List.mem_of_getElem? (i := 7) rfl))))))))) (fun _ h9 => h9) rfl dX10_dawns_62 ?_
          refine lv_iload_n hx hb dX10_dawns_65 rfl (lv_at hl 1 rfl) ?_
          refine rg_iald hx hb hE hP (q0 := 11) rfl h10 h12 u1f1_0 (by decide) dX10_dawns_66 (fun v14 ev14 lv14 uv14 => ?_)
          refine lv_goto (tgt := 71) hx hb dX10_dawns_67 (by decide) ?_
          exact jn7 v14 _ _ _ (rg_le lv14 (by decide)) (rg_ge uv14 (by decide))  hP hD hS (lv_sub hl [0, 1] rfl)
    · have h15 : (-1) ≤ a0.toInt := rg_eq_lo c3 (by decide : (-1 : Int) ≤ ((-1) : Int32).toInt)
      have h16 : a0.toInt ≤ (-1) := rg_eq_hi c3 (by decide : ((-1) : Int32).toInt ≤ -1)
      refine lv_aload_n hx hb dX10_dawns_35 rfl (lv_at hl 0 rfl) ?_
      refine va_get (D := D) (ci := 10) (v := .ref q3) (C := RX10) (T := TX10) (N := 12) hx hb hts hnX10 hown hE.1 hP 0 rfl rfl 9 (by decide) (hts (.fieldLink RX10 68 "MovedStones" "nights" "LMovedStones$Nights;") (List.mem_cons_of_mem _ (List.mem_append_left _ (List.mem_append_left _ (List.mem_append_left _ (List.mem_append_left _ (List.mem_append_left _ (List.mem_append_left _ (List.mem_of_getElem? (i := 0) rfl))))))))) (fun _ h9 => h9) rfl dX10_dawns_36 ?_
      refine va_get (D := D) (ci := 4) (v := .int (u1.1 0)) (C := RX4) (T := TX4) (N := 4) hx hb hts hnX4 hown hE.1 hP 3 rfl rfl 1 (by decide) (hts (.fieldLink RX10 282 "MovedStones$Nights" "count" "I") (List.mem_cons_of_mem _ (List.mem_append_left _ (List.mem_append_left _ (List.mem_append_left _ (List.mem_append_left _ (List.mem_append_left _ (List.mem_append_left _ (List.mem_of_getElem? (i := 6) rfl))))))))) (fun _ h9 => h9) rfl dX10_dawns_39 ?_
      exact ms_iret hx hb hr hlk (fun i => [(u1.1 0), (u1.1 1)].getD i 0, fun i => [(u1.2.1 0), (u1.2.1 1)].getD i ms_z, fun i => [].getD i 0) ⟨⟨rg_le u1l0 (by decide), rg_ge u1h0 (by decide)⟩, ⟨rg_le u1l1 (by decide), rg_ge u1h1 (by decide)⟩, rg_Smono u1f1_0 (by decide) (by decide) (by decide) (by decide), trivial⟩ hP hD hS (Nat.le_of_ble_eq_true rfl) (Nat.le_of_ble_eq_true rfl) dX10_dawns_42
set_option maxHeartbeats 4000000 in
set_option maxRecDepth 100000 in
theorem kX7_compare_1 (l : Launch) (D : va_G) (cA : Nat → ClassId) (q0 : Nat) (s0_0 : Int32) (s0_1 : Int32) (s0_2 : Int32) (s0_3 : Int32) (a0 : Int32) (a1 : Int32) (a2 : Int32) (s0_3l : 0 ≤ s0_3.toInt) (s0_3u : s0_3.toInt ≤ 5) (a0l : 0 ≤ a0.toInt) (a0u : a0.toInt ≤ 63) : ms_Mv l yX7_compare wsX7_compare ({ frames := 0, cells := 0, slots := 0, locals := 0 } : Room) D cA [.ref q0, .int a0, .int a1, .int a2] [(q0, .inr (7, [.int s0_0, .int s0_1, .int s0_2, .int s0_3]))] (fun (u : ((Nat → Int32) × (Nat → Nat → Int32) × (Nat → Int64))) => True) (fun (u : ((Nat → Int32) × (Nat → Nat → Int32) × (Nat → Int64))) => [(q0, .inr (7, [.int (u.1 0), .int (u.1 1), .int (u.1 2), .int s0_3]))]) := by
  refine ms_Mv_of (cc := cX7_compare) (maxL := 5) (ret := none) (by decide) rfl (Nat.le_of_ble_eq_true rfl) ?_
  intro p e s m args below meth c A ls hB hE hA hP hD hS hl
  obtain ⟨hx, hb, hr, hml, hown, hts, hlk, hnm⟩ := hB
  have hown : s.vm.findClass RX7 = some m.cls := hown
  have hnX7 : ∀ w ∈ u_ws RX7 TX7 4, w ∈ wsX7_compare := fun _ h => List.mem_cons_of_mem _ (List.mem_append_right _ (h))
  have hl : lv_has ls 5 [(0, .ref q0), (1, .int a0), (2, .int a1), (3, .int a2)] := hl
  refine lv_aload_n hx hb dX7_compare_0 rfl (lv_at hl 0 rfl) ?_
  refine va_get (D := D) (ci := 7) (v := .int s0_2) (C := RX7) (T := TX7) (N := 4) hx hb hts hnX7 hown hE.1 hP 0 rfl rfl 2 (by decide) (hts (.fieldLink RX7 15 "MovedStones$Rounds" "roadSet" "I") (List.mem_cons_of_mem _ (List.mem_append_left _ (List.mem_of_getElem? (i := 0) rfl)))) (fun _ h9 => h9) rfl dX7_compare_1 ?_
  have jn4 : ∀ (x1 : Int32) (H : Heap) (locs : List Loc) (ls : Array Slot), 0 ≤ x1.toInt → x1.toInt ≤ 1 → va_P D vwCl [(q0, .inr (7, [.int s0_0, .int s0_1, .int s0_2, .int s0_3]))] H → va_D A [(q0, .inr (7, [.int s0_0, .int s0_1, .int s0_2, .int s0_3]))] → va_S A s.heap H locs → lv_has ls 5 [(0, .ref q0), (1, .int a0), (2, .int a1), (3, .int a2)] → W p l e ({ frames := 0, cells := 0, slots := 0, locals := 0 } : Room) s m args below meth c H locs 0 0 (MQ below (ms_Qv D A (fun (u : ((Nat → Int32) × (Nat → Nat → Int32) × (Nat → Int64))) => True) (fun (u : ((Nat → Int32) × (Nat → Nat → Int32) × (Nat → Int64))) => [(q0, .inr (7, [.int (u.1 0), .int (u.1 1), .int (u.1 2), .int s0_3]))])) args s 0 0 A) (F0 m 20 ls [.int x1]) := by
    intro x1 H locs ls l2 u3  hP hD hS hl
    refine lv_istore (lv' := [(4, .int x1), (0, .ref q0), (1, .int a0), (2, .int a1), (3, .int a2)]) hx hb dX7_compare_20 hl (by decide) rfl (fun ls hl => ?_)
    refine lv_iload hx hb dX7_compare_22 (lv_at hl 0 rfl) ?_
    have jn8 : ∀ (x5 : Int32) (H : Heap) (locs : List Loc) (ls : Array Slot), 0 ≤ x5.toInt → x5.toInt ≤ 1 → va_P D vwCl [(q0, .inr (7, [.int s0_0, .int s0_1, .int s0_2, .int s0_3]))] H → va_D A [(q0, .inr (7, [.int s0_0, .int s0_1, .int s0_2, .int s0_3]))] → va_S A s.heap H locs → lv_has ls 5 [(4, .int x5), (0, .ref q0), (1, .int a0), (2, .int a1), (3, .int a2)] → W p l e ({ frames := 0, cells := 0, slots := 0, locals := 0 } : Room) s m args below meth c H locs 0 0 (MQ below (ms_Qv D A (fun (u : ((Nat → Int32) × (Nat → Nat → Int32) × (Nat → Int64))) => True) (fun (u : ((Nat → Int32) × (Nat → Nat → Int32) × (Nat → Int64))) => [(q0, .inr (7, [.int (u.1 0), .int (u.1 1), .int (u.1 2), .int s0_3]))])) args s 0 0 A) (F0 m 66 ls []) := by
      intro x5 H locs ls l6 u7  hP hD hS hl
      refine lv_iload hx hb dX7_compare_66 (lv_at hl 0 rfl) ?_
      have jn12 : ∀ (x9 : Int32) (x10 : Int32) (x11 : Int32) (H : Heap) (locs : List Loc) (ls : Array Slot), va_P D vwCl [(q0, .inr (7, [.int x9, .int x10, .int x11, .int s0_3]))] H → va_D A [(q0, .inr (7, [.int x9, .int x10, .int x11, .int s0_3]))] → va_S A s.heap H locs → lv_has ls 5 [(4, .int x5), (0, .ref q0), (1, .int a0), (2, .int a1), (3, .int a2)] → W p l e ({ frames := 0, cells := 0, slots := 0, locals := 0 } : Room) s m args below meth c H locs 0 0 (MQ below (ms_Qv D A (fun (u : ((Nat → Int32) × (Nat → Nat → Int32) × (Nat → Int64))) => True) (fun (u : ((Nat → Int32) × (Nat → Nat → Int32) × (Nat → Int64))) => [(q0, .inr (7, [.int (u.1 0), .int (u.1 1), .int (u.1 2), .int s0_3]))])) args s 0 0 A) (F0 m 86 ls []) := by
        intro x9 x10 x11 H locs ls   hP hD hS hl
        exact ms_vret hx hb hr hlk (fun i => [x9, x10, x11].getD i 0, fun i => [].getD i ms_z, fun i => [].getD i 0) trivial hP hD hS (Nat.le_of_ble_eq_true rfl) (Nat.le_of_ble_eq_true rfl) dX7_compare_86
      refine lv_if_eq (tgt := 86) hx hb dX7_compare_68 (by decide) (fun c13 => ?_) (fun c13 => ?_)
      · have h14 : x5.toInt ≤ 0 := rg_eq_hi c13 (by decide : (0 : Int32).toInt ≤ 0)
        exact jn12 s0_0 s0_1 s0_2 _ _ _   hP hD hS (lv_sub hl [0, 1, 2, 3, 4] rfl)
      · have h15 : 1 ≤ x5.toInt := rg_ne_lo c13 l6 (by decide : (0 : Int) ≤ (0 : Int32).toInt) (by decide : (0 : Int32).toInt ≤ 0) (by decide)
        refine lv_aload_n hx hb dX7_compare_71 rfl (lv_at hl 1 rfl) ?_
        refine lv_iload_n hx hb dX7_compare_72 rfl (lv_at hl 4 rfl) ?_
        refine va_put (D := D) (ci := 7) (v := .int a2) (ty := tyX7 0) (C := RX7) (T := TX7) (N := 4) hx hb hts hnX7 tyX7 tyX7_ok nmX7 hown hE.1 hP hD hS 0 rfl rfl 0 (by decide) (hts (.fieldLink RX7 18 "MovedStones$Rounds" "gain" "I") (List.mem_cons_of_mem _ (List.mem_append_left _ (List.mem_of_getElem? (i := 1) rfl)))) (fun _ h9 => h9) rfl (tyX7_ok 0 (by decide)) rfl rfl (Nat.le_of_ble_eq_true rfl) dX7_compare_73 (fun H locs hP hD hS => ?_)
        have hP : va_P D vwCl [(q0, .inr (7, [.int a2, .int s0_1, .int s0_2, .int s0_3]))] H := hP
        have hD : va_D A [(q0, .inr (7, [.int a2, .int s0_1, .int s0_2, .int s0_3]))] := hD
        refine lv_aload_n hx hb dX7_compare_76 rfl (lv_at hl 1 rfl) ?_
        refine lv_iload_n hx hb dX7_compare_77 rfl (lv_at hl 2 rfl) ?_
        refine va_put (D := D) (ci := 7) (v := .int a0) (ty := tyX7 1) (C := RX7) (T := TX7) (N := 4) hx hb hts hnX7 tyX7 tyX7_ok nmX7 hown hE.1 hP hD hS 0 rfl rfl 1 (by decide) (hts (.fieldLink RX7 9 "MovedStones$Rounds" "townSet" "I") (List.mem_cons_of_mem _ (List.mem_append_left _ (List.mem_of_getElem? (i := 2) rfl)))) (fun _ h9 => h9) rfl (tyX7_ok 1 (by decide)) rfl rfl (Nat.le_of_ble_eq_true rfl) dX7_compare_78 (fun H locs hP hD hS => ?_)
        have hP : va_P D vwCl [(q0, .inr (7, [.int a2, .int a0, .int s0_2, .int s0_3]))] H := hP
        have hD : va_D A [(q0, .inr (7, [.int a2, .int a0, .int s0_2, .int s0_3]))] := hD
        refine lv_aload_n hx hb dX7_compare_81 rfl (lv_at hl 1 rfl) ?_
        refine lv_iload_n hx hb dX7_compare_82 rfl (lv_at hl 3 rfl) ?_
        refine va_put (D := D) (ci := 7) (v := .int a1) (ty := tyX7 2) (C := RX7) (T := TX7) (N := 4) hx hb hts hnX7 tyX7 tyX7_ok nmX7 hown hE.1 hP hD hS 0 rfl rfl 2 (by decide) (hts (.fieldLink RX7 15 "MovedStones$Rounds" "roadSet" "I") (List.mem_cons_of_mem _ (List.mem_append_left _ (List.mem_of_getElem? (i := 0) rfl)))) (fun _ h9 => h9) rfl (tyX7_ok 2 (by decide)) rfl rfl (Nat.le_of_ble_eq_true rfl) dX7_compare_83 (fun H locs hP hD hS => ?_)
        have hP : va_P D vwCl [(q0, .inr (7, [.int a2, .int a0, .int a1, .int s0_3]))] H := hP
        have hD : va_D A [(q0, .inr (7, [.int a2, .int a0, .int a1, .int s0_3]))] := hD
        exact jn12 a2 a0 a1 _ _ _   hP hD hS (lv_sub hl [0, 1, 2, 3, 4] rfl)
    refine lv_if_ne (tgt := 66) hx hb dX7_compare_24 (by decide) (fun c16 => ?_) (fun c16 => ?_)
    · have h17 : 1 ≤ x1.toInt := rg_ne_lo c16 l2 (by decide : (0 : Int) ≤ (0 : Int32).toInt) (by decide : (0 : Int32).toInt ≤ 0) (by decide)
      exact jn8 x1 _ _ _ (rg_le h17 (by decide)) (rg_ge u3 (by decide))  hP hD hS (lv_sub hl [0, 1, 2, 3, 4] rfl)
    · have h18 : x1.toInt ≤ 0 := rg_eq_hi c16 (by decide : (0 : Int32).toInt ≤ 0)
      refine lv_iload_n hx hb dX7_compare_27 rfl (lv_at hl 4 rfl) ?_
      refine lv_aload_n hx hb dX7_compare_28 rfl (lv_at hl 1 rfl) ?_
      refine va_get (D := D) (ci := 7) (v := .int s0_0) (C := RX7) (T := TX7) (N := 4) hx hb hts hnX7 hown hE.1 hP 0 rfl rfl 0 (by decide) (hts (.fieldLink RX7 18 "MovedStones$Rounds" "gain" "I") (List.mem_cons_of_mem _ (List.mem_append_left _ (List.mem_of_getElem? (i := 1) rfl)))) (fun _ h9 => h9) rfl dX7_compare_29 ?_
      refine lv_icmp_ne (tgt := 66) hx hb dX7_compare_32 (by decide) (fun c19 => ?_) (fun c19 => ?_)
      · exact jn8 x1 _ _ _ (rg_le l2 (by decide)) (rg_ge h18 (by decide))  hP hD hS (lv_sub hl [0, 1, 2, 3, 4] rfl)
      · refine lv_iload_n hx hb dX7_compare_35 rfl (lv_at hl 2 rfl) ?_
        refine lv_aload_n hx hb dX7_compare_36 rfl (lv_at hl 1 rfl) ?_
        refine va_get (D := D) (ci := 7) (v := .int s0_1) (C := RX7) (T := TX7) (N := 4) hx hb hts hnX7 hown hE.1 hP 0 rfl rfl 1 (by decide) (hts (.fieldLink RX7 9 "MovedStones$Rounds" "townSet" "I") (List.mem_cons_of_mem _ (List.mem_append_left _ (List.mem_of_getElem? (i := 2) rfl)))) (fun _ h9 => h9) rfl dX7_compare_37 ?_
        have jn23 : ∀ (x20 : Int32) (H : Heap) (locs : List Loc) (ls : Array Slot), 0 ≤ x20.toInt → x20.toInt ≤ 1 → va_P D vwCl [(q0, .inr (7, [.int s0_0, .int s0_1, .int s0_2, .int s0_3]))] H → va_D A [(q0, .inr (7, [.int s0_0, .int s0_1, .int s0_2, .int s0_3]))] → va_S A s.heap H locs → lv_has ls 5 [(4, .int x1), (0, .ref q0), (1, .int a0), (2, .int a1), (3, .int a2)] → W p l e ({ frames := 0, cells := 0, slots := 0, locals := 0 } : Room) s m args below meth c H locs 0 0 (MQ below (ms_Qv D A (fun (u : ((Nat → Int32) × (Nat → Nat → Int32) × (Nat → Int64))) => True) (fun (u : ((Nat → Int32) × (Nat → Nat → Int32) × (Nat → Int64))) => [(q0, .inr (7, [.int (u.1 0), .int (u.1 1), .int (u.1 2), .int s0_3]))])) args s 0 0 A) (F0 m 64 ls [.int x20]) := by
          intro x20 H locs ls l21 u22  hP hD hS hl
          refine lv_istore (lv' := [(4, .int x20), (0, .ref q0), (1, .int a0), (2, .int a1), (3, .int a2)]) hx hb dX7_compare_64 hl (by decide) rfl (fun ls hl => ?_)
          exact jn8 x20 _ _ _ (rg_le l21 (by decide)) (rg_ge u22 (by decide))  hP hD hS (lv_sub hl [0, 1, 2, 3, 4] rfl)
        refine lv_icmp_lt (tgt := 59) hx hb dX7_compare_40 (by decide) (fun c24 => ?_) (fun c24 => ?_)
        · have h25 : 1 ≤ s0_1.toInt := rg_lt_lo c24 a0l (by decide)
          refine lv_iconst (v := 1) hx hb dX7_compare_59 (by decide) ?_
          refine lv_goto (tgt := 64) hx hb dX7_compare_60 (by decide) ?_
          exact jn23 1 _ _ _ (rg_le (by decide : (1 : Int) ≤ (1 : Int32).toInt) (by decide)) (rg_ge (by decide : (1 : Int32).toInt ≤ 1) (by decide))  hP hD hS (lv_sub hl [0, 1, 2, 3, 4] rfl)
        · have h26 : s0_1.toInt ≤ 63 := rg_le_hi (rg_nlt c24) a0u
          refine lv_iload_n hx hb dX7_compare_43 rfl (lv_at hl 2 rfl) ?_
          refine lv_aload_n hx hb dX7_compare_44 rfl (lv_at hl 1 rfl) ?_
          refine va_get (D := D) (ci := 7) (v := .int s0_1) (C := RX7) (T := TX7) (N := 4) hx hb hts hnX7 hown hE.1 hP 0 rfl rfl 1 (by decide) (hts (.fieldLink RX7 9 "MovedStones$Rounds" "townSet" "I") (List.mem_cons_of_mem _ (List.mem_append_left _ (List.mem_of_getElem? (i := 2) rfl)))) (fun _ h9 => h9) rfl dX7_compare_45 ?_
          refine lv_icmp_ne (tgt := 63) hx hb dX7_compare_48 (by decide) (fun c27 => ?_) (fun c27 => ?_)
          · refine lv_iconst (v := 0) hx hb dX7_compare_63 (by decide) ?_
            exact jn23 0 _ _ _ (rg_le (by decide : (0 : Int) ≤ (0 : Int32).toInt) (by decide)) (rg_ge (by decide : (0 : Int32).toInt ≤ 0) (by decide))  hP hD hS (lv_sub hl [0, 1, 2, 3, 4] rfl)
          · have h28 : 0 ≤ s0_1.toInt := rg_eq_lo c27.symm a0l
            refine lv_iload_n hx hb dX7_compare_51 rfl (lv_at hl 3 rfl) ?_
            refine lv_aload_n hx hb dX7_compare_52 rfl (lv_at hl 1 rfl) ?_
            refine va_get (D := D) (ci := 7) (v := .int s0_2) (C := RX7) (T := TX7) (N := 4) hx hb hts hnX7 hown hE.1 hP 0 rfl rfl 2 (by decide) (hts (.fieldLink RX7 15 "MovedStones$Rounds" "roadSet" "I") (List.mem_cons_of_mem _ (List.mem_append_left _ (List.mem_of_getElem? (i := 0) rfl)))) (fun _ h9 => h9) rfl dX7_compare_53 ?_
            refine lv_icmp_ge (tgt := 63) hx hb dX7_compare_56 (by decide) (fun c29 => ?_) (fun c29 => ?_)
            · refine lv_iconst (v := 0) hx hb dX7_compare_63 (by decide) ?_
              exact jn23 0 _ _ _ (rg_le (by decide : (0 : Int) ≤ (0 : Int32).toInt) (by decide)) (rg_ge (by decide : (0 : Int32).toInt ≤ 0) (by decide))  hP hD hS (lv_sub hl [0, 1, 2, 3, 4] rfl)
            · have h30 : a1.toInt ≤ 2147483646 := rg_lt_hi (rg_nle c29) (rg_max s0_2) (by decide)
              have h31 : (-2147483647) ≤ s0_2.toInt := rg_lt_lo (rg_nle c29) (rg_min a1) (by decide)
              refine lv_iconst (v := 1) hx hb dX7_compare_59 (by decide) ?_
              refine lv_goto (tgt := 64) hx hb dX7_compare_60 (by decide) ?_
              exact jn23 1 _ _ _ (rg_le (by decide : (1 : Int) ≤ (1 : Int32).toInt) (by decide)) (rg_ge (by decide : (1 : Int32).toInt ≤ 1) (by decide))  hP hD hS (lv_sub hl [0, 1, 2, 3, 4] rfl)
  refine lv_if_eq (tgt := 15) hx hb dX7_compare_4 (by decide) (fun c32 => ?_) (fun c32 => ?_)
  · have h33 : 0 ≤ s0_2.toInt := rg_eq_lo c32 (by decide : (0 : Int) ≤ (0 : Int32).toInt)
    have h34 : s0_2.toInt ≤ 0 := rg_eq_hi c32 (by decide : (0 : Int32).toInt ≤ 0)
    refine lv_iconst (v := 1) hx hb dX7_compare_15 (by decide) ?_
    refine lv_goto (tgt := 20) hx hb dX7_compare_16 (by decide) ?_
    exact jn4 1 _ _ _ (rg_le (by decide : (1 : Int) ≤ (1 : Int32).toInt) (by decide)) (rg_ge (by decide : (1 : Int32).toInt ≤ 1) (by decide))  hP hD hS (lv_sub hl [0, 1, 2, 3] rfl)
  · refine lv_iload_n hx hb dX7_compare_7 rfl (lv_at hl 3 rfl) ?_
    refine lv_aload_n hx hb dX7_compare_8 rfl (lv_at hl 0 rfl) ?_
    refine va_get (D := D) (ci := 7) (v := .int s0_0) (C := RX7) (T := TX7) (N := 4) hx hb hts hnX7 hown hE.1 hP 0 rfl rfl 0 (by decide) (hts (.fieldLink RX7 18 "MovedStones$Rounds" "gain" "I") (List.mem_cons_of_mem _ (List.mem_append_left _ (List.mem_of_getElem? (i := 1) rfl)))) (fun _ h9 => h9) rfl dX7_compare_9 ?_
    refine lv_icmp_le (tgt := 19) hx hb dX7_compare_12 (by decide) (fun c35 => ?_) (fun c35 => ?_)
    · refine lv_iconst (v := 0) hx hb dX7_compare_19 (by decide) ?_
      exact jn4 0 _ _ _ (rg_le (by decide : (0 : Int) ≤ (0 : Int32).toInt) (by decide)) (rg_ge (by decide : (0 : Int32).toInt ≤ 0) (by decide))  hP hD hS (lv_sub hl [0, 1, 2, 3] rfl)
    · have h36 : s0_0.toInt ≤ 2147483646 := rg_lt_hi (rg_nle c35) (rg_max a2) (by decide)
      have h37 : (-2147483647) ≤ a2.toInt := rg_lt_lo (rg_nle c35) (rg_min s0_0) (by decide)
      refine lv_iconst (v := 1) hx hb dX7_compare_15 (by decide) ?_
      refine lv_goto (tgt := 20) hx hb dX7_compare_16 (by decide) ?_
      exact jn4 1 _ _ _ (rg_le (by decide : (1 : Int) ≤ (1 : Int32).toInt) (by decide)) (rg_ge (by decide : (1 : Int32).toInt ≤ 1) (by decide))  hP hD hS (lv_sub hl [0, 1, 2, 3] rfl)
set_option maxHeartbeats 4000000 in
set_option maxRecDepth 100000 in
theorem kX7_extend_1 (l : Launch) (D : va_G) (cA : Nat → ClassId) (q0 q1 q2 q3 q4 q5 q6 q7 q8 q9 q10 : Nat) (s0_0 : Int32) (s0_1 : Int32) (s0_2 : Int32) (s0_3 : Int32) (s1_0 : Int32) (s1_1 : Int32) (s1_2 : Int32) (s1_3 : Int32) (s1_4 : Int32) (f2 : Nat → Int32) (f3 : Nat → Int32) (f4 : Nat → Int32) (f5 : Nat → Int32) (a0 : Int32) (a1 : Int32) (a2 : Int32) (a3 : Int32) (s0_3l : 0 ≤ s0_3.toInt) (s0_3u : s0_3.toInt ≤ 5) (s1_0l : 0 ≤ s1_0.toInt) (s1_0u : s1_0.toInt ≤ 6) (s1_1l : 0 ≤ s1_1.toInt) (s1_1u : s1_1.toInt ≤ 4) (s1_2l : 0 ≤ s1_2.toInt) (s1_2u : s1_2.toInt ≤ 9) (s1_3l : 0 ≤ s1_3.toInt) (s1_3u : s1_3.toInt ≤ 9) (s1_4l : 0 ≤ s1_4.toInt) (s1_4u : s1_4.toInt ≤ 6) (f2_0 : rg_S f2 0 9 0 5) (f3_0 : rg_S f3 0 9 0 5) (f5_0 : rg_S f5 0 9 0 99) (a0l : 0 ≤ a0.toInt) (a0u : a0.toInt ≤ 5) (a1l : 0 ≤ a1.toInt) (a1u : a1.toInt ≤ 63) (hpf : ms_pc a1 = 6) : ms_Mv l yX7_extend wsX7_extend ({ frames := 1, cells := 0, slots := 0, locals := 24 } : Room) D cA [.ref q0, .ref q1, .ref q4, .int a0, .int a1, .int a2, .int a3] [(q0, .inr (7, [.int s0_0, .int s0_1, .int s0_2, .int s0_3])), (q1, .inr (2, [.int s1_0, .int s1_1, .int s1_2, .int s1_3, .int s1_4, .ref q2, .ref q3, .ref q5, .ref q6, .ref q7, .ref q8, .ref q9, .ref q10])), (q2, .inl (cA 0, 9, .inl f2)), (q3, .inl (cA 0, 9, .inl f3)), (q4, .inl (cA 0, 9, .inl f4)), (q5, .inl (cA 0, 9, .inl f5))] (fun (u : ((Nat → Int32) × (Nat → Nat → Int32) × (Nat → Int64))) => True) (fun (u : ((Nat → Int32) × (Nat → Nat → Int32) × (Nat → Int64))) => [(q0, .inr (7, [.int (u.1 0), .int (u.1 1), .int (u.1 2), .int s0_3])), (q1, .inr (2, [.int s1_0, .int s1_1, .int s1_2, .int s1_3, .int s1_4, .ref q2, .ref q3, .ref q5, .ref q6, .ref q7, .ref q8, .ref q9, .ref q10])), (q2, .inl (cA 0, 9, .inl f2)), (q3, .inl (cA 0, 9, .inl f3)), (q4, .inl (cA 0, 9, .inl f4)), (q5, .inl (cA 0, 9, .inl f5))]) := by
  refine ms_Mv_of (cc := cX7_extend) (maxL := 10) (ret := none) (by decide) rfl (Nat.le_of_ble_eq_true rfl) ?_
  intro p e s m args below meth c A ls hB hE hA hP hD hS hl
  obtain ⟨hx, hb, hr, hml, hown, hts, hlk, hnm⟩ := hB
  have hown : s.vm.findClass RX7 = some m.cls := hown
  have hnX2 : ∀ w ∈ u_ws RX2 TX2 13, w ∈ wsX7_extend := fun _ h => List.mem_cons_of_mem _ (List.mem_append_left _ (List.mem_append_right _ (h)))
  have hnX7 : ∀ w ∈ u_ws RX7 TX7 4, w ∈ wsX7_extend := fun _ h => List.mem_cons_of_mem _ (List.mem_append_right _ (h))
  have hl : lv_has ls 10 [(0, .ref q0), (1, .ref q1), (2, .ref q4), (3, .int a0), (4, .int a1), (5, .int a2), (6, .int a3)] := hl
  refine lv_iload hx hb dX7_extend_0 (lv_at hl 4 rfl) ?_
  refine ms_cSi (wc := []) (wr := [(q0, .inr (7, [.int s0_0, .int s0_1, .int s0_2, .int s0_3])), (q1, .inr (2, [.int s1_0, .int s1_1, .int s1_2, .int s1_3, .int s1_4, .ref q2, .ref q3, .ref q5, .ref q6, .ref q7, .ref q8, .ref q9, .ref q10])), (q2, .inl (cA 0, 9, .inl f2)), (q3, .inl (cA 0, 9, .inl f3)), (q4, .inl (cA 0, 9, .inl f4)), (q5, .inl (cA 0, 9, .inl f5))]) ⟨hx, hb, hml, hown, hts⟩ hE (kJ6_bitCount_0f7a4_1 l D cA a1) (va_cwS 1 hts gX7_extend_J6_bitCount_0f7a4 rfl rfl rfl (by decide +kernel) ⟨Nat.le_of_ble_eq_true rfl, Nat.le_of_ble_eq_true rfl⟩) hP hD hS hA [] [0, 1, 2, 3, 4, 5] rfl rfl rfl rfl (by decide) rfl hl.1 rfl (Nat.le_of_ble_eq_true rfl) dX7_extend_2 ⟨Nat.le_of_ble_eq_true rfl, Nat.le_of_ble_eq_true rfl⟩ (fun r2 u1 H locs hp hP hD hS => ?_)
  obtain ⟨⟨r2l, r2u⟩, exu1, -⟩ := hp
  have hP : va_P D vwCl [(q0, .inr (7, [.int s0_0, .int s0_1, .int s0_2, .int s0_3])), (q1, .inr (2, [.int s1_0, .int s1_1, .int s1_2, .int s1_3, .int s1_4, .ref q2, .ref q3, .ref q5, .ref q6, .ref q7, .ref q8, .ref q9, .ref q10])), (q2, .inl (cA 0, 9, .inl f2)), (q3, .inl (cA 0, 9, .inl f3)), (q4, .inl (cA 0, 9, .inl f4)), (q5, .inl (cA 0, 9, .inl f5))] H := hP
  have hD : va_D A [(q0, .inr (7, [.int s0_0, .int s0_1, .int s0_2, .int s0_3])), (q1, .inr (2, [.int s1_0, .int s1_1, .int s1_2, .int s1_3, .int s1_4, .ref q2, .ref q3, .ref q5, .ref q6, .ref q7, .ref q8, .ref q9, .ref q10])), (q2, .inl (cA 0, 9, .inl f2)), (q3, .inl (cA 0, 9, .inl f3)), (q4, .inl (cA 0, 9, .inl f4)), (q5, .inl (cA 0, 9, .inl f5))] := hD
  refine lv_bipush (v := 6) hx hb dX7_extend_5 (by decide) ?_
  refine lv_icmp_le (tgt := 11) hx hb dX7_extend_7 (by decide) (fun c3 => ?_) (fun c3 => ?_)
  · have h4 : r2.toInt ≤ 6 := rg_le_hi c3 (by decide : (6 : Int32).toInt ≤ 6)
    refine lv_iconst (v := 0) hx hb dX7_extend_11 (by decide) ?_
    refine lv_istore (lv' := [(7, .int 0), (0, .ref q0), (1, .ref q1), (2, .ref q4), (3, .int a0), (4, .int a1), (5, .int a2), (6, .int a3)]) hx hb dX7_extend_12 hl (by decide) rfl (fun ls hl => ?_)
    have lp11 : ∀ (n12 : Nat) (x5 : Int32) (x8 : Int32) (x9 : Int32) (x10 : Int32) (H : Heap) (locs : List Loc) (ls : Array Slot), 0 ≤ x5.toInt → x5.toInt ≤ 9 → 9 + 1 ≤ x5.toInt + (n12 : Int) → va_P D vwCl [(q0, .inr (7, [.int x8, .int x9, .int x10, .int s0_3])), (q1, .inr (2, [.int s1_0, .int s1_1, .int s1_2, .int s1_3, .int s1_4, .ref q2, .ref q3, .ref q5, .ref q6, .ref q7, .ref q8, .ref q9, .ref q10])), (q2, .inl (cA 0, 9, .inl f2)), (q3, .inl (cA 0, 9, .inl f3)), (q4, .inl (cA 0, 9, .inl f4)), (q5, .inl (cA 0, 9, .inl f5))] H → va_D A [(q0, .inr (7, [.int x8, .int x9, .int x10, .int s0_3])), (q1, .inr (2, [.int s1_0, .int s1_1, .int s1_2, .int s1_3, .int s1_4, .ref q2, .ref q3, .ref q5, .ref q6, .ref q7, .ref q8, .ref q9, .ref q10])), (q2, .inl (cA 0, 9, .inl f2)), (q3, .inl (cA 0, 9, .inl f3)), (q4, .inl (cA 0, 9, .inl f4)), (q5, .inl (cA 0, 9, .inl f5))] → va_S A s.heap H locs → lv_has ls 10 [(7, .int x5), (0, .ref q0), (1, .ref q1), (2, .ref q4), (3, .int a0), (4, .int a1), (5, .int a2), (6, .int a3)] → W p l e ({ frames := 1, cells := 0, slots := 0, locals := 24 } : Room) s m args below meth c H locs 0 0 (MQ below (ms_Qv D A (fun (u : ((Nat → Int32) × (Nat → Nat → Int32) × (Nat → Int64))) => True) (fun (u : ((Nat → Int32) × (Nat → Nat → Int32) × (Nat → Int64))) => [(q0, .inr (7, [.int (u.1 0), .int (u.1 1), .int (u.1 2), .int s0_3])), (q1, .inr (2, [.int s1_0, .int s1_1, .int s1_2, .int s1_3, .int s1_4, .ref q2, .ref q3, .ref q5, .ref q6, .ref q7, .ref q8, .ref q9, .ref q10])), (q2, .inl (cA 0, 9, .inl f2)), (q3, .inl (cA 0, 9, .inl f3)), (q4, .inl (cA 0, 9, .inl f4)), (q5, .inl (cA 0, 9, .inl f5))])) args s 0 0 A) (F0 m 14 ls []) := by
      intro n12
      induction n12 with
      | zero => intro x5 x8 x9 x10 H locs ls l6 u7  hm14; exact (rg_m0 hm14 u7).elim
      | succ n12 ih13 =>
        intro x5 x8 x9 x10 H locs ls l6 u7  hm14 hP hD hS hl
        refine lv_iload hx hb dX7_extend_14 (lv_at hl 0 rfl) ?_
        refine lv_aload_n hx hb dX7_extend_16 rfl (lv_at hl 2 rfl) ?_
        refine va_get (D := D) (ci := 2) (v := .int s1_3) (C := RX2) (T := TX2) (N := 13) hx hb hts hnX2 hown hE.1 hP 1 rfl rfl 3 (by decide) (hts (.fieldLink RX7 39 "MovedStones$Land" "roads" "I") (List.mem_cons_of_mem _ (List.mem_append_left _ (List.mem_append_left _ (List.mem_append_left _ (List.mem_of_getElem? (i := 0) rfl)))))) (fun _ h9 => h9) rfl dX7_extend_17 ?_
        refine lv_icmp_ge (tgt := 134) hx hb dX7_extend_20 (by decide) (fun c15 => ?_) (fun c15 => ?_)
        · exact ms_vret hx hb hr hlk (fun i => [x8, x9, x10].getD i 0, fun i => [].getD i ms_z, fun i => [].getD i 0) trivial hP hD hS (Nat.le_of_ble_eq_true rfl) (Nat.le_of_ble_eq_true rfl) dX7_extend_134
        · have h16 : x5.toInt ≤ 8 := rg_lt_hi (rg_nle c15) s1_3u (by decide)
          have h17 : 1 ≤ s1_3.toInt := rg_lt_lo (rg_nle c15) l6 (by decide)
          refine lv_aload_n hx hb dX7_extend_23 rfl (lv_at hl 2 rfl) ?_
          refine lv_iload hx hb dX7_extend_24 (lv_at hl 0 rfl) ?_
          refine lv_iload_n hx hb dX7_extend_26 rfl (lv_at hl 4 rfl) ?_
          refine ms_cVi (qc := (RX2, TX2, 13)) (wc := [(q1, .inr (2, [.int s1_0, .int s1_1, .int s1_2, .int s1_3, .int s1_4, .ref q2, .ref q3, .ref q5, .ref q6, .ref q7, .ref q8, .ref q9, .ref q10])), (q2, .inl (cA 0, 9, .inl f2)), (q3, .inl (cA 0, 9, .inl f3))]) (wr := [(q0, .inr (7, [.int x8, .int x9, .int x10, .int s0_3])), (q4, .inl (cA 0, 9, .inl f4)), (q5, .inl (cA 0, 9, .inl f5))]) ⟨hx, hb, hml, hown, hts⟩ hE (kX2_otherEnd_1 l D cA q1 q2 q3 q5 q6 q7 q8 q9 q10 s1_0 s1_1 s1_2 s1_3 s1_4 f2 f3 x5 a0 (rg_le s1_0l (by decide)) (rg_ge s1_0u (by decide)) (rg_le s1_1l (by decide)) (rg_ge s1_1u (by decide)) (rg_le s1_2l (by decide)) (rg_ge s1_2u (by decide)) (rg_le h17 (by decide)) (rg_ge s1_3u (by decide)) (rg_le s1_4l (by decide)) (rg_ge s1_4u (by decide)) (rg_Smono f2_0 (by decide) (by decide) (by decide) (by decide)) (rg_Smono f3_0 (by decide) (by decide) (by decide) (by decide)) (rg_le l6 (by decide)) (rg_ge h16 (by decide))) (cwV 2 hts gX7_extend_X2_otherEnd rfl rfl rfl (by decide +kernel) ⟨Nat.le_of_ble_eq_true rfl, Nat.le_of_ble_eq_true rfl⟩) hP hD hS hA [1, 2, 3] [0, 4, 5] rfl rfl rfl rfl (by decide) 0 2 rfl rfl rfl hl.1 rfl (Nat.le_of_ble_eq_true rfl) dX7_extend_27 ⟨Nat.le_of_ble_eq_true rfl, Nat.le_of_ble_eq_true rfl⟩ (fun r19 u18 H locs hp hP hD hS => ?_)
          obtain ⟨⟨r19l, r19u⟩, exu18, -⟩ := hp
          have hP : va_P D vwCl [(q0, .inr (7, [.int x8, .int x9, .int x10, .int s0_3])), (q4, .inl (cA 0, 9, .inl f4)), (q5, .inl (cA 0, 9, .inl f5)), (q1, .inr (2, [.int s1_0, .int s1_1, .int s1_2, .int s1_3, .int s1_4, .ref q2, .ref q3, .ref q5, .ref q6, .ref q7, .ref q8, .ref q9, .ref q10])), (q2, .inl (cA 0, 9, .inl f2)), (q3, .inl (cA 0, 9, .inl f3))] H := hP
          have hD : va_D A [(q0, .inr (7, [.int x8, .int x9, .int x10, .int s0_3])), (q4, .inl (cA 0, 9, .inl f4)), (q5, .inl (cA 0, 9, .inl f5)), (q1, .inr (2, [.int s1_0, .int s1_1, .int s1_2, .int s1_3, .int s1_4, .ref q2, .ref q3, .ref q5, .ref q6, .ref q7, .ref q8, .ref q9, .ref q10])), (q2, .inl (cA 0, 9, .inl f2)), (q3, .inl (cA 0, 9, .inl f3))] := hD
          refine lv_istore (lv' := [(8, .int r19), (7, .int x5), (0, .ref q0), (1, .ref q1), (2, .ref q4), (3, .int a0), (4, .int a1), (5, .int a2), (6, .int a3)]) hx hb dX7_extend_30 hl (by decide) rfl (fun ls hl => ?_)
          refine lv_iload hx hb dX7_extend_32 (lv_at hl 8 rfl) ?_
          refine lv_aload_n hx hb dX7_extend_34 rfl (lv_at hl 4 rfl) ?_
          refine lv_iload hx hb dX7_extend_35 (lv_at hl 1 rfl) ?_
          refine rg_iald0 hx hb hE hP (q0 := 1) rfl l6 h16 (by decide) dX7_extend_37 (fun v20 ev20 => ?_)
          refine lv_iadd hx hb dX7_extend_38 ?_
          refine lv_topi (fun v21 ev21 => ?_)
          refine lv_aload_n hx hb dX7_extend_39 rfl (lv_at hl 3 rfl) ?_
          refine va_get (D := D) (ci := 2) (v := .ref q5) (C := RX2) (T := TX2) (N := 13) hx hb hts hnX2 hown hE.1 hP 3 rfl rfl 7 (by decide) (hts (.fieldLink RX7 46 "MovedStones$Land" "feet" "[I") (List.mem_cons_of_mem _ (List.mem_append_left _ (List.mem_append_left _ (List.mem_append_left _ (List.mem_of_getElem? (i := 1) rfl)))))) (fun _ h9 => h9) rfl dX7_extend_40 ?_
          refine lv_iload hx hb dX7_extend_43 (lv_at hl 1 rfl) ?_
          refine rg_iald hx hb hE hP (q0 := 2) rfl l6 h16 f5_0 (by decide) dX7_extend_45 (fun v22 ev22 lv22 uv22 => ?_)
          refine lv_isub hx hb dX7_extend_46 ?_
          refine lv_topi (fun v23 ev23 => ?_)
          refine lv_istore (lv' := [(9, .int v23), (8, .int r19), (7, .int x5), (0, .ref q0), (1, .ref q1), (2, .ref q4), (3, .int a0), (4, .int a1), (5, .int a2), (6, .int a3)]) hx hb dX7_extend_47 hl (by decide) rfl (fun ls hl => ?_)
          refine lv_iload hx hb dX7_extend_49 (lv_at hl 1 rfl) ?_
          refine lv_aload_n hx hb dX7_extend_51 rfl (lv_at hl 3 rfl) ?_
          refine va_get (D := D) (ci := 7) (v := .int s0_3) (C := RX7) (T := TX7) (N := 4) hx hb hts hnX7 hown hE.1 hP 0 rfl rfl 3 (by decide) (hts (.fieldLink RX7 26 "MovedStones$Rounds" "start" "I") (List.mem_cons_of_mem _ (List.mem_append_left _ (List.mem_append_left _ (List.mem_append_left _ (List.mem_of_getElem? (i := 2) rfl)))))) (fun _ h9 => h9) rfl dX7_extend_52 ?_
          have jn27 : ∀ (x24 : Int32) (x25 : Int32) (x26 : Int32) (H : Heap) (locs : List Loc) (ls : Array Slot), va_P D vwCl [(q0, .inr (7, [.int x24, .int x25, .int x26, .int s0_3])), (q4, .inl (cA 0, 9, .inl f4)), (q5, .inl (cA 0, 9, .inl f5)), (q1, .inr (2, [.int s1_0, .int s1_1, .int s1_2, .int s1_3, .int s1_4, .ref q2, .ref q3, .ref q5, .ref q6, .ref q7, .ref q8, .ref q9, .ref q10])), (q2, .inl (cA 0, 9, .inl f2)), (q3, .inl (cA 0, 9, .inl f3))] H → va_D A [(q0, .inr (7, [.int x24, .int x25, .int x26, .int s0_3])), (q4, .inl (cA 0, 9, .inl f4)), (q5, .inl (cA 0, 9, .inl f5)), (q1, .inr (2, [.int s1_0, .int s1_1, .int s1_2, .int s1_3, .int s1_4, .ref q2, .ref q3, .ref q5, .ref q6, .ref q7, .ref q8, .ref q9, .ref q10])), (q2, .inl (cA 0, 9, .inl f2)), (q3, .inl (cA 0, 9, .inl f3))] → va_S A s.heap H locs → lv_has ls 10 [(9, .int v23), (8, .int r19), (7, .int x5), (0, .ref q0), (1, .ref q1), (2, .ref q4), (3, .int a0), (4, .int a1), (5, .int a2), (6, .int a3)] → W p l e ({ frames := 1, cells := 0, slots := 0, locals := 24 } : Room) s m args below meth c H locs 0 0 (MQ below (ms_Qv D A (fun (u : ((Nat → Int32) × (Nat → Nat → Int32) × (Nat → Int64))) => True) (fun (u : ((Nat → Int32) × (Nat → Nat → Int32) × (Nat → Int64))) => [(q0, .inr (7, [.int (u.1 0), .int (u.1 1), .int (u.1 2), .int s0_3])), (q1, .inr (2, [.int s1_0, .int s1_1, .int s1_2, .int s1_3, .int s1_4, .ref q2, .ref q3, .ref q5, .ref q6, .ref q7, .ref q8, .ref q9, .ref q10])), (q2, .inl (cA 0, 9, .inl f2)), (q3, .inl (cA 0, 9, .inl f3)), (q4, .inl (cA 0, 9, .inl f4)), (q5, .inl (cA 0, 9, .inl f5))])) args s 0 0 A) (F0 m 128 ls []) := by
            intro x24 x25 x26 H locs ls   hP hD hS hl
            refine rg_iinc (lo := 1) (hi := 9) (fun z => [(7, .int z), (9, .int v23), (8, .int r19), (0, .ref q0), (1, .ref q1), (2, .ref q4), (3, .int a0), (4, .int a1), (5, .int a2), (6, .int a3)]) hx hb dX7_extend_128 hl (k := 2) rfl (by decide) l6 h16 (by decide) (fun _ => rfl) (fun v28 ev28 lv28 uv28 ls hl => ?_)
            have hl : lv_has ls 10 [(7, .int v28), (9, .int v23), (8, .int r19), (0, .ref q0), (1, .ref q1), (2, .ref q4), (3, .int a0), (4, .int a1), (5, .int a2), (6, .int a3)] := hl
            refine lv_goto (tgt := 14) hx hb dX7_extend_131 (by decide) ?_
            exact ih13 v28 x24 x25 x26 _ _ _ (rg_le lv28 (by decide)) (rg_ge uv28 (by decide))  (rg_ms hm14 ev28 (by decide)) (hP.sub [0, 3, 4, 5, 1, 2] rfl) (hD.sub [0, 3, 4, 5, 1, 2] (by decide) rfl) hS (lv_sub hl [0, 3, 4, 5, 6, 7, 8, 9] rfl)
          refine lv_icmp_ne (tgt := 85) hx hb dX7_extend_55 (by decide) (fun c29 => ?_) (fun c29 => ?_)
          · refine lv_iload hx hb dX7_extend_85 (lv_at hl 1 rfl) ?_
            refine lv_aload_n hx hb dX7_extend_87 rfl (lv_at hl 3 rfl) ?_
            refine va_get (D := D) (ci := 7) (v := .int s0_3) (C := RX7) (T := TX7) (N := 4) hx hb hts hnX7 hown hE.1 hP 0 rfl rfl 3 (by decide) (hts (.fieldLink RX7 26 "MovedStones$Rounds" "start" "I") (List.mem_cons_of_mem _ (List.mem_append_left _ (List.mem_append_left _ (List.mem_append_left _ (List.mem_of_getElem? (i := 2) rfl)))))) (fun _ h9 => h9) rfl dX7_extend_88 ?_
            refine lv_icmp_le (tgt := 128) hx hb dX7_extend_91 (by decide) (fun c30 => ?_) (fun c30 => ?_)
            · exact jn27 x8 x9 x10 _ _ _   hP hD hS (lv_sub hl [0, 1, 2, 3, 4, 5, 6, 7, 8, 9] rfl)
            · have h31 : s0_3.toInt ≤ 4 := rg_lt_hi (rg_nle c30) r19u (by decide)
              have h32 : 1 ≤ r19.toInt := rg_lt_lo (rg_nle c30) s0_3l (by decide)
              refine lv_iload hx hb dX7_extend_94 (lv_at hl 7 rfl) ?_
              refine lv_iload hx hb dX7_extend_96 (lv_at hl 1 rfl) ?_
              refine lv_ishr hx hb dX7_extend_98 ?_
              refine lv_topi (fun v33 ev33 => ?_)
              refine lv_iconst (v := 1) hx hb dX7_extend_99 (by decide) ?_
              refine rg_iand1 hx hb dX7_extend_100 (fun v34 ev34 lv34 uv34 => ?_)
              refine lv_if_ne (tgt := 128) hx hb dX7_extend_101 (by decide) (fun c35 => ?_) (fun c35 => ?_)
              · have h36 : 1 ≤ v34.toInt := rg_ne_lo c35 lv34 (by decide : (0 : Int) ≤ (0 : Int32).toInt) (by decide : (0 : Int32).toInt ≤ 0) (by decide)
                exact jn27 x8 x9 x10 _ _ _   hP hD hS (lv_sub hl [0, 1, 2, 3, 4, 5, 6, 7, 8, 9] rfl)
              · have h37 : v34.toInt ≤ 0 := rg_eq_hi c35 (by decide : (0 : Int32).toInt ≤ 0)
                refine lv_aload_n hx hb dX7_extend_104 rfl (lv_at hl 3 rfl) ?_
                refine lv_aload_n hx hb dX7_extend_105 rfl (lv_at hl 4 rfl) ?_
                refine lv_aload_n hx hb dX7_extend_106 rfl (lv_at hl 5 rfl) ?_
                refine lv_iload hx hb dX7_extend_107 (lv_at hl 1 rfl) ?_
                refine lv_iload hx hb dX7_extend_109 (lv_at hl 7 rfl) ?_
                refine lv_iconst (v := 1) hx hb dX7_extend_111 (by decide) ?_
                refine lv_iload hx hb dX7_extend_112 (lv_at hl 1 rfl) ?_
                refine rg_shl1 (lo := 2) (hi := 32) hx hb dX7_extend_114 h32 r19u (by decide) (fun v38 ev38 lv38 uv38 => ?_)
                refine rg_ior (k := 6) (hi := 63) hx hb dX7_extend_115 a1l a1u lv38 uv38 (by decide) (fun v39 ev39 lv39 uv39 => ?_)
                refine lv_iload hx hb dX7_extend_116 (lv_at hl 8 rfl) ?_
                refine lv_iconst (v := 1) hx hb dX7_extend_118 (by decide) ?_
                refine lv_iload hx hb dX7_extend_119 (lv_at hl 2 rfl) ?_
                refine rg_shl1 (lo := 1) (hi := 256) hx hb dX7_extend_121 l6 h16 (by decide) (fun v40 ev40 lv40 uv40 => ?_)
                refine lv_ior hx hb dX7_extend_122 ?_
                refine lv_topi (fun v41 ev41 => ?_)
                refine lv_iload hx hb dX7_extend_123 (lv_at hl 0 rfl) ?_
                exact (ms_pc6 (rg_le a1l (by decide)) (rg_ge a1u (by decide)) h32 r19u ev33 ev34 c35 hpf).elim
          · have h42 : 0 ≤ r19.toInt := rg_eq_lo c29 s0_3l
            refine lv_iload hx hb dX7_extend_58 (lv_at hl 7 rfl) ?_
            refine ms_cSi (wc := []) (wr := [(q0, .inr (7, [.int x8, .int x9, .int x10, .int s0_3])), (q4, .inl (cA 0, 9, .inl f4)), (q5, .inl (cA 0, 9, .inl f5)), (q1, .inr (2, [.int s1_0, .int s1_1, .int s1_2, .int s1_3, .int s1_4, .ref q2, .ref q3, .ref q5, .ref q6, .ref q7, .ref q8, .ref q9, .ref q10])), (q2, .inl (cA 0, 9, .inl f2)), (q3, .inl (cA 0, 9, .inl f3))]) ⟨hx, hb, hml, hown, hts⟩ hE (kJ6_bitCount_0f7a4_1 l D cA a1) (va_cwS 1 hts gX7_extend_J6_bitCount_0f7a4 rfl rfl rfl (by decide +kernel) ⟨Nat.le_of_ble_eq_true rfl, Nat.le_of_ble_eq_true rfl⟩) hP hD hS hA [] [0, 1, 2, 3, 4, 5] rfl rfl rfl rfl (by decide) rfl hl.1 rfl (Nat.le_of_ble_eq_true rfl) dX7_extend_60 ⟨Nat.le_of_ble_eq_true rfl, Nat.le_of_ble_eq_true rfl⟩ (fun r44 u43 H locs hp hP hD hS => ?_)
            obtain ⟨⟨r44l, r44u⟩, exu43, -⟩ := hp
            have hP : va_P D vwCl [(q0, .inr (7, [.int x8, .int x9, .int x10, .int s0_3])), (q4, .inl (cA 0, 9, .inl f4)), (q5, .inl (cA 0, 9, .inl f5)), (q1, .inr (2, [.int s1_0, .int s1_1, .int s1_2, .int s1_3, .int s1_4, .ref q2, .ref q3, .ref q5, .ref q6, .ref q7, .ref q8, .ref q9, .ref q10])), (q2, .inl (cA 0, 9, .inl f2)), (q3, .inl (cA 0, 9, .inl f3))] H := hP
            have hD : va_D A [(q0, .inr (7, [.int x8, .int x9, .int x10, .int s0_3])), (q4, .inl (cA 0, 9, .inl f4)), (q5, .inl (cA 0, 9, .inl f5)), (q1, .inr (2, [.int s1_0, .int s1_1, .int s1_2, .int s1_3, .int s1_4, .ref q2, .ref q3, .ref q5, .ref q6, .ref q7, .ref q8, .ref q9, .ref q10])), (q2, .inl (cA 0, 9, .inl f2)), (q3, .inl (cA 0, 9, .inl f3))] := hD
            refine lv_iconst (v := 3) hx hb dX7_extend_63 (by decide) ?_
            refine lv_icmp_lt (tgt := 85) hx hb dX7_extend_64 (by decide) (fun c45 => ?_) (fun c45 => ?_)
            · have h46 : r44.toInt ≤ 2 := rg_lt_hi c45 (by decide : (3 : Int32).toInt ≤ 3) (by decide)
              refine lv_iload hx hb dX7_extend_85 (lv_at hl 1 rfl) ?_
              refine lv_aload_n hx hb dX7_extend_87 rfl (lv_at hl 3 rfl) ?_
              refine va_get (D := D) (ci := 7) (v := .int s0_3) (C := RX7) (T := TX7) (N := 4) hx hb hts hnX7 hown hE.1 hP 0 rfl rfl 3 (by decide) (hts (.fieldLink RX7 26 "MovedStones$Rounds" "start" "I") (List.mem_cons_of_mem _ (List.mem_append_left _ (List.mem_append_left _ (List.mem_append_left _ (List.mem_of_getElem? (i := 2) rfl)))))) (fun _ h9 => h9) rfl dX7_extend_88 ?_
              refine lv_icmp_le (tgt := 128) hx hb dX7_extend_91 (by decide) (fun c47 => ?_) (fun c47 => ?_)
              · exact jn27 x8 x9 x10 _ _ _   hP hD hS (lv_sub hl [0, 1, 2, 3, 4, 5, 6, 7, 8, 9] rfl)
              · have h48 : s0_3.toInt ≤ 4 := rg_lt_hi (rg_nle c47) r19u (by decide)
                have h49 : 1 ≤ r19.toInt := rg_lt_lo (rg_nle c47) s0_3l (by decide)
                refine lv_iload hx hb dX7_extend_94 (lv_at hl 7 rfl) ?_
                refine lv_iload hx hb dX7_extend_96 (lv_at hl 1 rfl) ?_
                refine lv_ishr hx hb dX7_extend_98 ?_
                refine lv_topi (fun v50 ev50 => ?_)
                refine lv_iconst (v := 1) hx hb dX7_extend_99 (by decide) ?_
                refine rg_iand1 hx hb dX7_extend_100 (fun v51 ev51 lv51 uv51 => ?_)
                refine lv_if_ne (tgt := 128) hx hb dX7_extend_101 (by decide) (fun c52 => ?_) (fun c52 => ?_)
                · have h53 : 1 ≤ v51.toInt := rg_ne_lo c52 lv51 (by decide : (0 : Int) ≤ (0 : Int32).toInt) (by decide : (0 : Int32).toInt ≤ 0) (by decide)
                  exact jn27 x8 x9 x10 _ _ _   hP hD hS (lv_sub hl [0, 1, 2, 3, 4, 5, 6, 7, 8, 9] rfl)
                · have h54 : v51.toInt ≤ 0 := rg_eq_hi c52 (by decide : (0 : Int32).toInt ≤ 0)
                  refine lv_aload_n hx hb dX7_extend_104 rfl (lv_at hl 3 rfl) ?_
                  refine lv_aload_n hx hb dX7_extend_105 rfl (lv_at hl 4 rfl) ?_
                  refine lv_aload_n hx hb dX7_extend_106 rfl (lv_at hl 5 rfl) ?_
                  refine lv_iload hx hb dX7_extend_107 (lv_at hl 1 rfl) ?_
                  refine lv_iload hx hb dX7_extend_109 (lv_at hl 7 rfl) ?_
                  refine lv_iconst (v := 1) hx hb dX7_extend_111 (by decide) ?_
                  refine lv_iload hx hb dX7_extend_112 (lv_at hl 1 rfl) ?_
                  refine rg_shl1 (lo := 2) (hi := 32) hx hb dX7_extend_114 h49 r19u (by decide) (fun v55 ev55 lv55 uv55 => ?_)
                  refine rg_ior (k := 6) (hi := 63) hx hb dX7_extend_115 a1l a1u lv55 uv55 (by decide) (fun v56 ev56 lv56 uv56 => ?_)
                  refine lv_iload hx hb dX7_extend_116 (lv_at hl 8 rfl) ?_
                  refine lv_iconst (v := 1) hx hb dX7_extend_118 (by decide) ?_
                  refine lv_iload hx hb dX7_extend_119 (lv_at hl 2 rfl) ?_
                  refine rg_shl1 (lo := 1) (hi := 256) hx hb dX7_extend_121 l6 h16 (by decide) (fun v57 ev57 lv57 uv57 => ?_)
                  refine lv_ior hx hb dX7_extend_122 ?_
                  refine lv_topi (fun v58 ev58 => ?_)
                  refine lv_iload hx hb dX7_extend_123 (lv_at hl 0 rfl) ?_
                  exact (ms_pc6 (rg_le a1l (by decide)) (rg_ge a1u (by decide)) h49 r19u ev50 ev51 c52 hpf).elim
            · have h59 : 3 ≤ r44.toInt := rg_le_lo (rg_nlt c45) (by decide : (3 : Int) ≤ (3 : Int32).toInt)
              refine lv_aload_n hx hb dX7_extend_67 rfl (lv_at hl 3 rfl) ?_
              refine lv_iload hx hb dX7_extend_68 (lv_at hl 7 rfl) ?_
              refine lv_iload hx hb dX7_extend_70 (lv_at hl 8 rfl) ?_
              refine lv_iconst (v := 1) hx hb dX7_extend_72 (by decide) ?_
              refine lv_iload hx hb dX7_extend_73 (lv_at hl 2 rfl) ?_
              refine rg_shl1 (lo := 1) (hi := 256) hx hb dX7_extend_75 l6 h16 (by decide) (fun v60 ev60 lv60 uv60 => ?_)
              refine lv_ior hx hb dX7_extend_76 ?_
              refine lv_topi (fun v61 ev61 => ?_)
              refine lv_iload hx hb dX7_extend_77 (lv_at hl 0 rfl) ?_
              refine ms_cVv (qc := (RX7, TX7, 4)) (wc := [(q0, .inr (7, [.int x8, .int x9, .int x10, .int s0_3]))]) (wr := [(q4, .inl (cA 0, 9, .inl f4)), (q5, .inl (cA 0, 9, .inl f5)), (q1, .inr (2, [.int s1_0, .int s1_1, .int s1_2, .int s1_3, .int s1_4, .ref q2, .ref q3, .ref q5, .ref q6, .ref q7, .ref q8, .ref q9, .ref q10])), (q2, .inl (cA 0, 9, .inl f2)), (q3, .inl (cA 0, 9, .inl f3))]) ⟨hx, hb, hml, hown, hts⟩ hE (kX7_compare_1 l D cA q0 x8 x9 x10 s0_3 a1 v61 v23 (rg_le s0_3l (by decide)) (rg_ge s0_3u (by decide)) (rg_le a1l (by decide)) (rg_ge a1u (by decide))) (cwV 3 hts gX7_extend_X7_compare rfl rfl rfl (by decide +kernel) ⟨Nat.le_of_ble_eq_true rfl, Nat.le_of_ble_eq_true rfl⟩) hP hD hS hA [0] [1, 2, 3, 4, 5] rfl rfl rfl rfl (by decide) 0 7 rfl rfl rfl hl.1 rfl (Nat.le_of_ble_eq_true rfl) dX7_extend_79 ⟨Nat.le_of_ble_eq_true rfl, Nat.le_of_ble_eq_true rfl⟩ (fun u62 H locs hp hP hD hS => ?_)
              have hP : va_P D vwCl [(q4, .inl (cA 0, 9, .inl f4)), (q5, .inl (cA 0, 9, .inl f5)), (q1, .inr (2, [.int s1_0, .int s1_1, .int s1_2, .int s1_3, .int s1_4, .ref q2, .ref q3, .ref q5, .ref q6, .ref q7, .ref q8, .ref q9, .ref q10])), (q2, .inl (cA 0, 9, .inl f2)), (q3, .inl (cA 0, 9, .inl f3)), (q0, .inr (7, [.int (u62.1 0), .int (u62.1 1), .int (u62.1 2), .int s0_3]))] H := hP
              have hD : va_D A [(q4, .inl (cA 0, 9, .inl f4)), (q5, .inl (cA 0, 9, .inl f5)), (q1, .inr (2, [.int s1_0, .int s1_1, .int s1_2, .int s1_3, .int s1_4, .ref q2, .ref q3, .ref q5, .ref q6, .ref q7, .ref q8, .ref q9, .ref q10])), (q2, .inl (cA 0, 9, .inl f2)), (q3, .inl (cA 0, 9, .inl f3)), (q0, .inr (7, [.int (u62.1 0), .int (u62.1 1), .int (u62.1 2), .int s0_3]))] := hD
              refine lv_goto (tgt := 128) hx hb dX7_extend_82 (by decide) ?_
              exact jn27 (u62.1 0) (u62.1 1) (u62.1 2) _ _ _   (hP.sub [5, 0, 1, 2, 3, 4] rfl) (hD.sub [5, 0, 1, 2, 3, 4] (by decide) rfl) hS (lv_sub hl [0, 1, 2, 3, 4, 5, 6, 7, 8, 9] rfl)
    exact lp11 10 0 s0_0 s0_1 s0_2 _ _ _ (rg_le (by decide : (0 : Int) ≤ (0 : Int32).toInt) (by decide)) (rg_ge (by decide : (0 : Int32).toInt ≤ 0) (by decide))  (rg_mi (by decide : (0 : Int) ≤ (0 : Int32).toInt) (by decide)) hP hD hS (lv_sub hl [0, 1, 2, 3, 4, 5, 6, 7] rfl)
  · have h64 : 7 ≤ r2.toInt := rg_lt_lo (rg_nle c3) (by decide : (6 : Int) ≤ (6 : Int32).toInt) (by decide)
    exact ms_vret hx hb hr hlk (fun i => [s0_0, s0_1, s0_2].getD i 0, fun i => [].getD i ms_z, fun i => [].getD i 0) trivial hP hD hS (Nat.le_of_ble_eq_true rfl) (Nat.le_of_ble_eq_true rfl) dX7_extend_10
set_option maxHeartbeats 4000000 in
set_option maxRecDepth 100000 in
theorem kX7_extend_2 (l : Launch) (D : va_G) (cA : Nat → ClassId) (q0 q1 q2 q3 q4 q5 q6 q7 q8 q9 q10 : Nat) (s0_0 : Int32) (s0_1 : Int32) (s0_2 : Int32) (s0_3 : Int32) (s1_0 : Int32) (s1_1 : Int32) (s1_2 : Int32) (s1_3 : Int32) (s1_4 : Int32) (f2 : Nat → Int32) (f3 : Nat → Int32) (f4 : Nat → Int32) (f5 : Nat → Int32) (a0 : Int32) (a1 : Int32) (a2 : Int32) (a3 : Int32) (s0_3l : 0 ≤ s0_3.toInt) (s0_3u : s0_3.toInt ≤ 5) (s1_0l : 0 ≤ s1_0.toInt) (s1_0u : s1_0.toInt ≤ 6) (s1_1l : 0 ≤ s1_1.toInt) (s1_1u : s1_1.toInt ≤ 4) (s1_2l : 0 ≤ s1_2.toInt) (s1_2u : s1_2.toInt ≤ 9) (s1_3l : 0 ≤ s1_3.toInt) (s1_3u : s1_3.toInt ≤ 9) (s1_4l : 0 ≤ s1_4.toInt) (s1_4u : s1_4.toInt ≤ 6) (f2_0 : rg_S f2 0 9 0 5) (f3_0 : rg_S f3 0 9 0 5) (f5_0 : rg_S f5 0 9 0 99) (a0l : 0 ≤ a0.toInt) (a0u : a0.toInt ≤ 5) (a1l : 0 ≤ a1.toInt) (a1u : a1.toInt ≤ 63) (hpf : ms_pc a1 = 5) : ms_Mv l yX7_extend wsX7_extend ({ frames := 2, cells := 0, slots := 0, locals := 53 } : Room) D cA [.ref q0, .ref q1, .ref q4, .int a0, .int a1, .int a2, .int a3] [(q0, .inr (7, [.int s0_0, .int s0_1, .int s0_2, .int s0_3])), (q1, .inr (2, [.int s1_0, .int s1_1, .int s1_2, .int s1_3, .int s1_4, .ref q2, .ref q3, .ref q5, .ref q6, .ref q7, .ref q8, .ref q9, .ref q10])), (q2, .inl (cA 0, 9, .inl f2)), (q3, .inl (cA 0, 9, .inl f3)), (q4, .inl (cA 0, 9, .inl f4)), (q5, .inl (cA 0, 9, .inl f5))] (fun (u : ((Nat → Int32) × (Nat → Nat → Int32) × (Nat → Int64))) => True) (fun (u : ((Nat → Int32) × (Nat → Nat → Int32) × (Nat → Int64))) => [(q0, .inr (7, [.int (u.1 0), .int (u.1 1), .int (u.1 2), .int s0_3])), (q1, .inr (2, [.int s1_0, .int s1_1, .int s1_2, .int s1_3, .int s1_4, .ref q2, .ref q3, .ref q5, .ref q6, .ref q7, .ref q8, .ref q9, .ref q10])), (q2, .inl (cA 0, 9, .inl f2)), (q3, .inl (cA 0, 9, .inl f3)), (q4, .inl (cA 0, 9, .inl f4)), (q5, .inl (cA 0, 9, .inl f5))]) := by
  refine ms_Mv_of (cc := cX7_extend) (maxL := 10) (ret := none) (by decide) rfl (Nat.le_of_ble_eq_true rfl) ?_
  intro p e s m args below meth c A ls hB hE hA hP hD hS hl
  obtain ⟨hx, hb, hr, hml, hown, hts, hlk, hnm⟩ := hB
  have hown : s.vm.findClass RX7 = some m.cls := hown
  have hnX2 : ∀ w ∈ u_ws RX2 TX2 13, w ∈ wsX7_extend := fun _ h => List.mem_cons_of_mem _ (List.mem_append_left _ (List.mem_append_right _ (h)))
  have hnX7 : ∀ w ∈ u_ws RX7 TX7 4, w ∈ wsX7_extend := fun _ h => List.mem_cons_of_mem _ (List.mem_append_right _ (h))
  have hl : lv_has ls 10 [(0, .ref q0), (1, .ref q1), (2, .ref q4), (3, .int a0), (4, .int a1), (5, .int a2), (6, .int a3)] := hl
  refine lv_iload hx hb dX7_extend_0 (lv_at hl 4 rfl) ?_
  refine ms_cSi (wc := []) (wr := [(q0, .inr (7, [.int s0_0, .int s0_1, .int s0_2, .int s0_3])), (q1, .inr (2, [.int s1_0, .int s1_1, .int s1_2, .int s1_3, .int s1_4, .ref q2, .ref q3, .ref q5, .ref q6, .ref q7, .ref q8, .ref q9, .ref q10])), (q2, .inl (cA 0, 9, .inl f2)), (q3, .inl (cA 0, 9, .inl f3)), (q4, .inl (cA 0, 9, .inl f4)), (q5, .inl (cA 0, 9, .inl f5))]) ⟨hx, hb, hml, hown, hts⟩ hE (kJ6_bitCount_0f7a4_1 l D cA a1) (va_cwS 1 hts gX7_extend_J6_bitCount_0f7a4 rfl rfl rfl (by decide +kernel) ⟨Nat.le_of_ble_eq_true rfl, Nat.le_of_ble_eq_true rfl⟩) hP hD hS hA [] [0, 1, 2, 3, 4, 5] rfl rfl rfl rfl (by decide) rfl hl.1 rfl (Nat.le_of_ble_eq_true rfl) dX7_extend_2 ⟨Nat.le_of_ble_eq_true rfl, Nat.le_of_ble_eq_true rfl⟩ (fun r2 u1 H locs hp hP hD hS => ?_)
  obtain ⟨⟨r2l, r2u⟩, exu1, -⟩ := hp
  have hP : va_P D vwCl [(q0, .inr (7, [.int s0_0, .int s0_1, .int s0_2, .int s0_3])), (q1, .inr (2, [.int s1_0, .int s1_1, .int s1_2, .int s1_3, .int s1_4, .ref q2, .ref q3, .ref q5, .ref q6, .ref q7, .ref q8, .ref q9, .ref q10])), (q2, .inl (cA 0, 9, .inl f2)), (q3, .inl (cA 0, 9, .inl f3)), (q4, .inl (cA 0, 9, .inl f4)), (q5, .inl (cA 0, 9, .inl f5))] H := hP
  have hD : va_D A [(q0, .inr (7, [.int s0_0, .int s0_1, .int s0_2, .int s0_3])), (q1, .inr (2, [.int s1_0, .int s1_1, .int s1_2, .int s1_3, .int s1_4, .ref q2, .ref q3, .ref q5, .ref q6, .ref q7, .ref q8, .ref q9, .ref q10])), (q2, .inl (cA 0, 9, .inl f2)), (q3, .inl (cA 0, 9, .inl f3)), (q4, .inl (cA 0, 9, .inl f4)), (q5, .inl (cA 0, 9, .inl f5))] := hD
  refine lv_bipush (v := 6) hx hb dX7_extend_5 (by decide) ?_
  refine lv_icmp_le (tgt := 11) hx hb dX7_extend_7 (by decide) (fun c3 => ?_) (fun c3 => ?_)
  · have h4 : r2.toInt ≤ 6 := rg_le_hi c3 (by decide : (6 : Int32).toInt ≤ 6)
    refine lv_iconst (v := 0) hx hb dX7_extend_11 (by decide) ?_
    refine lv_istore (lv' := [(7, .int 0), (0, .ref q0), (1, .ref q1), (2, .ref q4), (3, .int a0), (4, .int a1), (5, .int a2), (6, .int a3)]) hx hb dX7_extend_12 hl (by decide) rfl (fun ls hl => ?_)
    have lp11 : ∀ (n12 : Nat) (x5 : Int32) (x8 : Int32) (x9 : Int32) (x10 : Int32) (H : Heap) (locs : List Loc) (ls : Array Slot), 0 ≤ x5.toInt → x5.toInt ≤ 9 → 9 + 1 ≤ x5.toInt + (n12 : Int) → va_P D vwCl [(q0, .inr (7, [.int x8, .int x9, .int x10, .int s0_3])), (q1, .inr (2, [.int s1_0, .int s1_1, .int s1_2, .int s1_3, .int s1_4, .ref q2, .ref q3, .ref q5, .ref q6, .ref q7, .ref q8, .ref q9, .ref q10])), (q2, .inl (cA 0, 9, .inl f2)), (q3, .inl (cA 0, 9, .inl f3)), (q4, .inl (cA 0, 9, .inl f4)), (q5, .inl (cA 0, 9, .inl f5))] H → va_D A [(q0, .inr (7, [.int x8, .int x9, .int x10, .int s0_3])), (q1, .inr (2, [.int s1_0, .int s1_1, .int s1_2, .int s1_3, .int s1_4, .ref q2, .ref q3, .ref q5, .ref q6, .ref q7, .ref q8, .ref q9, .ref q10])), (q2, .inl (cA 0, 9, .inl f2)), (q3, .inl (cA 0, 9, .inl f3)), (q4, .inl (cA 0, 9, .inl f4)), (q5, .inl (cA 0, 9, .inl f5))] → va_S A s.heap H locs → lv_has ls 10 [(7, .int x5), (0, .ref q0), (1, .ref q1), (2, .ref q4), (3, .int a0), (4, .int a1), (5, .int a2), (6, .int a3)] → W p l e ({ frames := 2, cells := 0, slots := 0, locals := 53 } : Room) s m args below meth c H locs 0 0 (MQ below (ms_Qv D A (fun (u : ((Nat → Int32) × (Nat → Nat → Int32) × (Nat → Int64))) => True) (fun (u : ((Nat → Int32) × (Nat → Nat → Int32) × (Nat → Int64))) => [(q0, .inr (7, [.int (u.1 0), .int (u.1 1), .int (u.1 2), .int s0_3])), (q1, .inr (2, [.int s1_0, .int s1_1, .int s1_2, .int s1_3, .int s1_4, .ref q2, .ref q3, .ref q5, .ref q6, .ref q7, .ref q8, .ref q9, .ref q10])), (q2, .inl (cA 0, 9, .inl f2)), (q3, .inl (cA 0, 9, .inl f3)), (q4, .inl (cA 0, 9, .inl f4)), (q5, .inl (cA 0, 9, .inl f5))])) args s 0 0 A) (F0 m 14 ls []) := by
      intro n12
      induction n12 with
      | zero => intro x5 x8 x9 x10 H locs ls l6 u7  hm14; exact (rg_m0 hm14 u7).elim
      | succ n12 ih13 =>
        intro x5 x8 x9 x10 H locs ls l6 u7  hm14 hP hD hS hl
        refine lv_iload hx hb dX7_extend_14 (lv_at hl 0 rfl) ?_
        refine lv_aload_n hx hb dX7_extend_16 rfl (lv_at hl 2 rfl) ?_
        refine va_get (D := D) (ci := 2) (v := .int s1_3) (C := RX2) (T := TX2) (N := 13) hx hb hts hnX2 hown hE.1 hP 1 rfl rfl 3 (by decide) (hts (.fieldLink RX7 39 "MovedStones$Land" "roads" "I") (List.mem_cons_of_mem _ (List.mem_append_left _ (List.mem_append_left _ (List.mem_append_left _ (List.mem_of_getElem? (i := 0) rfl)))))) (fun _ h9 => h9) rfl dX7_extend_17 ?_
        refine lv_icmp_ge (tgt := 134) hx hb dX7_extend_20 (by decide) (fun c15 => ?_) (fun c15 => ?_)
        · exact ms_vret hx hb hr hlk (fun i => [x8, x9, x10].getD i 0, fun i => [].getD i ms_z, fun i => [].getD i 0) trivial hP hD hS (Nat.le_of_ble_eq_true rfl) (Nat.le_of_ble_eq_true rfl) dX7_extend_134
        · have h16 : x5.toInt ≤ 8 := rg_lt_hi (rg_nle c15) s1_3u (by decide)
          have h17 : 1 ≤ s1_3.toInt := rg_lt_lo (rg_nle c15) l6 (by decide)
          refine lv_aload_n hx hb dX7_extend_23 rfl (lv_at hl 2 rfl) ?_
          refine lv_iload hx hb dX7_extend_24 (lv_at hl 0 rfl) ?_
          refine lv_iload_n hx hb dX7_extend_26 rfl (lv_at hl 4 rfl) ?_
          refine ms_cVi (qc := (RX2, TX2, 13)) (wc := [(q1, .inr (2, [.int s1_0, .int s1_1, .int s1_2, .int s1_3, .int s1_4, .ref q2, .ref q3, .ref q5, .ref q6, .ref q7, .ref q8, .ref q9, .ref q10])), (q2, .inl (cA 0, 9, .inl f2)), (q3, .inl (cA 0, 9, .inl f3))]) (wr := [(q0, .inr (7, [.int x8, .int x9, .int x10, .int s0_3])), (q4, .inl (cA 0, 9, .inl f4)), (q5, .inl (cA 0, 9, .inl f5))]) ⟨hx, hb, hml, hown, hts⟩ hE (kX2_otherEnd_1 l D cA q1 q2 q3 q5 q6 q7 q8 q9 q10 s1_0 s1_1 s1_2 s1_3 s1_4 f2 f3 x5 a0 (rg_le s1_0l (by decide)) (rg_ge s1_0u (by decide)) (rg_le s1_1l (by decide)) (rg_ge s1_1u (by decide)) (rg_le s1_2l (by decide)) (rg_ge s1_2u (by decide)) (rg_le h17 (by decide)) (rg_ge s1_3u (by decide)) (rg_le s1_4l (by decide)) (rg_ge s1_4u (by decide)) (rg_Smono f2_0 (by decide) (by decide) (by decide) (by decide)) (rg_Smono f3_0 (by decide) (by decide) (by decide) (by decide)) (rg_le l6 (by decide)) (rg_ge h16 (by decide))) (cwV 2 hts gX7_extend_X2_otherEnd rfl rfl rfl (by decide +kernel) ⟨Nat.le_of_ble_eq_true rfl, Nat.le_of_ble_eq_true rfl⟩) hP hD hS hA [1, 2, 3] [0, 4, 5] rfl rfl rfl rfl (by decide) 0 2 rfl rfl rfl hl.1 rfl (Nat.le_of_ble_eq_true rfl) dX7_extend_27 ⟨Nat.le_of_ble_eq_true rfl, Nat.le_of_ble_eq_true rfl⟩ (fun r19 u18 H locs hp hP hD hS => ?_)
          obtain ⟨⟨r19l, r19u⟩, exu18, -⟩ := hp
          have hP : va_P D vwCl [(q0, .inr (7, [.int x8, .int x9, .int x10, .int s0_3])), (q4, .inl (cA 0, 9, .inl f4)), (q5, .inl (cA 0, 9, .inl f5)), (q1, .inr (2, [.int s1_0, .int s1_1, .int s1_2, .int s1_3, .int s1_4, .ref q2, .ref q3, .ref q5, .ref q6, .ref q7, .ref q8, .ref q9, .ref q10])), (q2, .inl (cA 0, 9, .inl f2)), (q3, .inl (cA 0, 9, .inl f3))] H := hP
          have hD : va_D A [(q0, .inr (7, [.int x8, .int x9, .int x10, .int s0_3])), (q4, .inl (cA 0, 9, .inl f4)), (q5, .inl (cA 0, 9, .inl f5)), (q1, .inr (2, [.int s1_0, .int s1_1, .int s1_2, .int s1_3, .int s1_4, .ref q2, .ref q3, .ref q5, .ref q6, .ref q7, .ref q8, .ref q9, .ref q10])), (q2, .inl (cA 0, 9, .inl f2)), (q3, .inl (cA 0, 9, .inl f3))] := hD
          refine lv_istore (lv' := [(8, .int r19), (7, .int x5), (0, .ref q0), (1, .ref q1), (2, .ref q4), (3, .int a0), (4, .int a1), (5, .int a2), (6, .int a3)]) hx hb dX7_extend_30 hl (by decide) rfl (fun ls hl => ?_)
          refine lv_iload hx hb dX7_extend_32 (lv_at hl 8 rfl) ?_
          refine lv_aload_n hx hb dX7_extend_34 rfl (lv_at hl 4 rfl) ?_
          refine lv_iload hx hb dX7_extend_35 (lv_at hl 1 rfl) ?_
          refine rg_iald0 hx hb hE hP (q0 := 1) rfl l6 h16 (by decide) dX7_extend_37 (fun v20 ev20 => ?_)
          refine lv_iadd hx hb dX7_extend_38 ?_
          refine lv_topi (fun v21 ev21 => ?_)
          refine lv_aload_n hx hb dX7_extend_39 rfl (lv_at hl 3 rfl) ?_
          refine va_get (D := D) (ci := 2) (v := .ref q5) (C := RX2) (T := TX2) (N := 13) hx hb hts hnX2 hown hE.1 hP 3 rfl rfl 7 (by decide) (hts (.fieldLink RX7 46 "MovedStones$Land" "feet" "[I") (List.mem_cons_of_mem _ (List.mem_append_left _ (List.mem_append_left _ (List.mem_append_left _ (List.mem_of_getElem? (i := 1) rfl)))))) (fun _ h9 => h9) rfl dX7_extend_40 ?_
          refine lv_iload hx hb dX7_extend_43 (lv_at hl 1 rfl) ?_
          refine rg_iald hx hb hE hP (q0 := 2) rfl l6 h16 f5_0 (by decide) dX7_extend_45 (fun v22 ev22 lv22 uv22 => ?_)
          refine lv_isub hx hb dX7_extend_46 ?_
          refine lv_topi (fun v23 ev23 => ?_)
          refine lv_istore (lv' := [(9, .int v23), (8, .int r19), (7, .int x5), (0, .ref q0), (1, .ref q1), (2, .ref q4), (3, .int a0), (4, .int a1), (5, .int a2), (6, .int a3)]) hx hb dX7_extend_47 hl (by decide) rfl (fun ls hl => ?_)
          refine lv_iload hx hb dX7_extend_49 (lv_at hl 1 rfl) ?_
          refine lv_aload_n hx hb dX7_extend_51 rfl (lv_at hl 3 rfl) ?_
          refine va_get (D := D) (ci := 7) (v := .int s0_3) (C := RX7) (T := TX7) (N := 4) hx hb hts hnX7 hown hE.1 hP 0 rfl rfl 3 (by decide) (hts (.fieldLink RX7 26 "MovedStones$Rounds" "start" "I") (List.mem_cons_of_mem _ (List.mem_append_left _ (List.mem_append_left _ (List.mem_append_left _ (List.mem_of_getElem? (i := 2) rfl)))))) (fun _ h9 => h9) rfl dX7_extend_52 ?_
          have jn27 : ∀ (x24 : Int32) (x25 : Int32) (x26 : Int32) (H : Heap) (locs : List Loc) (ls : Array Slot), va_P D vwCl [(q0, .inr (7, [.int x24, .int x25, .int x26, .int s0_3])), (q4, .inl (cA 0, 9, .inl f4)), (q5, .inl (cA 0, 9, .inl f5)), (q1, .inr (2, [.int s1_0, .int s1_1, .int s1_2, .int s1_3, .int s1_4, .ref q2, .ref q3, .ref q5, .ref q6, .ref q7, .ref q8, .ref q9, .ref q10])), (q2, .inl (cA 0, 9, .inl f2)), (q3, .inl (cA 0, 9, .inl f3))] H → va_D A [(q0, .inr (7, [.int x24, .int x25, .int x26, .int s0_3])), (q4, .inl (cA 0, 9, .inl f4)), (q5, .inl (cA 0, 9, .inl f5)), (q1, .inr (2, [.int s1_0, .int s1_1, .int s1_2, .int s1_3, .int s1_4, .ref q2, .ref q3, .ref q5, .ref q6, .ref q7, .ref q8, .ref q9, .ref q10])), (q2, .inl (cA 0, 9, .inl f2)), (q3, .inl (cA 0, 9, .inl f3))] → va_S A s.heap H locs → lv_has ls 10 [(9, .int v23), (8, .int r19), (7, .int x5), (0, .ref q0), (1, .ref q1), (2, .ref q4), (3, .int a0), (4, .int a1), (5, .int a2), (6, .int a3)] → W p l e ({ frames := 2, cells := 0, slots := 0, locals := 53 } : Room) s m args below meth c H locs 0 0 (MQ below (ms_Qv D A (fun (u : ((Nat → Int32) × (Nat → Nat → Int32) × (Nat → Int64))) => True) (fun (u : ((Nat → Int32) × (Nat → Nat → Int32) × (Nat → Int64))) => [(q0, .inr (7, [.int (u.1 0), .int (u.1 1), .int (u.1 2), .int s0_3])), (q1, .inr (2, [.int s1_0, .int s1_1, .int s1_2, .int s1_3, .int s1_4, .ref q2, .ref q3, .ref q5, .ref q6, .ref q7, .ref q8, .ref q9, .ref q10])), (q2, .inl (cA 0, 9, .inl f2)), (q3, .inl (cA 0, 9, .inl f3)), (q4, .inl (cA 0, 9, .inl f4)), (q5, .inl (cA 0, 9, .inl f5))])) args s 0 0 A) (F0 m 128 ls []) := by
            intro x24 x25 x26 H locs ls   hP hD hS hl
            refine rg_iinc (lo := 1) (hi := 9) (fun z => [(7, .int z), (9, .int v23), (8, .int r19), (0, .ref q0), (1, .ref q1), (2, .ref q4), (3, .int a0), (4, .int a1), (5, .int a2), (6, .int a3)]) hx hb dX7_extend_128 hl (k := 2) rfl (by decide) l6 h16 (by decide) (fun _ => rfl) (fun v28 ev28 lv28 uv28 ls hl => ?_)
            have hl : lv_has ls 10 [(7, .int v28), (9, .int v23), (8, .int r19), (0, .ref q0), (1, .ref q1), (2, .ref q4), (3, .int a0), (4, .int a1), (5, .int a2), (6, .int a3)] := hl
            refine lv_goto (tgt := 14) hx hb dX7_extend_131 (by decide) ?_
            exact ih13 v28 x24 x25 x26 _ _ _ (rg_le lv28 (by decide)) (rg_ge uv28 (by decide))  (rg_ms hm14 ev28 (by decide)) (hP.sub [0, 3, 4, 5, 1, 2] rfl) (hD.sub [0, 3, 4, 5, 1, 2] (by decide) rfl) hS (lv_sub hl [0, 3, 4, 5, 6, 7, 8, 9] rfl)
          refine lv_icmp_ne (tgt := 85) hx hb dX7_extend_55 (by decide) (fun c29 => ?_) (fun c29 => ?_)
          · refine lv_iload hx hb dX7_extend_85 (lv_at hl 1 rfl) ?_
            refine lv_aload_n hx hb dX7_extend_87 rfl (lv_at hl 3 rfl) ?_
            refine va_get (D := D) (ci := 7) (v := .int s0_3) (C := RX7) (T := TX7) (N := 4) hx hb hts hnX7 hown hE.1 hP 0 rfl rfl 3 (by decide) (hts (.fieldLink RX7 26 "MovedStones$Rounds" "start" "I") (List.mem_cons_of_mem _ (List.mem_append_left _ (List.mem_append_left _ (List.mem_append_left _ (List.mem_of_getElem? (i := 2) rfl)))))) (fun _ h9 => h9) rfl dX7_extend_88 ?_
            refine lv_icmp_le (tgt := 128) hx hb dX7_extend_91 (by decide) (fun c30 => ?_) (fun c30 => ?_)
            · exact jn27 x8 x9 x10 _ _ _   hP hD hS (lv_sub hl [0, 1, 2, 3, 4, 5, 6, 7, 8, 9] rfl)
            · have h31 : s0_3.toInt ≤ 4 := rg_lt_hi (rg_nle c30) r19u (by decide)
              have h32 : 1 ≤ r19.toInt := rg_lt_lo (rg_nle c30) s0_3l (by decide)
              refine lv_iload hx hb dX7_extend_94 (lv_at hl 7 rfl) ?_
              refine lv_iload hx hb dX7_extend_96 (lv_at hl 1 rfl) ?_
              refine lv_ishr hx hb dX7_extend_98 ?_
              refine lv_topi (fun v33 ev33 => ?_)
              refine lv_iconst (v := 1) hx hb dX7_extend_99 (by decide) ?_
              refine rg_iand1 hx hb dX7_extend_100 (fun v34 ev34 lv34 uv34 => ?_)
              refine lv_if_ne (tgt := 128) hx hb dX7_extend_101 (by decide) (fun c35 => ?_) (fun c35 => ?_)
              · have h36 : 1 ≤ v34.toInt := rg_ne_lo c35 lv34 (by decide : (0 : Int) ≤ (0 : Int32).toInt) (by decide : (0 : Int32).toInt ≤ 0) (by decide)
                exact jn27 x8 x9 x10 _ _ _   hP hD hS (lv_sub hl [0, 1, 2, 3, 4, 5, 6, 7, 8, 9] rfl)
              · have h37 : v34.toInt ≤ 0 := rg_eq_hi c35 (by decide : (0 : Int32).toInt ≤ 0)
                refine lv_aload_n hx hb dX7_extend_104 rfl (lv_at hl 3 rfl) ?_
                refine lv_aload_n hx hb dX7_extend_105 rfl (lv_at hl 4 rfl) ?_
                refine lv_aload_n hx hb dX7_extend_106 rfl (lv_at hl 5 rfl) ?_
                refine lv_iload hx hb dX7_extend_107 (lv_at hl 1 rfl) ?_
                refine lv_iload hx hb dX7_extend_109 (lv_at hl 7 rfl) ?_
                refine lv_iconst (v := 1) hx hb dX7_extend_111 (by decide) ?_
                refine lv_iload hx hb dX7_extend_112 (lv_at hl 1 rfl) ?_
                refine rg_shl1 (lo := 2) (hi := 32) hx hb dX7_extend_114 h32 r19u (by decide) (fun v38 ev38 lv38 uv38 => ?_)
                refine rg_ior (k := 6) (hi := 63) hx hb dX7_extend_115 a1l a1u lv38 uv38 (by decide) (fun v39 ev39 lv39 uv39 => ?_)
                refine lv_iload hx hb dX7_extend_116 (lv_at hl 8 rfl) ?_
                refine lv_iconst (v := 1) hx hb dX7_extend_118 (by decide) ?_
                refine lv_iload hx hb dX7_extend_119 (lv_at hl 2 rfl) ?_
                refine rg_shl1 (lo := 1) (hi := 256) hx hb dX7_extend_121 l6 h16 (by decide) (fun v40 ev40 lv40 uv40 => ?_)
                refine lv_ior hx hb dX7_extend_122 ?_
                refine lv_topi (fun v41 ev41 => ?_)
                refine lv_iload hx hb dX7_extend_123 (lv_at hl 0 rfl) ?_
                refine ms_cVv (qc := (RX7, TX7, 4)) (wc := [(q0, .inr (7, [.int x8, .int x9, .int x10, .int s0_3])), (q1, .inr (2, [.int s1_0, .int s1_1, .int s1_2, .int s1_3, .int s1_4, .ref q2, .ref q3, .ref q5, .ref q6, .ref q7, .ref q8, .ref q9, .ref q10])), (q2, .inl (cA 0, 9, .inl f2)), (q3, .inl (cA 0, 9, .inl f3)), (q4, .inl (cA 0, 9, .inl f4)), (q5, .inl (cA 0, 9, .inl f5))]) (wr := []) ⟨hx, hb, hml, hown, hts⟩ hE (kX7_extend_1 l D cA q0 q1 q2 q3 q4 q5 q6 q7 q8 q9 q10 x8 x9 x10 s0_3 s1_0 s1_1 s1_2 s1_3 s1_4 f2 f3 f4 f5 r19 v39 v41 v23 (rg_le s0_3l (by decide)) (rg_ge h31 (by decide)) (rg_le s1_0l (by decide)) (rg_ge s1_0u (by decide)) (rg_le s1_1l (by decide)) (rg_ge s1_1u (by decide)) (rg_le s1_2l (by decide)) (rg_ge s1_2u (by decide)) (rg_le h17 (by decide)) (rg_ge s1_3u (by decide)) (rg_le s1_4l (by decide)) (rg_ge s1_4u (by decide)) (rg_Smono f2_0 (by decide) (by decide) (by decide) (by decide)) (rg_Smono f3_0 (by decide) (by decide) (by decide) (by decide)) (rg_Smono f5_0 (by decide) (by decide) (by decide) (by decide)) (rg_le h32 (by decide)) (rg_ge r19u (by decide)) (rg_le lv39 (by decide)) (rg_ge uv39 (by decide)) (ms_pcU (rg_le a1l (by decide)) (rg_ge a1u (by decide)) h32 r19u ev33 ev34 c35 ev38 ev39 hpf)) (cwV 6 hts gX7_extend_X7_extend rfl rfl rfl (by decide +kernel) ⟨Nat.le_of_ble_eq_true rfl, Nat.le_of_ble_eq_true rfl⟩) hP hD hS hA [0, 3, 4, 5, 1, 2] [] rfl rfl rfl rfl (by decide) 0 7 rfl rfl rfl hl.1 rfl (Nat.le_of_ble_eq_true rfl) dX7_extend_125 ⟨Nat.le_of_ble_eq_true rfl, Nat.le_of_ble_eq_true rfl⟩ (fun u42 H locs hp hP hD hS => ?_)
                have hP : va_P D vwCl [(q0, .inr (7, [.int (u42.1 0), .int (u42.1 1), .int (u42.1 2), .int s0_3])), (q1, .inr (2, [.int s1_0, .int s1_1, .int s1_2, .int s1_3, .int s1_4, .ref q2, .ref q3, .ref q5, .ref q6, .ref q7, .ref q8, .ref q9, .ref q10])), (q2, .inl (cA 0, 9, .inl f2)), (q3, .inl (cA 0, 9, .inl f3)), (q4, .inl (cA 0, 9, .inl f4)), (q5, .inl (cA 0, 9, .inl f5))] H := hP
                have hD : va_D A [(q0, .inr (7, [.int (u42.1 0), .int (u42.1 1), .int (u42.1 2), .int s0_3])), (q1, .inr (2, [.int s1_0, .int s1_1, .int s1_2, .int s1_3, .int s1_4, .ref q2, .ref q3, .ref q5, .ref q6, .ref q7, .ref q8, .ref q9, .ref q10])), (q2, .inl (cA 0, 9, .inl f2)), (q3, .inl (cA 0, 9, .inl f3)), (q4, .inl (cA 0, 9, .inl f4)), (q5, .inl (cA 0, 9, .inl f5))] := hD
                exact jn27 (u42.1 0) (u42.1 1) (u42.1 2) _ _ _   (hP.sub [0, 4, 5, 1, 2, 3] rfl) (hD.sub [0, 4, 5, 1, 2, 3] (by decide) rfl) hS (lv_sub hl [0, 1, 2, 3, 4, 5, 6, 7, 8, 9] rfl)
          · have h44 : 0 ≤ r19.toInt := rg_eq_lo c29 s0_3l
            refine lv_iload hx hb dX7_extend_58 (lv_at hl 7 rfl) ?_
            refine ms_cSi (wc := []) (wr := [(q0, .inr (7, [.int x8, .int x9, .int x10, .int s0_3])), (q4, .inl (cA 0, 9, .inl f4)), (q5, .inl (cA 0, 9, .inl f5)), (q1, .inr (2, [.int s1_0, .int s1_1, .int s1_2, .int s1_3, .int s1_4, .ref q2, .ref q3, .ref q5, .ref q6, .ref q7, .ref q8, .ref q9, .ref q10])), (q2, .inl (cA 0, 9, .inl f2)), (q3, .inl (cA 0, 9, .inl f3))]) ⟨hx, hb, hml, hown, hts⟩ hE (kJ6_bitCount_0f7a4_1 l D cA a1) (va_cwS 1 hts gX7_extend_J6_bitCount_0f7a4 rfl rfl rfl (by decide +kernel) ⟨Nat.le_of_ble_eq_true rfl, Nat.le_of_ble_eq_true rfl⟩) hP hD hS hA [] [0, 1, 2, 3, 4, 5] rfl rfl rfl rfl (by decide) rfl hl.1 rfl (Nat.le_of_ble_eq_true rfl) dX7_extend_60 ⟨Nat.le_of_ble_eq_true rfl, Nat.le_of_ble_eq_true rfl⟩ (fun r46 u45 H locs hp hP hD hS => ?_)
            obtain ⟨⟨r46l, r46u⟩, exu45, -⟩ := hp
            have hP : va_P D vwCl [(q0, .inr (7, [.int x8, .int x9, .int x10, .int s0_3])), (q4, .inl (cA 0, 9, .inl f4)), (q5, .inl (cA 0, 9, .inl f5)), (q1, .inr (2, [.int s1_0, .int s1_1, .int s1_2, .int s1_3, .int s1_4, .ref q2, .ref q3, .ref q5, .ref q6, .ref q7, .ref q8, .ref q9, .ref q10])), (q2, .inl (cA 0, 9, .inl f2)), (q3, .inl (cA 0, 9, .inl f3))] H := hP
            have hD : va_D A [(q0, .inr (7, [.int x8, .int x9, .int x10, .int s0_3])), (q4, .inl (cA 0, 9, .inl f4)), (q5, .inl (cA 0, 9, .inl f5)), (q1, .inr (2, [.int s1_0, .int s1_1, .int s1_2, .int s1_3, .int s1_4, .ref q2, .ref q3, .ref q5, .ref q6, .ref q7, .ref q8, .ref q9, .ref q10])), (q2, .inl (cA 0, 9, .inl f2)), (q3, .inl (cA 0, 9, .inl f3))] := hD
            refine lv_iconst (v := 3) hx hb dX7_extend_63 (by decide) ?_
            refine lv_icmp_lt (tgt := 85) hx hb dX7_extend_64 (by decide) (fun c47 => ?_) (fun c47 => ?_)
            · have h48 : r46.toInt ≤ 2 := rg_lt_hi c47 (by decide : (3 : Int32).toInt ≤ 3) (by decide)
              refine lv_iload hx hb dX7_extend_85 (lv_at hl 1 rfl) ?_
              refine lv_aload_n hx hb dX7_extend_87 rfl (lv_at hl 3 rfl) ?_
              refine va_get (D := D) (ci := 7) (v := .int s0_3) (C := RX7) (T := TX7) (N := 4) hx hb hts hnX7 hown hE.1 hP 0 rfl rfl 3 (by decide) (hts (.fieldLink RX7 26 "MovedStones$Rounds" "start" "I") (List.mem_cons_of_mem _ (List.mem_append_left _ (List.mem_append_left _ (List.mem_append_left _ (List.mem_of_getElem? (i := 2) rfl)))))) (fun _ h9 => h9) rfl dX7_extend_88 ?_
              refine lv_icmp_le (tgt := 128) hx hb dX7_extend_91 (by decide) (fun c49 => ?_) (fun c49 => ?_)
              · exact jn27 x8 x9 x10 _ _ _   hP hD hS (lv_sub hl [0, 1, 2, 3, 4, 5, 6, 7, 8, 9] rfl)
              · have h50 : s0_3.toInt ≤ 4 := rg_lt_hi (rg_nle c49) r19u (by decide)
                have h51 : 1 ≤ r19.toInt := rg_lt_lo (rg_nle c49) s0_3l (by decide)
                refine lv_iload hx hb dX7_extend_94 (lv_at hl 7 rfl) ?_
                refine lv_iload hx hb dX7_extend_96 (lv_at hl 1 rfl) ?_
                refine lv_ishr hx hb dX7_extend_98 ?_
                refine lv_topi (fun v52 ev52 => ?_)
                refine lv_iconst (v := 1) hx hb dX7_extend_99 (by decide) ?_
                refine rg_iand1 hx hb dX7_extend_100 (fun v53 ev53 lv53 uv53 => ?_)
                refine lv_if_ne (tgt := 128) hx hb dX7_extend_101 (by decide) (fun c54 => ?_) (fun c54 => ?_)
                · have h55 : 1 ≤ v53.toInt := rg_ne_lo c54 lv53 (by decide : (0 : Int) ≤ (0 : Int32).toInt) (by decide : (0 : Int32).toInt ≤ 0) (by decide)
                  exact jn27 x8 x9 x10 _ _ _   hP hD hS (lv_sub hl [0, 1, 2, 3, 4, 5, 6, 7, 8, 9] rfl)
                · have h56 : v53.toInt ≤ 0 := rg_eq_hi c54 (by decide : (0 : Int32).toInt ≤ 0)
                  refine lv_aload_n hx hb dX7_extend_104 rfl (lv_at hl 3 rfl) ?_
                  refine lv_aload_n hx hb dX7_extend_105 rfl (lv_at hl 4 rfl) ?_
                  refine lv_aload_n hx hb dX7_extend_106 rfl (lv_at hl 5 rfl) ?_
                  refine lv_iload hx hb dX7_extend_107 (lv_at hl 1 rfl) ?_
                  refine lv_iload hx hb dX7_extend_109 (lv_at hl 7 rfl) ?_
                  refine lv_iconst (v := 1) hx hb dX7_extend_111 (by decide) ?_
                  refine lv_iload hx hb dX7_extend_112 (lv_at hl 1 rfl) ?_
                  refine rg_shl1 (lo := 2) (hi := 32) hx hb dX7_extend_114 h51 r19u (by decide) (fun v57 ev57 lv57 uv57 => ?_)
                  refine rg_ior (k := 6) (hi := 63) hx hb dX7_extend_115 a1l a1u lv57 uv57 (by decide) (fun v58 ev58 lv58 uv58 => ?_)
                  refine lv_iload hx hb dX7_extend_116 (lv_at hl 8 rfl) ?_
                  refine lv_iconst (v := 1) hx hb dX7_extend_118 (by decide) ?_
                  refine lv_iload hx hb dX7_extend_119 (lv_at hl 2 rfl) ?_
                  refine rg_shl1 (lo := 1) (hi := 256) hx hb dX7_extend_121 l6 h16 (by decide) (fun v59 ev59 lv59 uv59 => ?_)
                  refine lv_ior hx hb dX7_extend_122 ?_
                  refine lv_topi (fun v60 ev60 => ?_)
                  refine lv_iload hx hb dX7_extend_123 (lv_at hl 0 rfl) ?_
                  refine ms_cVv (qc := (RX7, TX7, 4)) (wc := [(q0, .inr (7, [.int x8, .int x9, .int x10, .int s0_3])), (q1, .inr (2, [.int s1_0, .int s1_1, .int s1_2, .int s1_3, .int s1_4, .ref q2, .ref q3, .ref q5, .ref q6, .ref q7, .ref q8, .ref q9, .ref q10])), (q2, .inl (cA 0, 9, .inl f2)), (q3, .inl (cA 0, 9, .inl f3)), (q4, .inl (cA 0, 9, .inl f4)), (q5, .inl (cA 0, 9, .inl f5))]) (wr := []) ⟨hx, hb, hml, hown, hts⟩ hE (kX7_extend_1 l D cA q0 q1 q2 q3 q4 q5 q6 q7 q8 q9 q10 x8 x9 x10 s0_3 s1_0 s1_1 s1_2 s1_3 s1_4 f2 f3 f4 f5 r19 v58 v60 v23 (rg_le s0_3l (by decide)) (rg_ge h50 (by decide)) (rg_le s1_0l (by decide)) (rg_ge s1_0u (by decide)) (rg_le s1_1l (by decide)) (rg_ge s1_1u (by decide)) (rg_le s1_2l (by decide)) (rg_ge s1_2u (by decide)) (rg_le h17 (by decide)) (rg_ge s1_3u (by decide)) (rg_le s1_4l (by decide)) (rg_ge s1_4u (by decide)) (rg_Smono f2_0 (by decide) (by decide) (by decide) (by decide)) (rg_Smono f3_0 (by decide) (by decide) (by decide) (by decide)) (rg_Smono f5_0 (by decide) (by decide) (by decide) (by decide)) (rg_le h51 (by decide)) (rg_ge r19u (by decide)) (rg_le lv58 (by decide)) (rg_ge uv58 (by decide)) (ms_pcU (rg_le a1l (by decide)) (rg_ge a1u (by decide)) h51 r19u ev52 ev53 c54 ev57 ev58 hpf)) (cwV 6 hts gX7_extend_X7_extend rfl rfl rfl (by decide +kernel) ⟨Nat.le_of_ble_eq_true rfl, Nat.le_of_ble_eq_true rfl⟩) hP hD hS hA [0, 3, 4, 5, 1, 2] [] rfl rfl rfl rfl (by decide) 0 7 rfl rfl rfl hl.1 rfl (Nat.le_of_ble_eq_true rfl) dX7_extend_125 ⟨Nat.le_of_ble_eq_true rfl, Nat.le_of_ble_eq_true rfl⟩ (fun u61 H locs hp hP hD hS => ?_)
                  have hP : va_P D vwCl [(q0, .inr (7, [.int (u61.1 0), .int (u61.1 1), .int (u61.1 2), .int s0_3])), (q1, .inr (2, [.int s1_0, .int s1_1, .int s1_2, .int s1_3, .int s1_4, .ref q2, .ref q3, .ref q5, .ref q6, .ref q7, .ref q8, .ref q9, .ref q10])), (q2, .inl (cA 0, 9, .inl f2)), (q3, .inl (cA 0, 9, .inl f3)), (q4, .inl (cA 0, 9, .inl f4)), (q5, .inl (cA 0, 9, .inl f5))] H := hP
                  have hD : va_D A [(q0, .inr (7, [.int (u61.1 0), .int (u61.1 1), .int (u61.1 2), .int s0_3])), (q1, .inr (2, [.int s1_0, .int s1_1, .int s1_2, .int s1_3, .int s1_4, .ref q2, .ref q3, .ref q5, .ref q6, .ref q7, .ref q8, .ref q9, .ref q10])), (q2, .inl (cA 0, 9, .inl f2)), (q3, .inl (cA 0, 9, .inl f3)), (q4, .inl (cA 0, 9, .inl f4)), (q5, .inl (cA 0, 9, .inl f5))] := hD
                  exact jn27 (u61.1 0) (u61.1 1) (u61.1 2) _ _ _   (hP.sub [0, 4, 5, 1, 2, 3] rfl) (hD.sub [0, 4, 5, 1, 2, 3] (by decide) rfl) hS (lv_sub hl [0, 1, 2, 3, 4, 5, 6, 7, 8, 9] rfl)
            · have h63 : 3 ≤ r46.toInt := rg_le_lo (rg_nlt c47) (by decide : (3 : Int) ≤ (3 : Int32).toInt)
              refine lv_aload_n hx hb dX7_extend_67 rfl (lv_at hl 3 rfl) ?_
              refine lv_iload hx hb dX7_extend_68 (lv_at hl 7 rfl) ?_
              refine lv_iload hx hb dX7_extend_70 (lv_at hl 8 rfl) ?_
              refine lv_iconst (v := 1) hx hb dX7_extend_72 (by decide) ?_
              refine lv_iload hx hb dX7_extend_73 (lv_at hl 2 rfl) ?_
              refine rg_shl1 (lo := 1) (hi := 256) hx hb dX7_extend_75 l6 h16 (by decide) (fun v64 ev64 lv64 uv64 => ?_)
              refine lv_ior hx hb dX7_extend_76 ?_
              refine lv_topi (fun v65 ev65 => ?_)
              refine lv_iload hx hb dX7_extend_77 (lv_at hl 0 rfl) ?_
              refine ms_cVv (qc := (RX7, TX7, 4)) (wc := [(q0, .inr (7, [.int x8, .int x9, .int x10, .int s0_3]))]) (wr := [(q4, .inl (cA 0, 9, .inl f4)), (q5, .inl (cA 0, 9, .inl f5)), (q1, .inr (2, [.int s1_0, .int s1_1, .int s1_2, .int s1_3, .int s1_4, .ref q2, .ref q3, .ref q5, .ref q6, .ref q7, .ref q8, .ref q9, .ref q10])), (q2, .inl (cA 0, 9, .inl f2)), (q3, .inl (cA 0, 9, .inl f3))]) ⟨hx, hb, hml, hown, hts⟩ hE (kX7_compare_1 l D cA q0 x8 x9 x10 s0_3 a1 v65 v23 (rg_le s0_3l (by decide)) (rg_ge s0_3u (by decide)) (rg_le a1l (by decide)) (rg_ge a1u (by decide))) (cwV 3 hts gX7_extend_X7_compare rfl rfl rfl (by decide +kernel) ⟨Nat.le_of_ble_eq_true rfl, Nat.le_of_ble_eq_true rfl⟩) hP hD hS hA [0] [1, 2, 3, 4, 5] rfl rfl rfl rfl (by decide) 0 7 rfl rfl rfl hl.1 rfl (Nat.le_of_ble_eq_true rfl) dX7_extend_79 ⟨Nat.le_of_ble_eq_true rfl, Nat.le_of_ble_eq_true rfl⟩ (fun u66 H locs hp hP hD hS => ?_)
              have hP : va_P D vwCl [(q4, .inl (cA 0, 9, .inl f4)), (q5, .inl (cA 0, 9, .inl f5)), (q1, .inr (2, [.int s1_0, .int s1_1, .int s1_2, .int s1_3, .int s1_4, .ref q2, .ref q3, .ref q5, .ref q6, .ref q7, .ref q8, .ref q9, .ref q10])), (q2, .inl (cA 0, 9, .inl f2)), (q3, .inl (cA 0, 9, .inl f3)), (q0, .inr (7, [.int (u66.1 0), .int (u66.1 1), .int (u66.1 2), .int s0_3]))] H := hP
              have hD : va_D A [(q4, .inl (cA 0, 9, .inl f4)), (q5, .inl (cA 0, 9, .inl f5)), (q1, .inr (2, [.int s1_0, .int s1_1, .int s1_2, .int s1_3, .int s1_4, .ref q2, .ref q3, .ref q5, .ref q6, .ref q7, .ref q8, .ref q9, .ref q10])), (q2, .inl (cA 0, 9, .inl f2)), (q3, .inl (cA 0, 9, .inl f3)), (q0, .inr (7, [.int (u66.1 0), .int (u66.1 1), .int (u66.1 2), .int s0_3]))] := hD
              refine lv_goto (tgt := 128) hx hb dX7_extend_82 (by decide) ?_
              exact jn27 (u66.1 0) (u66.1 1) (u66.1 2) _ _ _   (hP.sub [5, 0, 1, 2, 3, 4] rfl) (hD.sub [5, 0, 1, 2, 3, 4] (by decide) rfl) hS (lv_sub hl [0, 1, 2, 3, 4, 5, 6, 7, 8, 9] rfl)
    exact lp11 10 0 s0_0 s0_1 s0_2 _ _ _ (rg_le (by decide : (0 : Int) ≤ (0 : Int32).toInt) (by decide)) (rg_ge (by decide : (0 : Int32).toInt ≤ 0) (by decide))  (rg_mi (by decide : (0 : Int) ≤ (0 : Int32).toInt) (by decide)) hP hD hS (lv_sub hl [0, 1, 2, 3, 4, 5, 6, 7] rfl)
  · have h68 : 7 ≤ r2.toInt := rg_lt_lo (rg_nle c3) (by decide : (6 : Int) ≤ (6 : Int32).toInt) (by decide)
    exact ms_vret hx hb hr hlk (fun i => [s0_0, s0_1, s0_2].getD i 0, fun i => [].getD i ms_z, fun i => [].getD i 0) trivial hP hD hS (Nat.le_of_ble_eq_true rfl) (Nat.le_of_ble_eq_true rfl) dX7_extend_10
set_option maxHeartbeats 4000000 in
set_option maxRecDepth 100000 in
theorem kX7_extend_3 (l : Launch) (D : va_G) (cA : Nat → ClassId) (q0 q1 q2 q3 q4 q5 q6 q7 q8 q9 q10 : Nat) (s0_0 : Int32) (s0_1 : Int32) (s0_2 : Int32) (s0_3 : Int32) (s1_0 : Int32) (s1_1 : Int32) (s1_2 : Int32) (s1_3 : Int32) (s1_4 : Int32) (f2 : Nat → Int32) (f3 : Nat → Int32) (f4 : Nat → Int32) (f5 : Nat → Int32) (a0 : Int32) (a1 : Int32) (a2 : Int32) (a3 : Int32) (s0_3l : 0 ≤ s0_3.toInt) (s0_3u : s0_3.toInt ≤ 5) (s1_0l : 0 ≤ s1_0.toInt) (s1_0u : s1_0.toInt ≤ 6) (s1_1l : 0 ≤ s1_1.toInt) (s1_1u : s1_1.toInt ≤ 4) (s1_2l : 0 ≤ s1_2.toInt) (s1_2u : s1_2.toInt ≤ 9) (s1_3l : 0 ≤ s1_3.toInt) (s1_3u : s1_3.toInt ≤ 9) (s1_4l : 0 ≤ s1_4.toInt) (s1_4u : s1_4.toInt ≤ 6) (f2_0 : rg_S f2 0 9 0 5) (f3_0 : rg_S f3 0 9 0 5) (f5_0 : rg_S f5 0 9 0 99) (a0l : 0 ≤ a0.toInt) (a0u : a0.toInt ≤ 5) (a1l : 0 ≤ a1.toInt) (a1u : a1.toInt ≤ 63) (hpf : ms_pc a1 = 4) : ms_Mv l yX7_extend wsX7_extend ({ frames := 3, cells := 0, slots := 0, locals := 82 } : Room) D cA [.ref q0, .ref q1, .ref q4, .int a0, .int a1, .int a2, .int a3] [(q0, .inr (7, [.int s0_0, .int s0_1, .int s0_2, .int s0_3])), (q1, .inr (2, [.int s1_0, .int s1_1, .int s1_2, .int s1_3, .int s1_4, .ref q2, .ref q3, .ref q5, .ref q6, .ref q7, .ref q8, .ref q9, .ref q10])), (q2, .inl (cA 0, 9, .inl f2)), (q3, .inl (cA 0, 9, .inl f3)), (q4, .inl (cA 0, 9, .inl f4)), (q5, .inl (cA 0, 9, .inl f5))] (fun (u : ((Nat → Int32) × (Nat → Nat → Int32) × (Nat → Int64))) => True) (fun (u : ((Nat → Int32) × (Nat → Nat → Int32) × (Nat → Int64))) => [(q0, .inr (7, [.int (u.1 0), .int (u.1 1), .int (u.1 2), .int s0_3])), (q1, .inr (2, [.int s1_0, .int s1_1, .int s1_2, .int s1_3, .int s1_4, .ref q2, .ref q3, .ref q5, .ref q6, .ref q7, .ref q8, .ref q9, .ref q10])), (q2, .inl (cA 0, 9, .inl f2)), (q3, .inl (cA 0, 9, .inl f3)), (q4, .inl (cA 0, 9, .inl f4)), (q5, .inl (cA 0, 9, .inl f5))]) := by
  refine ms_Mv_of (cc := cX7_extend) (maxL := 10) (ret := none) (by decide) rfl (Nat.le_of_ble_eq_true rfl) ?_
  intro p e s m args below meth c A ls hB hE hA hP hD hS hl
  obtain ⟨hx, hb, hr, hml, hown, hts, hlk, hnm⟩ := hB
  have hown : s.vm.findClass RX7 = some m.cls := hown
  have hnX2 : ∀ w ∈ u_ws RX2 TX2 13, w ∈ wsX7_extend := fun _ h => List.mem_cons_of_mem _ (List.mem_append_left _ (List.mem_append_right _ (h)))
  have hnX7 : ∀ w ∈ u_ws RX7 TX7 4, w ∈ wsX7_extend := fun _ h => List.mem_cons_of_mem _ (List.mem_append_right _ (h))
  have hl : lv_has ls 10 [(0, .ref q0), (1, .ref q1), (2, .ref q4), (3, .int a0), (4, .int a1), (5, .int a2), (6, .int a3)] := hl
  refine lv_iload hx hb dX7_extend_0 (lv_at hl 4 rfl) ?_
  refine ms_cSi (wc := []) (wr := [(q0, .inr (7, [.int s0_0, .int s0_1, .int s0_2, .int s0_3])), (q1, .inr (2, [.int s1_0, .int s1_1, .int s1_2, .int s1_3, .int s1_4, .ref q2, .ref q3, .ref q5, .ref q6, .ref q7, .ref q8, .ref q9, .ref q10])), (q2, .inl (cA 0, 9, .inl f2)), (q3, .inl (cA 0, 9, .inl f3)), (q4, .inl (cA 0, 9, .inl f4)), (q5, .inl (cA 0, 9, .inl f5))]) ⟨hx, hb, hml, hown, hts⟩ hE (kJ6_bitCount_0f7a4_1 l D cA a1) (va_cwS 1 hts gX7_extend_J6_bitCount_0f7a4 rfl rfl rfl (by decide +kernel) ⟨Nat.le_of_ble_eq_true rfl, Nat.le_of_ble_eq_true rfl⟩) hP hD hS hA [] [0, 1, 2, 3, 4, 5] rfl rfl rfl rfl (by decide) rfl hl.1 rfl (Nat.le_of_ble_eq_true rfl) dX7_extend_2 ⟨Nat.le_of_ble_eq_true rfl, Nat.le_of_ble_eq_true rfl⟩ (fun r2 u1 H locs hp hP hD hS => ?_)
  obtain ⟨⟨r2l, r2u⟩, exu1, -⟩ := hp
  have hP : va_P D vwCl [(q0, .inr (7, [.int s0_0, .int s0_1, .int s0_2, .int s0_3])), (q1, .inr (2, [.int s1_0, .int s1_1, .int s1_2, .int s1_3, .int s1_4, .ref q2, .ref q3, .ref q5, .ref q6, .ref q7, .ref q8, .ref q9, .ref q10])), (q2, .inl (cA 0, 9, .inl f2)), (q3, .inl (cA 0, 9, .inl f3)), (q4, .inl (cA 0, 9, .inl f4)), (q5, .inl (cA 0, 9, .inl f5))] H := hP
  have hD : va_D A [(q0, .inr (7, [.int s0_0, .int s0_1, .int s0_2, .int s0_3])), (q1, .inr (2, [.int s1_0, .int s1_1, .int s1_2, .int s1_3, .int s1_4, .ref q2, .ref q3, .ref q5, .ref q6, .ref q7, .ref q8, .ref q9, .ref q10])), (q2, .inl (cA 0, 9, .inl f2)), (q3, .inl (cA 0, 9, .inl f3)), (q4, .inl (cA 0, 9, .inl f4)), (q5, .inl (cA 0, 9, .inl f5))] := hD
  refine lv_bipush (v := 6) hx hb dX7_extend_5 (by decide) ?_
  refine lv_icmp_le (tgt := 11) hx hb dX7_extend_7 (by decide) (fun c3 => ?_) (fun c3 => ?_)
  · have h4 : r2.toInt ≤ 6 := rg_le_hi c3 (by decide : (6 : Int32).toInt ≤ 6)
    refine lv_iconst (v := 0) hx hb dX7_extend_11 (by decide) ?_
    refine lv_istore (lv' := [(7, .int 0), (0, .ref q0), (1, .ref q1), (2, .ref q4), (3, .int a0), (4, .int a1), (5, .int a2), (6, .int a3)]) hx hb dX7_extend_12 hl (by decide) rfl (fun ls hl => ?_)
    have lp11 : ∀ (n12 : Nat) (x5 : Int32) (x8 : Int32) (x9 : Int32) (x10 : Int32) (H : Heap) (locs : List Loc) (ls : Array Slot), 0 ≤ x5.toInt → x5.toInt ≤ 9 → 9 + 1 ≤ x5.toInt + (n12 : Int) → va_P D vwCl [(q0, .inr (7, [.int x8, .int x9, .int x10, .int s0_3])), (q1, .inr (2, [.int s1_0, .int s1_1, .int s1_2, .int s1_3, .int s1_4, .ref q2, .ref q3, .ref q5, .ref q6, .ref q7, .ref q8, .ref q9, .ref q10])), (q2, .inl (cA 0, 9, .inl f2)), (q3, .inl (cA 0, 9, .inl f3)), (q4, .inl (cA 0, 9, .inl f4)), (q5, .inl (cA 0, 9, .inl f5))] H → va_D A [(q0, .inr (7, [.int x8, .int x9, .int x10, .int s0_3])), (q1, .inr (2, [.int s1_0, .int s1_1, .int s1_2, .int s1_3, .int s1_4, .ref q2, .ref q3, .ref q5, .ref q6, .ref q7, .ref q8, .ref q9, .ref q10])), (q2, .inl (cA 0, 9, .inl f2)), (q3, .inl (cA 0, 9, .inl f3)), (q4, .inl (cA 0, 9, .inl f4)), (q5, .inl (cA 0, 9, .inl f5))] → va_S A s.heap H locs → lv_has ls 10 [(7, .int x5), (0, .ref q0), (1, .ref q1), (2, .ref q4), (3, .int a0), (4, .int a1), (5, .int a2), (6, .int a3)] → W p l e ({ frames := 3, cells := 0, slots := 0, locals := 82 } : Room) s m args below meth c H locs 0 0 (MQ below (ms_Qv D A (fun (u : ((Nat → Int32) × (Nat → Nat → Int32) × (Nat → Int64))) => True) (fun (u : ((Nat → Int32) × (Nat → Nat → Int32) × (Nat → Int64))) => [(q0, .inr (7, [.int (u.1 0), .int (u.1 1), .int (u.1 2), .int s0_3])), (q1, .inr (2, [.int s1_0, .int s1_1, .int s1_2, .int s1_3, .int s1_4, .ref q2, .ref q3, .ref q5, .ref q6, .ref q7, .ref q8, .ref q9, .ref q10])), (q2, .inl (cA 0, 9, .inl f2)), (q3, .inl (cA 0, 9, .inl f3)), (q4, .inl (cA 0, 9, .inl f4)), (q5, .inl (cA 0, 9, .inl f5))])) args s 0 0 A) (F0 m 14 ls []) := by
      intro n12
      induction n12 with
      | zero => intro x5 x8 x9 x10 H locs ls l6 u7  hm14; exact (rg_m0 hm14 u7).elim
      | succ n12 ih13 =>
        intro x5 x8 x9 x10 H locs ls l6 u7  hm14 hP hD hS hl
        refine lv_iload hx hb dX7_extend_14 (lv_at hl 0 rfl) ?_
        refine lv_aload_n hx hb dX7_extend_16 rfl (lv_at hl 2 rfl) ?_
        refine va_get (D := D) (ci := 2) (v := .int s1_3) (C := RX2) (T := TX2) (N := 13) hx hb hts hnX2 hown hE.1 hP 1 rfl rfl 3 (by decide) (hts (.fieldLink RX7 39 "MovedStones$Land" "roads" "I") (List.mem_cons_of_mem _ (List.mem_append_left _ (List.mem_append_left _ (List.mem_append_left _ (List.mem_of_getElem? (i := 0) rfl)))))) (fun _ h9 => h9) rfl dX7_extend_17 ?_
        refine lv_icmp_ge (tgt := 134) hx hb dX7_extend_20 (by decide) (fun c15 => ?_) (fun c15 => ?_)
        · exact ms_vret hx hb hr hlk (fun i => [x8, x9, x10].getD i 0, fun i => [].getD i ms_z, fun i => [].getD i 0) trivial hP hD hS (Nat.le_of_ble_eq_true rfl) (Nat.le_of_ble_eq_true rfl) dX7_extend_134
        · have h16 : x5.toInt ≤ 8 := rg_lt_hi (rg_nle c15) s1_3u (by decide)
          have h17 : 1 ≤ s1_3.toInt := rg_lt_lo (rg_nle c15) l6 (by decide)
          refine lv_aload_n hx hb dX7_extend_23 rfl (lv_at hl 2 rfl) ?_
          refine lv_iload hx hb dX7_extend_24 (lv_at hl 0 rfl) ?_
          refine lv_iload_n hx hb dX7_extend_26 rfl (lv_at hl 4 rfl) ?_
          refine ms_cVi (qc := (RX2, TX2, 13)) (wc := [(q1, .inr (2, [.int s1_0, .int s1_1, .int s1_2, .int s1_3, .int s1_4, .ref q2, .ref q3, .ref q5, .ref q6, .ref q7, .ref q8, .ref q9, .ref q10])), (q2, .inl (cA 0, 9, .inl f2)), (q3, .inl (cA 0, 9, .inl f3))]) (wr := [(q0, .inr (7, [.int x8, .int x9, .int x10, .int s0_3])), (q4, .inl (cA 0, 9, .inl f4)), (q5, .inl (cA 0, 9, .inl f5))]) ⟨hx, hb, hml, hown, hts⟩ hE (kX2_otherEnd_1 l D cA q1 q2 q3 q5 q6 q7 q8 q9 q10 s1_0 s1_1 s1_2 s1_3 s1_4 f2 f3 x5 a0 (rg_le s1_0l (by decide)) (rg_ge s1_0u (by decide)) (rg_le s1_1l (by decide)) (rg_ge s1_1u (by decide)) (rg_le s1_2l (by decide)) (rg_ge s1_2u (by decide)) (rg_le h17 (by decide)) (rg_ge s1_3u (by decide)) (rg_le s1_4l (by decide)) (rg_ge s1_4u (by decide)) (rg_Smono f2_0 (by decide) (by decide) (by decide) (by decide)) (rg_Smono f3_0 (by decide) (by decide) (by decide) (by decide)) (rg_le l6 (by decide)) (rg_ge h16 (by decide))) (cwV 2 hts gX7_extend_X2_otherEnd rfl rfl rfl (by decide +kernel) ⟨Nat.le_of_ble_eq_true rfl, Nat.le_of_ble_eq_true rfl⟩) hP hD hS hA [1, 2, 3] [0, 4, 5] rfl rfl rfl rfl (by decide) 0 2 rfl rfl rfl hl.1 rfl (Nat.le_of_ble_eq_true rfl) dX7_extend_27 ⟨Nat.le_of_ble_eq_true rfl, Nat.le_of_ble_eq_true rfl⟩ (fun r19 u18 H locs hp hP hD hS => ?_)
          obtain ⟨⟨r19l, r19u⟩, exu18, -⟩ := hp
          have hP : va_P D vwCl [(q0, .inr (7, [.int x8, .int x9, .int x10, .int s0_3])), (q4, .inl (cA 0, 9, .inl f4)), (q5, .inl (cA 0, 9, .inl f5)), (q1, .inr (2, [.int s1_0, .int s1_1, .int s1_2, .int s1_3, .int s1_4, .ref q2, .ref q3, .ref q5, .ref q6, .ref q7, .ref q8, .ref q9, .ref q10])), (q2, .inl (cA 0, 9, .inl f2)), (q3, .inl (cA 0, 9, .inl f3))] H := hP
          have hD : va_D A [(q0, .inr (7, [.int x8, .int x9, .int x10, .int s0_3])), (q4, .inl (cA 0, 9, .inl f4)), (q5, .inl (cA 0, 9, .inl f5)), (q1, .inr (2, [.int s1_0, .int s1_1, .int s1_2, .int s1_3, .int s1_4, .ref q2, .ref q3, .ref q5, .ref q6, .ref q7, .ref q8, .ref q9, .ref q10])), (q2, .inl (cA 0, 9, .inl f2)), (q3, .inl (cA 0, 9, .inl f3))] := hD
          refine lv_istore (lv' := [(8, .int r19), (7, .int x5), (0, .ref q0), (1, .ref q1), (2, .ref q4), (3, .int a0), (4, .int a1), (5, .int a2), (6, .int a3)]) hx hb dX7_extend_30 hl (by decide) rfl (fun ls hl => ?_)
          refine lv_iload hx hb dX7_extend_32 (lv_at hl 8 rfl) ?_
          refine lv_aload_n hx hb dX7_extend_34 rfl (lv_at hl 4 rfl) ?_
          refine lv_iload hx hb dX7_extend_35 (lv_at hl 1 rfl) ?_
          refine rg_iald0 hx hb hE hP (q0 := 1) rfl l6 h16 (by decide) dX7_extend_37 (fun v20 ev20 => ?_)
          refine lv_iadd hx hb dX7_extend_38 ?_
          refine lv_topi (fun v21 ev21 => ?_)
          refine lv_aload_n hx hb dX7_extend_39 rfl (lv_at hl 3 rfl) ?_
          refine va_get (D := D) (ci := 2) (v := .ref q5) (C := RX2) (T := TX2) (N := 13) hx hb hts hnX2 hown hE.1 hP 3 rfl rfl 7 (by decide) (hts (.fieldLink RX7 46 "MovedStones$Land" "feet" "[I") (List.mem_cons_of_mem _ (List.mem_append_left _ (List.mem_append_left _ (List.mem_append_left _ (List.mem_of_getElem? (i := 1) rfl)))))) (fun _ h9 => h9) rfl dX7_extend_40 ?_
          refine lv_iload hx hb dX7_extend_43 (lv_at hl 1 rfl) ?_
          refine rg_iald hx hb hE hP (q0 := 2) rfl l6 h16 f5_0 (by decide) dX7_extend_45 (fun v22 ev22 lv22 uv22 => ?_)
          refine lv_isub hx hb dX7_extend_46 ?_
          refine lv_topi (fun v23 ev23 => ?_)
          refine lv_istore (lv' := [(9, .int v23), (8, .int r19), (7, .int x5), (0, .ref q0), (1, .ref q1), (2, .ref q4), (3, .int a0), (4, .int a1), (5, .int a2), (6, .int a3)]) hx hb dX7_extend_47 hl (by decide) rfl (fun ls hl => ?_)
          refine lv_iload hx hb dX7_extend_49 (lv_at hl 1 rfl) ?_
          refine lv_aload_n hx hb dX7_extend_51 rfl (lv_at hl 3 rfl) ?_
          refine va_get (D := D) (ci := 7) (v := .int s0_3) (C := RX7) (T := TX7) (N := 4) hx hb hts hnX7 hown hE.1 hP 0 rfl rfl 3 (by decide) (hts (.fieldLink RX7 26 "MovedStones$Rounds" "start" "I") (List.mem_cons_of_mem _ (List.mem_append_left _ (List.mem_append_left _ (List.mem_append_left _ (List.mem_of_getElem? (i := 2) rfl)))))) (fun _ h9 => h9) rfl dX7_extend_52 ?_
          have jn27 : ∀ (x24 : Int32) (x25 : Int32) (x26 : Int32) (H : Heap) (locs : List Loc) (ls : Array Slot), va_P D vwCl [(q0, .inr (7, [.int x24, .int x25, .int x26, .int s0_3])), (q4, .inl (cA 0, 9, .inl f4)), (q5, .inl (cA 0, 9, .inl f5)), (q1, .inr (2, [.int s1_0, .int s1_1, .int s1_2, .int s1_3, .int s1_4, .ref q2, .ref q3, .ref q5, .ref q6, .ref q7, .ref q8, .ref q9, .ref q10])), (q2, .inl (cA 0, 9, .inl f2)), (q3, .inl (cA 0, 9, .inl f3))] H → va_D A [(q0, .inr (7, [.int x24, .int x25, .int x26, .int s0_3])), (q4, .inl (cA 0, 9, .inl f4)), (q5, .inl (cA 0, 9, .inl f5)), (q1, .inr (2, [.int s1_0, .int s1_1, .int s1_2, .int s1_3, .int s1_4, .ref q2, .ref q3, .ref q5, .ref q6, .ref q7, .ref q8, .ref q9, .ref q10])), (q2, .inl (cA 0, 9, .inl f2)), (q3, .inl (cA 0, 9, .inl f3))] → va_S A s.heap H locs → lv_has ls 10 [(9, .int v23), (8, .int r19), (7, .int x5), (0, .ref q0), (1, .ref q1), (2, .ref q4), (3, .int a0), (4, .int a1), (5, .int a2), (6, .int a3)] → W p l e ({ frames := 3, cells := 0, slots := 0, locals := 82 } : Room) s m args below meth c H locs 0 0 (MQ below (ms_Qv D A (fun (u : ((Nat → Int32) × (Nat → Nat → Int32) × (Nat → Int64))) => True) (fun (u : ((Nat → Int32) × (Nat → Nat → Int32) × (Nat → Int64))) => [(q0, .inr (7, [.int (u.1 0), .int (u.1 1), .int (u.1 2), .int s0_3])), (q1, .inr (2, [.int s1_0, .int s1_1, .int s1_2, .int s1_3, .int s1_4, .ref q2, .ref q3, .ref q5, .ref q6, .ref q7, .ref q8, .ref q9, .ref q10])), (q2, .inl (cA 0, 9, .inl f2)), (q3, .inl (cA 0, 9, .inl f3)), (q4, .inl (cA 0, 9, .inl f4)), (q5, .inl (cA 0, 9, .inl f5))])) args s 0 0 A) (F0 m 128 ls []) := by
            intro x24 x25 x26 H locs ls   hP hD hS hl
            refine rg_iinc (lo := 1) (hi := 9) (fun z => [(7, .int z), (9, .int v23), (8, .int r19), (0, .ref q0), (1, .ref q1), (2, .ref q4), (3, .int a0), (4, .int a1), (5, .int a2), (6, .int a3)]) hx hb dX7_extend_128 hl (k := 2) rfl (by decide) l6 h16 (by decide) (fun _ => rfl) (fun v28 ev28 lv28 uv28 ls hl => ?_)
            have hl : lv_has ls 10 [(7, .int v28), (9, .int v23), (8, .int r19), (0, .ref q0), (1, .ref q1), (2, .ref q4), (3, .int a0), (4, .int a1), (5, .int a2), (6, .int a3)] := hl
            refine lv_goto (tgt := 14) hx hb dX7_extend_131 (by decide) ?_
            exact ih13 v28 x24 x25 x26 _ _ _ (rg_le lv28 (by decide)) (rg_ge uv28 (by decide))  (rg_ms hm14 ev28 (by decide)) (hP.sub [0, 3, 4, 5, 1, 2] rfl) (hD.sub [0, 3, 4, 5, 1, 2] (by decide) rfl) hS (lv_sub hl [0, 3, 4, 5, 6, 7, 8, 9] rfl)
          refine lv_icmp_ne (tgt := 85) hx hb dX7_extend_55 (by decide) (fun c29 => ?_) (fun c29 => ?_)
          · refine lv_iload hx hb dX7_extend_85 (lv_at hl 1 rfl) ?_
            refine lv_aload_n hx hb dX7_extend_87 rfl (lv_at hl 3 rfl) ?_
            refine va_get (D := D) (ci := 7) (v := .int s0_3) (C := RX7) (T := TX7) (N := 4) hx hb hts hnX7 hown hE.1 hP 0 rfl rfl 3 (by decide) (hts (.fieldLink RX7 26 "MovedStones$Rounds" "start" "I") (List.mem_cons_of_mem _ (List.mem_append_left _ (List.mem_append_left _ (List.mem_append_left _ (List.mem_of_getElem? (i := 2) rfl)))))) (fun _ h9 => h9) rfl dX7_extend_88 ?_
            refine lv_icmp_le (tgt := 128) hx hb dX7_extend_91 (by decide) (fun c30 => ?_) (fun c30 => ?_)
            · exact jn27 x8 x9 x10 _ _ _   hP hD hS (lv_sub hl [0, 1, 2, 3, 4, 5, 6, 7, 8, 9] rfl)
            · have h31 : s0_3.toInt ≤ 4 := rg_lt_hi (rg_nle c30) r19u (by decide)
              have h32 : 1 ≤ r19.toInt := rg_lt_lo (rg_nle c30) s0_3l (by decide)
              refine lv_iload hx hb dX7_extend_94 (lv_at hl 7 rfl) ?_
              refine lv_iload hx hb dX7_extend_96 (lv_at hl 1 rfl) ?_
              refine lv_ishr hx hb dX7_extend_98 ?_
              refine lv_topi (fun v33 ev33 => ?_)
              refine lv_iconst (v := 1) hx hb dX7_extend_99 (by decide) ?_
              refine rg_iand1 hx hb dX7_extend_100 (fun v34 ev34 lv34 uv34 => ?_)
              refine lv_if_ne (tgt := 128) hx hb dX7_extend_101 (by decide) (fun c35 => ?_) (fun c35 => ?_)
              · have h36 : 1 ≤ v34.toInt := rg_ne_lo c35 lv34 (by decide : (0 : Int) ≤ (0 : Int32).toInt) (by decide : (0 : Int32).toInt ≤ 0) (by decide)
                exact jn27 x8 x9 x10 _ _ _   hP hD hS (lv_sub hl [0, 1, 2, 3, 4, 5, 6, 7, 8, 9] rfl)
              · have h37 : v34.toInt ≤ 0 := rg_eq_hi c35 (by decide : (0 : Int32).toInt ≤ 0)
                refine lv_aload_n hx hb dX7_extend_104 rfl (lv_at hl 3 rfl) ?_
                refine lv_aload_n hx hb dX7_extend_105 rfl (lv_at hl 4 rfl) ?_
                refine lv_aload_n hx hb dX7_extend_106 rfl (lv_at hl 5 rfl) ?_
                refine lv_iload hx hb dX7_extend_107 (lv_at hl 1 rfl) ?_
                refine lv_iload hx hb dX7_extend_109 (lv_at hl 7 rfl) ?_
                refine lv_iconst (v := 1) hx hb dX7_extend_111 (by decide) ?_
                refine lv_iload hx hb dX7_extend_112 (lv_at hl 1 rfl) ?_
                refine rg_shl1 (lo := 2) (hi := 32) hx hb dX7_extend_114 h32 r19u (by decide) (fun v38 ev38 lv38 uv38 => ?_)
                refine rg_ior (k := 6) (hi := 63) hx hb dX7_extend_115 a1l a1u lv38 uv38 (by decide) (fun v39 ev39 lv39 uv39 => ?_)
                refine lv_iload hx hb dX7_extend_116 (lv_at hl 8 rfl) ?_
                refine lv_iconst (v := 1) hx hb dX7_extend_118 (by decide) ?_
                refine lv_iload hx hb dX7_extend_119 (lv_at hl 2 rfl) ?_
                refine rg_shl1 (lo := 1) (hi := 256) hx hb dX7_extend_121 l6 h16 (by decide) (fun v40 ev40 lv40 uv40 => ?_)
                refine lv_ior hx hb dX7_extend_122 ?_
                refine lv_topi (fun v41 ev41 => ?_)
                refine lv_iload hx hb dX7_extend_123 (lv_at hl 0 rfl) ?_
                refine ms_cVv (qc := (RX7, TX7, 4)) (wc := [(q0, .inr (7, [.int x8, .int x9, .int x10, .int s0_3])), (q1, .inr (2, [.int s1_0, .int s1_1, .int s1_2, .int s1_3, .int s1_4, .ref q2, .ref q3, .ref q5, .ref q6, .ref q7, .ref q8, .ref q9, .ref q10])), (q2, .inl (cA 0, 9, .inl f2)), (q3, .inl (cA 0, 9, .inl f3)), (q4, .inl (cA 0, 9, .inl f4)), (q5, .inl (cA 0, 9, .inl f5))]) (wr := []) ⟨hx, hb, hml, hown, hts⟩ hE (kX7_extend_2 l D cA q0 q1 q2 q3 q4 q5 q6 q7 q8 q9 q10 x8 x9 x10 s0_3 s1_0 s1_1 s1_2 s1_3 s1_4 f2 f3 f4 f5 r19 v39 v41 v23 (rg_le s0_3l (by decide)) (rg_ge h31 (by decide)) (rg_le s1_0l (by decide)) (rg_ge s1_0u (by decide)) (rg_le s1_1l (by decide)) (rg_ge s1_1u (by decide)) (rg_le s1_2l (by decide)) (rg_ge s1_2u (by decide)) (rg_le h17 (by decide)) (rg_ge s1_3u (by decide)) (rg_le s1_4l (by decide)) (rg_ge s1_4u (by decide)) (rg_Smono f2_0 (by decide) (by decide) (by decide) (by decide)) (rg_Smono f3_0 (by decide) (by decide) (by decide) (by decide)) (rg_Smono f5_0 (by decide) (by decide) (by decide) (by decide)) (rg_le h32 (by decide)) (rg_ge r19u (by decide)) (rg_le lv39 (by decide)) (rg_ge uv39 (by decide)) (ms_pcU (rg_le a1l (by decide)) (rg_ge a1u (by decide)) h32 r19u ev33 ev34 c35 ev38 ev39 hpf)) (cwV 6 hts gX7_extend_X7_extend rfl rfl rfl (by decide +kernel) ⟨Nat.le_of_ble_eq_true rfl, Nat.le_of_ble_eq_true rfl⟩) hP hD hS hA [0, 3, 4, 5, 1, 2] [] rfl rfl rfl rfl (by decide) 0 7 rfl rfl rfl hl.1 rfl (Nat.le_of_ble_eq_true rfl) dX7_extend_125 ⟨Nat.le_of_ble_eq_true rfl, Nat.le_of_ble_eq_true rfl⟩ (fun u42 H locs hp hP hD hS => ?_)
                have hP : va_P D vwCl [(q0, .inr (7, [.int (u42.1 0), .int (u42.1 1), .int (u42.1 2), .int s0_3])), (q1, .inr (2, [.int s1_0, .int s1_1, .int s1_2, .int s1_3, .int s1_4, .ref q2, .ref q3, .ref q5, .ref q6, .ref q7, .ref q8, .ref q9, .ref q10])), (q2, .inl (cA 0, 9, .inl f2)), (q3, .inl (cA 0, 9, .inl f3)), (q4, .inl (cA 0, 9, .inl f4)), (q5, .inl (cA 0, 9, .inl f5))] H := hP
                have hD : va_D A [(q0, .inr (7, [.int (u42.1 0), .int (u42.1 1), .int (u42.1 2), .int s0_3])), (q1, .inr (2, [.int s1_0, .int s1_1, .int s1_2, .int s1_3, .int s1_4, .ref q2, .ref q3, .ref q5, .ref q6, .ref q7, .ref q8, .ref q9, .ref q10])), (q2, .inl (cA 0, 9, .inl f2)), (q3, .inl (cA 0, 9, .inl f3)), (q4, .inl (cA 0, 9, .inl f4)), (q5, .inl (cA 0, 9, .inl f5))] := hD
                exact jn27 (u42.1 0) (u42.1 1) (u42.1 2) _ _ _   (hP.sub [0, 4, 5, 1, 2, 3] rfl) (hD.sub [0, 4, 5, 1, 2, 3] (by decide) rfl) hS (lv_sub hl [0, 1, 2, 3, 4, 5, 6, 7, 8, 9] rfl)
          · have h44 : 0 ≤ r19.toInt := rg_eq_lo c29 s0_3l
            refine lv_iload hx hb dX7_extend_58 (lv_at hl 7 rfl) ?_
            refine ms_cSi (wc := []) (wr := [(q0, .inr (7, [.int x8, .int x9, .int x10, .int s0_3])), (q4, .inl (cA 0, 9, .inl f4)), (q5, .inl (cA 0, 9, .inl f5)), (q1, .inr (2, [.int s1_0, .int s1_1, .int s1_2, .int s1_3, .int s1_4, .ref q2, .ref q3, .ref q5, .ref q6, .ref q7, .ref q8, .ref q9, .ref q10])), (q2, .inl (cA 0, 9, .inl f2)), (q3, .inl (cA 0, 9, .inl f3))]) ⟨hx, hb, hml, hown, hts⟩ hE (kJ6_bitCount_0f7a4_1 l D cA a1) (va_cwS 1 hts gX7_extend_J6_bitCount_0f7a4 rfl rfl rfl (by decide +kernel) ⟨Nat.le_of_ble_eq_true rfl, Nat.le_of_ble_eq_true rfl⟩) hP hD hS hA [] [0, 1, 2, 3, 4, 5] rfl rfl rfl rfl (by decide) rfl hl.1 rfl (Nat.le_of_ble_eq_true rfl) dX7_extend_60 ⟨Nat.le_of_ble_eq_true rfl, Nat.le_of_ble_eq_true rfl⟩ (fun r46 u45 H locs hp hP hD hS => ?_)
            obtain ⟨⟨r46l, r46u⟩, exu45, -⟩ := hp
            have hP : va_P D vwCl [(q0, .inr (7, [.int x8, .int x9, .int x10, .int s0_3])), (q4, .inl (cA 0, 9, .inl f4)), (q5, .inl (cA 0, 9, .inl f5)), (q1, .inr (2, [.int s1_0, .int s1_1, .int s1_2, .int s1_3, .int s1_4, .ref q2, .ref q3, .ref q5, .ref q6, .ref q7, .ref q8, .ref q9, .ref q10])), (q2, .inl (cA 0, 9, .inl f2)), (q3, .inl (cA 0, 9, .inl f3))] H := hP
            have hD : va_D A [(q0, .inr (7, [.int x8, .int x9, .int x10, .int s0_3])), (q4, .inl (cA 0, 9, .inl f4)), (q5, .inl (cA 0, 9, .inl f5)), (q1, .inr (2, [.int s1_0, .int s1_1, .int s1_2, .int s1_3, .int s1_4, .ref q2, .ref q3, .ref q5, .ref q6, .ref q7, .ref q8, .ref q9, .ref q10])), (q2, .inl (cA 0, 9, .inl f2)), (q3, .inl (cA 0, 9, .inl f3))] := hD
            refine lv_iconst (v := 3) hx hb dX7_extend_63 (by decide) ?_
            refine lv_icmp_lt (tgt := 85) hx hb dX7_extend_64 (by decide) (fun c47 => ?_) (fun c47 => ?_)
            · have h48 : r46.toInt ≤ 2 := rg_lt_hi c47 (by decide : (3 : Int32).toInt ≤ 3) (by decide)
              refine lv_iload hx hb dX7_extend_85 (lv_at hl 1 rfl) ?_
              refine lv_aload_n hx hb dX7_extend_87 rfl (lv_at hl 3 rfl) ?_
              refine va_get (D := D) (ci := 7) (v := .int s0_3) (C := RX7) (T := TX7) (N := 4) hx hb hts hnX7 hown hE.1 hP 0 rfl rfl 3 (by decide) (hts (.fieldLink RX7 26 "MovedStones$Rounds" "start" "I") (List.mem_cons_of_mem _ (List.mem_append_left _ (List.mem_append_left _ (List.mem_append_left _ (List.mem_of_getElem? (i := 2) rfl)))))) (fun _ h9 => h9) rfl dX7_extend_88 ?_
              refine lv_icmp_le (tgt := 128) hx hb dX7_extend_91 (by decide) (fun c49 => ?_) (fun c49 => ?_)
              · exact jn27 x8 x9 x10 _ _ _   hP hD hS (lv_sub hl [0, 1, 2, 3, 4, 5, 6, 7, 8, 9] rfl)
              · have h50 : s0_3.toInt ≤ 4 := rg_lt_hi (rg_nle c49) r19u (by decide)
                have h51 : 1 ≤ r19.toInt := rg_lt_lo (rg_nle c49) s0_3l (by decide)
                refine lv_iload hx hb dX7_extend_94 (lv_at hl 7 rfl) ?_
                refine lv_iload hx hb dX7_extend_96 (lv_at hl 1 rfl) ?_
                refine lv_ishr hx hb dX7_extend_98 ?_
                refine lv_topi (fun v52 ev52 => ?_)
                refine lv_iconst (v := 1) hx hb dX7_extend_99 (by decide) ?_
                refine rg_iand1 hx hb dX7_extend_100 (fun v53 ev53 lv53 uv53 => ?_)
                refine lv_if_ne (tgt := 128) hx hb dX7_extend_101 (by decide) (fun c54 => ?_) (fun c54 => ?_)
                · have h55 : 1 ≤ v53.toInt := rg_ne_lo c54 lv53 (by decide : (0 : Int) ≤ (0 : Int32).toInt) (by decide : (0 : Int32).toInt ≤ 0) (by decide)
                  exact jn27 x8 x9 x10 _ _ _   hP hD hS (lv_sub hl [0, 1, 2, 3, 4, 5, 6, 7, 8, 9] rfl)
                · have h56 : v53.toInt ≤ 0 := rg_eq_hi c54 (by decide : (0 : Int32).toInt ≤ 0)
                  refine lv_aload_n hx hb dX7_extend_104 rfl (lv_at hl 3 rfl) ?_
                  refine lv_aload_n hx hb dX7_extend_105 rfl (lv_at hl 4 rfl) ?_
                  refine lv_aload_n hx hb dX7_extend_106 rfl (lv_at hl 5 rfl) ?_
                  refine lv_iload hx hb dX7_extend_107 (lv_at hl 1 rfl) ?_
                  refine lv_iload hx hb dX7_extend_109 (lv_at hl 7 rfl) ?_
                  refine lv_iconst (v := 1) hx hb dX7_extend_111 (by decide) ?_
                  refine lv_iload hx hb dX7_extend_112 (lv_at hl 1 rfl) ?_
                  refine rg_shl1 (lo := 2) (hi := 32) hx hb dX7_extend_114 h51 r19u (by decide) (fun v57 ev57 lv57 uv57 => ?_)
                  refine rg_ior (k := 6) (hi := 63) hx hb dX7_extend_115 a1l a1u lv57 uv57 (by decide) (fun v58 ev58 lv58 uv58 => ?_)
                  refine lv_iload hx hb dX7_extend_116 (lv_at hl 8 rfl) ?_
                  refine lv_iconst (v := 1) hx hb dX7_extend_118 (by decide) ?_
                  refine lv_iload hx hb dX7_extend_119 (lv_at hl 2 rfl) ?_
                  refine rg_shl1 (lo := 1) (hi := 256) hx hb dX7_extend_121 l6 h16 (by decide) (fun v59 ev59 lv59 uv59 => ?_)
                  refine lv_ior hx hb dX7_extend_122 ?_
                  refine lv_topi (fun v60 ev60 => ?_)
                  refine lv_iload hx hb dX7_extend_123 (lv_at hl 0 rfl) ?_
                  refine ms_cVv (qc := (RX7, TX7, 4)) (wc := [(q0, .inr (7, [.int x8, .int x9, .int x10, .int s0_3])), (q1, .inr (2, [.int s1_0, .int s1_1, .int s1_2, .int s1_3, .int s1_4, .ref q2, .ref q3, .ref q5, .ref q6, .ref q7, .ref q8, .ref q9, .ref q10])), (q2, .inl (cA 0, 9, .inl f2)), (q3, .inl (cA 0, 9, .inl f3)), (q4, .inl (cA 0, 9, .inl f4)), (q5, .inl (cA 0, 9, .inl f5))]) (wr := []) ⟨hx, hb, hml, hown, hts⟩ hE (kX7_extend_2 l D cA q0 q1 q2 q3 q4 q5 q6 q7 q8 q9 q10 x8 x9 x10 s0_3 s1_0 s1_1 s1_2 s1_3 s1_4 f2 f3 f4 f5 r19 v58 v60 v23 (rg_le s0_3l (by decide)) (rg_ge h50 (by decide)) (rg_le s1_0l (by decide)) (rg_ge s1_0u (by decide)) (rg_le s1_1l (by decide)) (rg_ge s1_1u (by decide)) (rg_le s1_2l (by decide)) (rg_ge s1_2u (by decide)) (rg_le h17 (by decide)) (rg_ge s1_3u (by decide)) (rg_le s1_4l (by decide)) (rg_ge s1_4u (by decide)) (rg_Smono f2_0 (by decide) (by decide) (by decide) (by decide)) (rg_Smono f3_0 (by decide) (by decide) (by decide) (by decide)) (rg_Smono f5_0 (by decide) (by decide) (by decide) (by decide)) (rg_le h51 (by decide)) (rg_ge r19u (by decide)) (rg_le lv58 (by decide)) (rg_ge uv58 (by decide)) (ms_pcU (rg_le a1l (by decide)) (rg_ge a1u (by decide)) h51 r19u ev52 ev53 c54 ev57 ev58 hpf)) (cwV 6 hts gX7_extend_X7_extend rfl rfl rfl (by decide +kernel) ⟨Nat.le_of_ble_eq_true rfl, Nat.le_of_ble_eq_true rfl⟩) hP hD hS hA [0, 3, 4, 5, 1, 2] [] rfl rfl rfl rfl (by decide) 0 7 rfl rfl rfl hl.1 rfl (Nat.le_of_ble_eq_true rfl) dX7_extend_125 ⟨Nat.le_of_ble_eq_true rfl, Nat.le_of_ble_eq_true rfl⟩ (fun u61 H locs hp hP hD hS => ?_)
                  have hP : va_P D vwCl [(q0, .inr (7, [.int (u61.1 0), .int (u61.1 1), .int (u61.1 2), .int s0_3])), (q1, .inr (2, [.int s1_0, .int s1_1, .int s1_2, .int s1_3, .int s1_4, .ref q2, .ref q3, .ref q5, .ref q6, .ref q7, .ref q8, .ref q9, .ref q10])), (q2, .inl (cA 0, 9, .inl f2)), (q3, .inl (cA 0, 9, .inl f3)), (q4, .inl (cA 0, 9, .inl f4)), (q5, .inl (cA 0, 9, .inl f5))] H := hP
                  have hD : va_D A [(q0, .inr (7, [.int (u61.1 0), .int (u61.1 1), .int (u61.1 2), .int s0_3])), (q1, .inr (2, [.int s1_0, .int s1_1, .int s1_2, .int s1_3, .int s1_4, .ref q2, .ref q3, .ref q5, .ref q6, .ref q7, .ref q8, .ref q9, .ref q10])), (q2, .inl (cA 0, 9, .inl f2)), (q3, .inl (cA 0, 9, .inl f3)), (q4, .inl (cA 0, 9, .inl f4)), (q5, .inl (cA 0, 9, .inl f5))] := hD
                  exact jn27 (u61.1 0) (u61.1 1) (u61.1 2) _ _ _   (hP.sub [0, 4, 5, 1, 2, 3] rfl) (hD.sub [0, 4, 5, 1, 2, 3] (by decide) rfl) hS (lv_sub hl [0, 1, 2, 3, 4, 5, 6, 7, 8, 9] rfl)
            · have h63 : 3 ≤ r46.toInt := rg_le_lo (rg_nlt c47) (by decide : (3 : Int) ≤ (3 : Int32).toInt)
              refine lv_aload_n hx hb dX7_extend_67 rfl (lv_at hl 3 rfl) ?_
              refine lv_iload hx hb dX7_extend_68 (lv_at hl 7 rfl) ?_
              refine lv_iload hx hb dX7_extend_70 (lv_at hl 8 rfl) ?_
              refine lv_iconst (v := 1) hx hb dX7_extend_72 (by decide) ?_
              refine lv_iload hx hb dX7_extend_73 (lv_at hl 2 rfl) ?_
              refine rg_shl1 (lo := 1) (hi := 256) hx hb dX7_extend_75 l6 h16 (by decide) (fun v64 ev64 lv64 uv64 => ?_)
              refine lv_ior hx hb dX7_extend_76 ?_
              refine lv_topi (fun v65 ev65 => ?_)
              refine lv_iload hx hb dX7_extend_77 (lv_at hl 0 rfl) ?_
              refine ms_cVv (qc := (RX7, TX7, 4)) (wc := [(q0, .inr (7, [.int x8, .int x9, .int x10, .int s0_3]))]) (wr := [(q4, .inl (cA 0, 9, .inl f4)), (q5, .inl (cA 0, 9, .inl f5)), (q1, .inr (2, [.int s1_0, .int s1_1, .int s1_2, .int s1_3, .int s1_4, .ref q2, .ref q3, .ref q5, .ref q6, .ref q7, .ref q8, .ref q9, .ref q10])), (q2, .inl (cA 0, 9, .inl f2)), (q3, .inl (cA 0, 9, .inl f3))]) ⟨hx, hb, hml, hown, hts⟩ hE (kX7_compare_1 l D cA q0 x8 x9 x10 s0_3 a1 v65 v23 (rg_le s0_3l (by decide)) (rg_ge s0_3u (by decide)) (rg_le a1l (by decide)) (rg_ge a1u (by decide))) (cwV 3 hts gX7_extend_X7_compare rfl rfl rfl (by decide +kernel) ⟨Nat.le_of_ble_eq_true rfl, Nat.le_of_ble_eq_true rfl⟩) hP hD hS hA [0] [1, 2, 3, 4, 5] rfl rfl rfl rfl (by decide) 0 7 rfl rfl rfl hl.1 rfl (Nat.le_of_ble_eq_true rfl) dX7_extend_79 ⟨Nat.le_of_ble_eq_true rfl, Nat.le_of_ble_eq_true rfl⟩ (fun u66 H locs hp hP hD hS => ?_)
              have hP : va_P D vwCl [(q4, .inl (cA 0, 9, .inl f4)), (q5, .inl (cA 0, 9, .inl f5)), (q1, .inr (2, [.int s1_0, .int s1_1, .int s1_2, .int s1_3, .int s1_4, .ref q2, .ref q3, .ref q5, .ref q6, .ref q7, .ref q8, .ref q9, .ref q10])), (q2, .inl (cA 0, 9, .inl f2)), (q3, .inl (cA 0, 9, .inl f3)), (q0, .inr (7, [.int (u66.1 0), .int (u66.1 1), .int (u66.1 2), .int s0_3]))] H := hP
              have hD : va_D A [(q4, .inl (cA 0, 9, .inl f4)), (q5, .inl (cA 0, 9, .inl f5)), (q1, .inr (2, [.int s1_0, .int s1_1, .int s1_2, .int s1_3, .int s1_4, .ref q2, .ref q3, .ref q5, .ref q6, .ref q7, .ref q8, .ref q9, .ref q10])), (q2, .inl (cA 0, 9, .inl f2)), (q3, .inl (cA 0, 9, .inl f3)), (q0, .inr (7, [.int (u66.1 0), .int (u66.1 1), .int (u66.1 2), .int s0_3]))] := hD
              refine lv_goto (tgt := 128) hx hb dX7_extend_82 (by decide) ?_
              exact jn27 (u66.1 0) (u66.1 1) (u66.1 2) _ _ _   (hP.sub [5, 0, 1, 2, 3, 4] rfl) (hD.sub [5, 0, 1, 2, 3, 4] (by decide) rfl) hS (lv_sub hl [0, 1, 2, 3, 4, 5, 6, 7, 8, 9] rfl)
    exact lp11 10 0 s0_0 s0_1 s0_2 _ _ _ (rg_le (by decide : (0 : Int) ≤ (0 : Int32).toInt) (by decide)) (rg_ge (by decide : (0 : Int32).toInt ≤ 0) (by decide))  (rg_mi (by decide : (0 : Int) ≤ (0 : Int32).toInt) (by decide)) hP hD hS (lv_sub hl [0, 1, 2, 3, 4, 5, 6, 7] rfl)
  · have h68 : 7 ≤ r2.toInt := rg_lt_lo (rg_nle c3) (by decide : (6 : Int) ≤ (6 : Int32).toInt) (by decide)
    exact ms_vret hx hb hr hlk (fun i => [s0_0, s0_1, s0_2].getD i 0, fun i => [].getD i ms_z, fun i => [].getD i 0) trivial hP hD hS (Nat.le_of_ble_eq_true rfl) (Nat.le_of_ble_eq_true rfl) dX7_extend_10
set_option maxHeartbeats 4000000 in
set_option maxRecDepth 100000 in
theorem kX7_extend_4 (l : Launch) (D : va_G) (cA : Nat → ClassId) (q0 q1 q2 q3 q4 q5 q6 q7 q8 q9 q10 : Nat) (s0_0 : Int32) (s0_1 : Int32) (s0_2 : Int32) (s0_3 : Int32) (s1_0 : Int32) (s1_1 : Int32) (s1_2 : Int32) (s1_3 : Int32) (s1_4 : Int32) (f2 : Nat → Int32) (f3 : Nat → Int32) (f4 : Nat → Int32) (f5 : Nat → Int32) (a0 : Int32) (a1 : Int32) (a2 : Int32) (a3 : Int32) (s0_3l : 0 ≤ s0_3.toInt) (s0_3u : s0_3.toInt ≤ 5) (s1_0l : 0 ≤ s1_0.toInt) (s1_0u : s1_0.toInt ≤ 6) (s1_1l : 0 ≤ s1_1.toInt) (s1_1u : s1_1.toInt ≤ 4) (s1_2l : 0 ≤ s1_2.toInt) (s1_2u : s1_2.toInt ≤ 9) (s1_3l : 0 ≤ s1_3.toInt) (s1_3u : s1_3.toInt ≤ 9) (s1_4l : 0 ≤ s1_4.toInt) (s1_4u : s1_4.toInt ≤ 6) (f2_0 : rg_S f2 0 9 0 5) (f3_0 : rg_S f3 0 9 0 5) (f5_0 : rg_S f5 0 9 0 99) (a0l : 0 ≤ a0.toInt) (a0u : a0.toInt ≤ 5) (a1l : 0 ≤ a1.toInt) (a1u : a1.toInt ≤ 63) (hpf : ms_pc a1 = 3) : ms_Mv l yX7_extend wsX7_extend ({ frames := 4, cells := 0, slots := 0, locals := 111 } : Room) D cA [.ref q0, .ref q1, .ref q4, .int a0, .int a1, .int a2, .int a3] [(q0, .inr (7, [.int s0_0, .int s0_1, .int s0_2, .int s0_3])), (q1, .inr (2, [.int s1_0, .int s1_1, .int s1_2, .int s1_3, .int s1_4, .ref q2, .ref q3, .ref q5, .ref q6, .ref q7, .ref q8, .ref q9, .ref q10])), (q2, .inl (cA 0, 9, .inl f2)), (q3, .inl (cA 0, 9, .inl f3)), (q4, .inl (cA 0, 9, .inl f4)), (q5, .inl (cA 0, 9, .inl f5))] (fun (u : ((Nat → Int32) × (Nat → Nat → Int32) × (Nat → Int64))) => True) (fun (u : ((Nat → Int32) × (Nat → Nat → Int32) × (Nat → Int64))) => [(q0, .inr (7, [.int (u.1 0), .int (u.1 1), .int (u.1 2), .int s0_3])), (q1, .inr (2, [.int s1_0, .int s1_1, .int s1_2, .int s1_3, .int s1_4, .ref q2, .ref q3, .ref q5, .ref q6, .ref q7, .ref q8, .ref q9, .ref q10])), (q2, .inl (cA 0, 9, .inl f2)), (q3, .inl (cA 0, 9, .inl f3)), (q4, .inl (cA 0, 9, .inl f4)), (q5, .inl (cA 0, 9, .inl f5))]) := by
  refine ms_Mv_of (cc := cX7_extend) (maxL := 10) (ret := none) (by decide) rfl (Nat.le_of_ble_eq_true rfl) ?_
  intro p e s m args below meth c A ls hB hE hA hP hD hS hl
  obtain ⟨hx, hb, hr, hml, hown, hts, hlk, hnm⟩ := hB
  have hown : s.vm.findClass RX7 = some m.cls := hown
  have hnX2 : ∀ w ∈ u_ws RX2 TX2 13, w ∈ wsX7_extend := fun _ h => List.mem_cons_of_mem _ (List.mem_append_left _ (List.mem_append_right _ (h)))
  have hnX7 : ∀ w ∈ u_ws RX7 TX7 4, w ∈ wsX7_extend := fun _ h => List.mem_cons_of_mem _ (List.mem_append_right _ (h))
  have hl : lv_has ls 10 [(0, .ref q0), (1, .ref q1), (2, .ref q4), (3, .int a0), (4, .int a1), (5, .int a2), (6, .int a3)] := hl
  refine lv_iload hx hb dX7_extend_0 (lv_at hl 4 rfl) ?_
  refine ms_cSi (wc := []) (wr := [(q0, .inr (7, [.int s0_0, .int s0_1, .int s0_2, .int s0_3])), (q1, .inr (2, [.int s1_0, .int s1_1, .int s1_2, .int s1_3, .int s1_4, .ref q2, .ref q3, .ref q5, .ref q6, .ref q7, .ref q8, .ref q9, .ref q10])), (q2, .inl (cA 0, 9, .inl f2)), (q3, .inl (cA 0, 9, .inl f3)), (q4, .inl (cA 0, 9, .inl f4)), (q5, .inl (cA 0, 9, .inl f5))]) ⟨hx, hb, hml, hown, hts⟩ hE (kJ6_bitCount_0f7a4_1 l D cA a1) (va_cwS 1 hts gX7_extend_J6_bitCount_0f7a4 rfl rfl rfl (by decide +kernel) ⟨Nat.le_of_ble_eq_true rfl, Nat.le_of_ble_eq_true rfl⟩) hP hD hS hA [] [0, 1, 2, 3, 4, 5] rfl rfl rfl rfl (by decide) rfl hl.1 rfl (Nat.le_of_ble_eq_true rfl) dX7_extend_2 ⟨Nat.le_of_ble_eq_true rfl, Nat.le_of_ble_eq_true rfl⟩ (fun r2 u1 H locs hp hP hD hS => ?_)
  obtain ⟨⟨r2l, r2u⟩, exu1, -⟩ := hp
  have hP : va_P D vwCl [(q0, .inr (7, [.int s0_0, .int s0_1, .int s0_2, .int s0_3])), (q1, .inr (2, [.int s1_0, .int s1_1, .int s1_2, .int s1_3, .int s1_4, .ref q2, .ref q3, .ref q5, .ref q6, .ref q7, .ref q8, .ref q9, .ref q10])), (q2, .inl (cA 0, 9, .inl f2)), (q3, .inl (cA 0, 9, .inl f3)), (q4, .inl (cA 0, 9, .inl f4)), (q5, .inl (cA 0, 9, .inl f5))] H := hP
  have hD : va_D A [(q0, .inr (7, [.int s0_0, .int s0_1, .int s0_2, .int s0_3])), (q1, .inr (2, [.int s1_0, .int s1_1, .int s1_2, .int s1_3, .int s1_4, .ref q2, .ref q3, .ref q5, .ref q6, .ref q7, .ref q8, .ref q9, .ref q10])), (q2, .inl (cA 0, 9, .inl f2)), (q3, .inl (cA 0, 9, .inl f3)), (q4, .inl (cA 0, 9, .inl f4)), (q5, .inl (cA 0, 9, .inl f5))] := hD
  refine lv_bipush (v := 6) hx hb dX7_extend_5 (by decide) ?_
  refine lv_icmp_le (tgt := 11) hx hb dX7_extend_7 (by decide) (fun c3 => ?_) (fun c3 => ?_)
  · have h4 : r2.toInt ≤ 6 := rg_le_hi c3 (by decide : (6 : Int32).toInt ≤ 6)
    refine lv_iconst (v := 0) hx hb dX7_extend_11 (by decide) ?_
    refine lv_istore (lv' := [(7, .int 0), (0, .ref q0), (1, .ref q1), (2, .ref q4), (3, .int a0), (4, .int a1), (5, .int a2), (6, .int a3)]) hx hb dX7_extend_12 hl (by decide) rfl (fun ls hl => ?_)
    have lp11 : ∀ (n12 : Nat) (x5 : Int32) (x8 : Int32) (x9 : Int32) (x10 : Int32) (H : Heap) (locs : List Loc) (ls : Array Slot), 0 ≤ x5.toInt → x5.toInt ≤ 9 → 9 + 1 ≤ x5.toInt + (n12 : Int) → va_P D vwCl [(q0, .inr (7, [.int x8, .int x9, .int x10, .int s0_3])), (q1, .inr (2, [.int s1_0, .int s1_1, .int s1_2, .int s1_3, .int s1_4, .ref q2, .ref q3, .ref q5, .ref q6, .ref q7, .ref q8, .ref q9, .ref q10])), (q2, .inl (cA 0, 9, .inl f2)), (q3, .inl (cA 0, 9, .inl f3)), (q4, .inl (cA 0, 9, .inl f4)), (q5, .inl (cA 0, 9, .inl f5))] H → va_D A [(q0, .inr (7, [.int x8, .int x9, .int x10, .int s0_3])), (q1, .inr (2, [.int s1_0, .int s1_1, .int s1_2, .int s1_3, .int s1_4, .ref q2, .ref q3, .ref q5, .ref q6, .ref q7, .ref q8, .ref q9, .ref q10])), (q2, .inl (cA 0, 9, .inl f2)), (q3, .inl (cA 0, 9, .inl f3)), (q4, .inl (cA 0, 9, .inl f4)), (q5, .inl (cA 0, 9, .inl f5))] → va_S A s.heap H locs → lv_has ls 10 [(7, .int x5), (0, .ref q0), (1, .ref q1), (2, .ref q4), (3, .int a0), (4, .int a1), (5, .int a2), (6, .int a3)] → W p l e ({ frames := 4, cells := 0, slots := 0, locals := 111 } : Room) s m args below meth c H locs 0 0 (MQ below (ms_Qv D A (fun (u : ((Nat → Int32) × (Nat → Nat → Int32) × (Nat → Int64))) => True) (fun (u : ((Nat → Int32) × (Nat → Nat → Int32) × (Nat → Int64))) => [(q0, .inr (7, [.int (u.1 0), .int (u.1 1), .int (u.1 2), .int s0_3])), (q1, .inr (2, [.int s1_0, .int s1_1, .int s1_2, .int s1_3, .int s1_4, .ref q2, .ref q3, .ref q5, .ref q6, .ref q7, .ref q8, .ref q9, .ref q10])), (q2, .inl (cA 0, 9, .inl f2)), (q3, .inl (cA 0, 9, .inl f3)), (q4, .inl (cA 0, 9, .inl f4)), (q5, .inl (cA 0, 9, .inl f5))])) args s 0 0 A) (F0 m 14 ls []) := by
      intro n12
      induction n12 with
      | zero => intro x5 x8 x9 x10 H locs ls l6 u7  hm14; exact (rg_m0 hm14 u7).elim
      | succ n12 ih13 =>
        intro x5 x8 x9 x10 H locs ls l6 u7  hm14 hP hD hS hl
        refine lv_iload hx hb dX7_extend_14 (lv_at hl 0 rfl) ?_
        refine lv_aload_n hx hb dX7_extend_16 rfl (lv_at hl 2 rfl) ?_
        refine va_get (D := D) (ci := 2) (v := .int s1_3) (C := RX2) (T := TX2) (N := 13) hx hb hts hnX2 hown hE.1 hP 1 rfl rfl 3 (by decide) (hts (.fieldLink RX7 39 "MovedStones$Land" "roads" "I") (List.mem_cons_of_mem _ (List.mem_append_left _ (List.mem_append_left _ (List.mem_append_left _ (List.mem_of_getElem? (i := 0) rfl)))))) (fun _ h9 => h9) rfl dX7_extend_17 ?_
        refine lv_icmp_ge (tgt := 134) hx hb dX7_extend_20 (by decide) (fun c15 => ?_) (fun c15 => ?_)
        · exact ms_vret hx hb hr hlk (fun i => [x8, x9, x10].getD i 0, fun i => [].getD i ms_z, fun i => [].getD i 0) trivial hP hD hS (Nat.le_of_ble_eq_true rfl) (Nat.le_of_ble_eq_true rfl) dX7_extend_134
        · have h16 : x5.toInt ≤ 8 := rg_lt_hi (rg_nle c15) s1_3u (by decide)
          have h17 : 1 ≤ s1_3.toInt := rg_lt_lo (rg_nle c15) l6 (by decide)
          refine lv_aload_n hx hb dX7_extend_23 rfl (lv_at hl 2 rfl) ?_
          refine lv_iload hx hb dX7_extend_24 (lv_at hl 0 rfl) ?_
          refine lv_iload_n hx hb dX7_extend_26 rfl (lv_at hl 4 rfl) ?_
          refine ms_cVi (qc := (RX2, TX2, 13)) (wc := [(q1, .inr (2, [.int s1_0, .int s1_1, .int s1_2, .int s1_3, .int s1_4, .ref q2, .ref q3, .ref q5, .ref q6, .ref q7, .ref q8, .ref q9, .ref q10])), (q2, .inl (cA 0, 9, .inl f2)), (q3, .inl (cA 0, 9, .inl f3))]) (wr := [(q0, .inr (7, [.int x8, .int x9, .int x10, .int s0_3])), (q4, .inl (cA 0, 9, .inl f4)), (q5, .inl (cA 0, 9, .inl f5))]) ⟨hx, hb, hml, hown, hts⟩ hE (kX2_otherEnd_1 l D cA q1 q2 q3 q5 q6 q7 q8 q9 q10 s1_0 s1_1 s1_2 s1_3 s1_4 f2 f3 x5 a0 (rg_le s1_0l (by decide)) (rg_ge s1_0u (by decide)) (rg_le s1_1l (by decide)) (rg_ge s1_1u (by decide)) (rg_le s1_2l (by decide)) (rg_ge s1_2u (by decide)) (rg_le h17 (by decide)) (rg_ge s1_3u (by decide)) (rg_le s1_4l (by decide)) (rg_ge s1_4u (by decide)) (rg_Smono f2_0 (by decide) (by decide) (by decide) (by decide)) (rg_Smono f3_0 (by decide) (by decide) (by decide) (by decide)) (rg_le l6 (by decide)) (rg_ge h16 (by decide))) (cwV 2 hts gX7_extend_X2_otherEnd rfl rfl rfl (by decide +kernel) ⟨Nat.le_of_ble_eq_true rfl, Nat.le_of_ble_eq_true rfl⟩) hP hD hS hA [1, 2, 3] [0, 4, 5] rfl rfl rfl rfl (by decide) 0 2 rfl rfl rfl hl.1 rfl (Nat.le_of_ble_eq_true rfl) dX7_extend_27 ⟨Nat.le_of_ble_eq_true rfl, Nat.le_of_ble_eq_true rfl⟩ (fun r19 u18 H locs hp hP hD hS => ?_)
          obtain ⟨⟨r19l, r19u⟩, exu18, -⟩ := hp
          have hP : va_P D vwCl [(q0, .inr (7, [.int x8, .int x9, .int x10, .int s0_3])), (q4, .inl (cA 0, 9, .inl f4)), (q5, .inl (cA 0, 9, .inl f5)), (q1, .inr (2, [.int s1_0, .int s1_1, .int s1_2, .int s1_3, .int s1_4, .ref q2, .ref q3, .ref q5, .ref q6, .ref q7, .ref q8, .ref q9, .ref q10])), (q2, .inl (cA 0, 9, .inl f2)), (q3, .inl (cA 0, 9, .inl f3))] H := hP
          have hD : va_D A [(q0, .inr (7, [.int x8, .int x9, .int x10, .int s0_3])), (q4, .inl (cA 0, 9, .inl f4)), (q5, .inl (cA 0, 9, .inl f5)), (q1, .inr (2, [.int s1_0, .int s1_1, .int s1_2, .int s1_3, .int s1_4, .ref q2, .ref q3, .ref q5, .ref q6, .ref q7, .ref q8, .ref q9, .ref q10])), (q2, .inl (cA 0, 9, .inl f2)), (q3, .inl (cA 0, 9, .inl f3))] := hD
          refine lv_istore (lv' := [(8, .int r19), (7, .int x5), (0, .ref q0), (1, .ref q1), (2, .ref q4), (3, .int a0), (4, .int a1), (5, .int a2), (6, .int a3)]) hx hb dX7_extend_30 hl (by decide) rfl (fun ls hl => ?_)
          refine lv_iload hx hb dX7_extend_32 (lv_at hl 8 rfl) ?_
          refine lv_aload_n hx hb dX7_extend_34 rfl (lv_at hl 4 rfl) ?_
          refine lv_iload hx hb dX7_extend_35 (lv_at hl 1 rfl) ?_
          refine rg_iald0 hx hb hE hP (q0 := 1) rfl l6 h16 (by decide) dX7_extend_37 (fun v20 ev20 => ?_)
          refine lv_iadd hx hb dX7_extend_38 ?_
          refine lv_topi (fun v21 ev21 => ?_)
          refine lv_aload_n hx hb dX7_extend_39 rfl (lv_at hl 3 rfl) ?_
          refine va_get (D := D) (ci := 2) (v := .ref q5) (C := RX2) (T := TX2) (N := 13) hx hb hts hnX2 hown hE.1 hP 3 rfl rfl 7 (by decide) (hts (.fieldLink RX7 46 "MovedStones$Land" "feet" "[I") (List.mem_cons_of_mem _ (List.mem_append_left _ (List.mem_append_left _ (List.mem_append_left _ (List.mem_of_getElem? (i := 1) rfl)))))) (fun _ h9 => h9) rfl dX7_extend_40 ?_
          refine lv_iload hx hb dX7_extend_43 (lv_at hl 1 rfl) ?_
          refine rg_iald hx hb hE hP (q0 := 2) rfl l6 h16 f5_0 (by decide) dX7_extend_45 (fun v22 ev22 lv22 uv22 => ?_)
          refine lv_isub hx hb dX7_extend_46 ?_
          refine lv_topi (fun v23 ev23 => ?_)
          refine lv_istore (lv' := [(9, .int v23), (8, .int r19), (7, .int x5), (0, .ref q0), (1, .ref q1), (2, .ref q4), (3, .int a0), (4, .int a1), (5, .int a2), (6, .int a3)]) hx hb dX7_extend_47 hl (by decide) rfl (fun ls hl => ?_)
          refine lv_iload hx hb dX7_extend_49 (lv_at hl 1 rfl) ?_
          refine lv_aload_n hx hb dX7_extend_51 rfl (lv_at hl 3 rfl) ?_
          refine va_get (D := D) (ci := 7) (v := .int s0_3) (C := RX7) (T := TX7) (N := 4) hx hb hts hnX7 hown hE.1 hP 0 rfl rfl 3 (by decide) (hts (.fieldLink RX7 26 "MovedStones$Rounds" "start" "I") (List.mem_cons_of_mem _ (List.mem_append_left _ (List.mem_append_left _ (List.mem_append_left _ (List.mem_of_getElem? (i := 2) rfl)))))) (fun _ h9 => h9) rfl dX7_extend_52 ?_
          have jn27 : ∀ (x24 : Int32) (x25 : Int32) (x26 : Int32) (H : Heap) (locs : List Loc) (ls : Array Slot), va_P D vwCl [(q0, .inr (7, [.int x24, .int x25, .int x26, .int s0_3])), (q4, .inl (cA 0, 9, .inl f4)), (q5, .inl (cA 0, 9, .inl f5)), (q1, .inr (2, [.int s1_0, .int s1_1, .int s1_2, .int s1_3, .int s1_4, .ref q2, .ref q3, .ref q5, .ref q6, .ref q7, .ref q8, .ref q9, .ref q10])), (q2, .inl (cA 0, 9, .inl f2)), (q3, .inl (cA 0, 9, .inl f3))] H → va_D A [(q0, .inr (7, [.int x24, .int x25, .int x26, .int s0_3])), (q4, .inl (cA 0, 9, .inl f4)), (q5, .inl (cA 0, 9, .inl f5)), (q1, .inr (2, [.int s1_0, .int s1_1, .int s1_2, .int s1_3, .int s1_4, .ref q2, .ref q3, .ref q5, .ref q6, .ref q7, .ref q8, .ref q9, .ref q10])), (q2, .inl (cA 0, 9, .inl f2)), (q3, .inl (cA 0, 9, .inl f3))] → va_S A s.heap H locs → lv_has ls 10 [(9, .int v23), (8, .int r19), (7, .int x5), (0, .ref q0), (1, .ref q1), (2, .ref q4), (3, .int a0), (4, .int a1), (5, .int a2), (6, .int a3)] → W p l e ({ frames := 4, cells := 0, slots := 0, locals := 111 } : Room) s m args below meth c H locs 0 0 (MQ below (ms_Qv D A (fun (u : ((Nat → Int32) × (Nat → Nat → Int32) × (Nat → Int64))) => True) (fun (u : ((Nat → Int32) × (Nat → Nat → Int32) × (Nat → Int64))) => [(q0, .inr (7, [.int (u.1 0), .int (u.1 1), .int (u.1 2), .int s0_3])), (q1, .inr (2, [.int s1_0, .int s1_1, .int s1_2, .int s1_3, .int s1_4, .ref q2, .ref q3, .ref q5, .ref q6, .ref q7, .ref q8, .ref q9, .ref q10])), (q2, .inl (cA 0, 9, .inl f2)), (q3, .inl (cA 0, 9, .inl f3)), (q4, .inl (cA 0, 9, .inl f4)), (q5, .inl (cA 0, 9, .inl f5))])) args s 0 0 A) (F0 m 128 ls []) := by
            intro x24 x25 x26 H locs ls   hP hD hS hl
            refine rg_iinc (lo := 1) (hi := 9) (fun z => [(7, .int z), (9, .int v23), (8, .int r19), (0, .ref q0), (1, .ref q1), (2, .ref q4), (3, .int a0), (4, .int a1), (5, .int a2), (6, .int a3)]) hx hb dX7_extend_128 hl (k := 2) rfl (by decide) l6 h16 (by decide) (fun _ => rfl) (fun v28 ev28 lv28 uv28 ls hl => ?_)
            have hl : lv_has ls 10 [(7, .int v28), (9, .int v23), (8, .int r19), (0, .ref q0), (1, .ref q1), (2, .ref q4), (3, .int a0), (4, .int a1), (5, .int a2), (6, .int a3)] := hl
            refine lv_goto (tgt := 14) hx hb dX7_extend_131 (by decide) ?_
            exact ih13 v28 x24 x25 x26 _ _ _ (rg_le lv28 (by decide)) (rg_ge uv28 (by decide))  (rg_ms hm14 ev28 (by decide)) (hP.sub [0, 3, 4, 5, 1, 2] rfl) (hD.sub [0, 3, 4, 5, 1, 2] (by decide) rfl) hS (lv_sub hl [0, 3, 4, 5, 6, 7, 8, 9] rfl)
          refine lv_icmp_ne (tgt := 85) hx hb dX7_extend_55 (by decide) (fun c29 => ?_) (fun c29 => ?_)
          · refine lv_iload hx hb dX7_extend_85 (lv_at hl 1 rfl) ?_
            refine lv_aload_n hx hb dX7_extend_87 rfl (lv_at hl 3 rfl) ?_
            refine va_get (D := D) (ci := 7) (v := .int s0_3) (C := RX7) (T := TX7) (N := 4) hx hb hts hnX7 hown hE.1 hP 0 rfl rfl 3 (by decide) (hts (.fieldLink RX7 26 "MovedStones$Rounds" "start" "I") (List.mem_cons_of_mem _ (List.mem_append_left _ (List.mem_append_left _ (List.mem_append_left _ (List.mem_of_getElem? (i := 2) rfl)))))) (fun _ h9 => h9) rfl dX7_extend_88 ?_
            refine lv_icmp_le (tgt := 128) hx hb dX7_extend_91 (by decide) (fun c30 => ?_) (fun c30 => ?_)
            · exact jn27 x8 x9 x10 _ _ _   hP hD hS (lv_sub hl [0, 1, 2, 3, 4, 5, 6, 7, 8, 9] rfl)
            · have h31 : s0_3.toInt ≤ 4 := rg_lt_hi (rg_nle c30) r19u (by decide)
              have h32 : 1 ≤ r19.toInt := rg_lt_lo (rg_nle c30) s0_3l (by decide)
              refine lv_iload hx hb dX7_extend_94 (lv_at hl 7 rfl) ?_
              refine lv_iload hx hb dX7_extend_96 (lv_at hl 1 rfl) ?_
              refine lv_ishr hx hb dX7_extend_98 ?_
              refine lv_topi (fun v33 ev33 => ?_)
              refine lv_iconst (v := 1) hx hb dX7_extend_99 (by decide) ?_
              refine rg_iand1 hx hb dX7_extend_100 (fun v34 ev34 lv34 uv34 => ?_)
              refine lv_if_ne (tgt := 128) hx hb dX7_extend_101 (by decide) (fun c35 => ?_) (fun c35 => ?_)
              · have h36 : 1 ≤ v34.toInt := rg_ne_lo c35 lv34 (by decide : (0 : Int) ≤ (0 : Int32).toInt) (by decide : (0 : Int32).toInt ≤ 0) (by decide)
                exact jn27 x8 x9 x10 _ _ _   hP hD hS (lv_sub hl [0, 1, 2, 3, 4, 5, 6, 7, 8, 9] rfl)
              · have h37 : v34.toInt ≤ 0 := rg_eq_hi c35 (by decide : (0 : Int32).toInt ≤ 0)
                refine lv_aload_n hx hb dX7_extend_104 rfl (lv_at hl 3 rfl) ?_
                refine lv_aload_n hx hb dX7_extend_105 rfl (lv_at hl 4 rfl) ?_
                refine lv_aload_n hx hb dX7_extend_106 rfl (lv_at hl 5 rfl) ?_
                refine lv_iload hx hb dX7_extend_107 (lv_at hl 1 rfl) ?_
                refine lv_iload hx hb dX7_extend_109 (lv_at hl 7 rfl) ?_
                refine lv_iconst (v := 1) hx hb dX7_extend_111 (by decide) ?_
                refine lv_iload hx hb dX7_extend_112 (lv_at hl 1 rfl) ?_
                refine rg_shl1 (lo := 2) (hi := 32) hx hb dX7_extend_114 h32 r19u (by decide) (fun v38 ev38 lv38 uv38 => ?_)
                refine rg_ior (k := 6) (hi := 63) hx hb dX7_extend_115 a1l a1u lv38 uv38 (by decide) (fun v39 ev39 lv39 uv39 => ?_)
                refine lv_iload hx hb dX7_extend_116 (lv_at hl 8 rfl) ?_
                refine lv_iconst (v := 1) hx hb dX7_extend_118 (by decide) ?_
                refine lv_iload hx hb dX7_extend_119 (lv_at hl 2 rfl) ?_
                refine rg_shl1 (lo := 1) (hi := 256) hx hb dX7_extend_121 l6 h16 (by decide) (fun v40 ev40 lv40 uv40 => ?_)
                refine lv_ior hx hb dX7_extend_122 ?_
                refine lv_topi (fun v41 ev41 => ?_)
                refine lv_iload hx hb dX7_extend_123 (lv_at hl 0 rfl) ?_
                refine ms_cVv (qc := (RX7, TX7, 4)) (wc := [(q0, .inr (7, [.int x8, .int x9, .int x10, .int s0_3])), (q1, .inr (2, [.int s1_0, .int s1_1, .int s1_2, .int s1_3, .int s1_4, .ref q2, .ref q3, .ref q5, .ref q6, .ref q7, .ref q8, .ref q9, .ref q10])), (q2, .inl (cA 0, 9, .inl f2)), (q3, .inl (cA 0, 9, .inl f3)), (q4, .inl (cA 0, 9, .inl f4)), (q5, .inl (cA 0, 9, .inl f5))]) (wr := []) ⟨hx, hb, hml, hown, hts⟩ hE (kX7_extend_3 l D cA q0 q1 q2 q3 q4 q5 q6 q7 q8 q9 q10 x8 x9 x10 s0_3 s1_0 s1_1 s1_2 s1_3 s1_4 f2 f3 f4 f5 r19 v39 v41 v23 (rg_le s0_3l (by decide)) (rg_ge h31 (by decide)) (rg_le s1_0l (by decide)) (rg_ge s1_0u (by decide)) (rg_le s1_1l (by decide)) (rg_ge s1_1u (by decide)) (rg_le s1_2l (by decide)) (rg_ge s1_2u (by decide)) (rg_le h17 (by decide)) (rg_ge s1_3u (by decide)) (rg_le s1_4l (by decide)) (rg_ge s1_4u (by decide)) (rg_Smono f2_0 (by decide) (by decide) (by decide) (by decide)) (rg_Smono f3_0 (by decide) (by decide) (by decide) (by decide)) (rg_Smono f5_0 (by decide) (by decide) (by decide) (by decide)) (rg_le h32 (by decide)) (rg_ge r19u (by decide)) (rg_le lv39 (by decide)) (rg_ge uv39 (by decide)) (ms_pcU (rg_le a1l (by decide)) (rg_ge a1u (by decide)) h32 r19u ev33 ev34 c35 ev38 ev39 hpf)) (cwV 6 hts gX7_extend_X7_extend rfl rfl rfl (by decide +kernel) ⟨Nat.le_of_ble_eq_true rfl, Nat.le_of_ble_eq_true rfl⟩) hP hD hS hA [0, 3, 4, 5, 1, 2] [] rfl rfl rfl rfl (by decide) 0 7 rfl rfl rfl hl.1 rfl (Nat.le_of_ble_eq_true rfl) dX7_extend_125 ⟨Nat.le_of_ble_eq_true rfl, Nat.le_of_ble_eq_true rfl⟩ (fun u42 H locs hp hP hD hS => ?_)
                have hP : va_P D vwCl [(q0, .inr (7, [.int (u42.1 0), .int (u42.1 1), .int (u42.1 2), .int s0_3])), (q1, .inr (2, [.int s1_0, .int s1_1, .int s1_2, .int s1_3, .int s1_4, .ref q2, .ref q3, .ref q5, .ref q6, .ref q7, .ref q8, .ref q9, .ref q10])), (q2, .inl (cA 0, 9, .inl f2)), (q3, .inl (cA 0, 9, .inl f3)), (q4, .inl (cA 0, 9, .inl f4)), (q5, .inl (cA 0, 9, .inl f5))] H := hP
                have hD : va_D A [(q0, .inr (7, [.int (u42.1 0), .int (u42.1 1), .int (u42.1 2), .int s0_3])), (q1, .inr (2, [.int s1_0, .int s1_1, .int s1_2, .int s1_3, .int s1_4, .ref q2, .ref q3, .ref q5, .ref q6, .ref q7, .ref q8, .ref q9, .ref q10])), (q2, .inl (cA 0, 9, .inl f2)), (q3, .inl (cA 0, 9, .inl f3)), (q4, .inl (cA 0, 9, .inl f4)), (q5, .inl (cA 0, 9, .inl f5))] := hD
                exact jn27 (u42.1 0) (u42.1 1) (u42.1 2) _ _ _   (hP.sub [0, 4, 5, 1, 2, 3] rfl) (hD.sub [0, 4, 5, 1, 2, 3] (by decide) rfl) hS (lv_sub hl [0, 1, 2, 3, 4, 5, 6, 7, 8, 9] rfl)
          · have h44 : 0 ≤ r19.toInt := rg_eq_lo c29 s0_3l
            refine lv_iload hx hb dX7_extend_58 (lv_at hl 7 rfl) ?_
            refine ms_cSi (wc := []) (wr := [(q0, .inr (7, [.int x8, .int x9, .int x10, .int s0_3])), (q4, .inl (cA 0, 9, .inl f4)), (q5, .inl (cA 0, 9, .inl f5)), (q1, .inr (2, [.int s1_0, .int s1_1, .int s1_2, .int s1_3, .int s1_4, .ref q2, .ref q3, .ref q5, .ref q6, .ref q7, .ref q8, .ref q9, .ref q10])), (q2, .inl (cA 0, 9, .inl f2)), (q3, .inl (cA 0, 9, .inl f3))]) ⟨hx, hb, hml, hown, hts⟩ hE (kJ6_bitCount_0f7a4_1 l D cA a1) (va_cwS 1 hts gX7_extend_J6_bitCount_0f7a4 rfl rfl rfl (by decide +kernel) ⟨Nat.le_of_ble_eq_true rfl, Nat.le_of_ble_eq_true rfl⟩) hP hD hS hA [] [0, 1, 2, 3, 4, 5] rfl rfl rfl rfl (by decide) rfl hl.1 rfl (Nat.le_of_ble_eq_true rfl) dX7_extend_60 ⟨Nat.le_of_ble_eq_true rfl, Nat.le_of_ble_eq_true rfl⟩ (fun r46 u45 H locs hp hP hD hS => ?_)
            obtain ⟨⟨r46l, r46u⟩, exu45, -⟩ := hp
            have hP : va_P D vwCl [(q0, .inr (7, [.int x8, .int x9, .int x10, .int s0_3])), (q4, .inl (cA 0, 9, .inl f4)), (q5, .inl (cA 0, 9, .inl f5)), (q1, .inr (2, [.int s1_0, .int s1_1, .int s1_2, .int s1_3, .int s1_4, .ref q2, .ref q3, .ref q5, .ref q6, .ref q7, .ref q8, .ref q9, .ref q10])), (q2, .inl (cA 0, 9, .inl f2)), (q3, .inl (cA 0, 9, .inl f3))] H := hP
            have hD : va_D A [(q0, .inr (7, [.int x8, .int x9, .int x10, .int s0_3])), (q4, .inl (cA 0, 9, .inl f4)), (q5, .inl (cA 0, 9, .inl f5)), (q1, .inr (2, [.int s1_0, .int s1_1, .int s1_2, .int s1_3, .int s1_4, .ref q2, .ref q3, .ref q5, .ref q6, .ref q7, .ref q8, .ref q9, .ref q10])), (q2, .inl (cA 0, 9, .inl f2)), (q3, .inl (cA 0, 9, .inl f3))] := hD
            refine lv_iconst (v := 3) hx hb dX7_extend_63 (by decide) ?_
            refine lv_icmp_lt (tgt := 85) hx hb dX7_extend_64 (by decide) (fun c47 => ?_) (fun c47 => ?_)
            · have h48 : r46.toInt ≤ 2 := rg_lt_hi c47 (by decide : (3 : Int32).toInt ≤ 3) (by decide)
              refine lv_iload hx hb dX7_extend_85 (lv_at hl 1 rfl) ?_
              refine lv_aload_n hx hb dX7_extend_87 rfl (lv_at hl 3 rfl) ?_
              refine va_get (D := D) (ci := 7) (v := .int s0_3) (C := RX7) (T := TX7) (N := 4) hx hb hts hnX7 hown hE.1 hP 0 rfl rfl 3 (by decide) (hts (.fieldLink RX7 26 "MovedStones$Rounds" "start" "I") (List.mem_cons_of_mem _ (List.mem_append_left _ (List.mem_append_left _ (List.mem_append_left _ (List.mem_of_getElem? (i := 2) rfl)))))) (fun _ h9 => h9) rfl dX7_extend_88 ?_
              refine lv_icmp_le (tgt := 128) hx hb dX7_extend_91 (by decide) (fun c49 => ?_) (fun c49 => ?_)
              · exact jn27 x8 x9 x10 _ _ _   hP hD hS (lv_sub hl [0, 1, 2, 3, 4, 5, 6, 7, 8, 9] rfl)
              · have h50 : s0_3.toInt ≤ 4 := rg_lt_hi (rg_nle c49) r19u (by decide)
                have h51 : 1 ≤ r19.toInt := rg_lt_lo (rg_nle c49) s0_3l (by decide)
                refine lv_iload hx hb dX7_extend_94 (lv_at hl 7 rfl) ?_
                refine lv_iload hx hb dX7_extend_96 (lv_at hl 1 rfl) ?_
                refine lv_ishr hx hb dX7_extend_98 ?_
                refine lv_topi (fun v52 ev52 => ?_)
                refine lv_iconst (v := 1) hx hb dX7_extend_99 (by decide) ?_
                refine rg_iand1 hx hb dX7_extend_100 (fun v53 ev53 lv53 uv53 => ?_)
                refine lv_if_ne (tgt := 128) hx hb dX7_extend_101 (by decide) (fun c54 => ?_) (fun c54 => ?_)
                · have h55 : 1 ≤ v53.toInt := rg_ne_lo c54 lv53 (by decide : (0 : Int) ≤ (0 : Int32).toInt) (by decide : (0 : Int32).toInt ≤ 0) (by decide)
                  exact jn27 x8 x9 x10 _ _ _   hP hD hS (lv_sub hl [0, 1, 2, 3, 4, 5, 6, 7, 8, 9] rfl)
                · have h56 : v53.toInt ≤ 0 := rg_eq_hi c54 (by decide : (0 : Int32).toInt ≤ 0)
                  refine lv_aload_n hx hb dX7_extend_104 rfl (lv_at hl 3 rfl) ?_
                  refine lv_aload_n hx hb dX7_extend_105 rfl (lv_at hl 4 rfl) ?_
                  refine lv_aload_n hx hb dX7_extend_106 rfl (lv_at hl 5 rfl) ?_
                  refine lv_iload hx hb dX7_extend_107 (lv_at hl 1 rfl) ?_
                  refine lv_iload hx hb dX7_extend_109 (lv_at hl 7 rfl) ?_
                  refine lv_iconst (v := 1) hx hb dX7_extend_111 (by decide) ?_
                  refine lv_iload hx hb dX7_extend_112 (lv_at hl 1 rfl) ?_
                  refine rg_shl1 (lo := 2) (hi := 32) hx hb dX7_extend_114 h51 r19u (by decide) (fun v57 ev57 lv57 uv57 => ?_)
                  refine rg_ior (k := 6) (hi := 63) hx hb dX7_extend_115 a1l a1u lv57 uv57 (by decide) (fun v58 ev58 lv58 uv58 => ?_)
                  refine lv_iload hx hb dX7_extend_116 (lv_at hl 8 rfl) ?_
                  refine lv_iconst (v := 1) hx hb dX7_extend_118 (by decide) ?_
                  refine lv_iload hx hb dX7_extend_119 (lv_at hl 2 rfl) ?_
                  refine rg_shl1 (lo := 1) (hi := 256) hx hb dX7_extend_121 l6 h16 (by decide) (fun v59 ev59 lv59 uv59 => ?_)
                  refine lv_ior hx hb dX7_extend_122 ?_
                  refine lv_topi (fun v60 ev60 => ?_)
                  refine lv_iload hx hb dX7_extend_123 (lv_at hl 0 rfl) ?_
                  refine ms_cVv (qc := (RX7, TX7, 4)) (wc := [(q0, .inr (7, [.int x8, .int x9, .int x10, .int s0_3])), (q1, .inr (2, [.int s1_0, .int s1_1, .int s1_2, .int s1_3, .int s1_4, .ref q2, .ref q3, .ref q5, .ref q6, .ref q7, .ref q8, .ref q9, .ref q10])), (q2, .inl (cA 0, 9, .inl f2)), (q3, .inl (cA 0, 9, .inl f3)), (q4, .inl (cA 0, 9, .inl f4)), (q5, .inl (cA 0, 9, .inl f5))]) (wr := []) ⟨hx, hb, hml, hown, hts⟩ hE (kX7_extend_3 l D cA q0 q1 q2 q3 q4 q5 q6 q7 q8 q9 q10 x8 x9 x10 s0_3 s1_0 s1_1 s1_2 s1_3 s1_4 f2 f3 f4 f5 r19 v58 v60 v23 (rg_le s0_3l (by decide)) (rg_ge h50 (by decide)) (rg_le s1_0l (by decide)) (rg_ge s1_0u (by decide)) (rg_le s1_1l (by decide)) (rg_ge s1_1u (by decide)) (rg_le s1_2l (by decide)) (rg_ge s1_2u (by decide)) (rg_le h17 (by decide)) (rg_ge s1_3u (by decide)) (rg_le s1_4l (by decide)) (rg_ge s1_4u (by decide)) (rg_Smono f2_0 (by decide) (by decide) (by decide) (by decide)) (rg_Smono f3_0 (by decide) (by decide) (by decide) (by decide)) (rg_Smono f5_0 (by decide) (by decide) (by decide) (by decide)) (rg_le h51 (by decide)) (rg_ge r19u (by decide)) (rg_le lv58 (by decide)) (rg_ge uv58 (by decide)) (ms_pcU (rg_le a1l (by decide)) (rg_ge a1u (by decide)) h51 r19u ev52 ev53 c54 ev57 ev58 hpf)) (cwV 6 hts gX7_extend_X7_extend rfl rfl rfl (by decide +kernel) ⟨Nat.le_of_ble_eq_true rfl, Nat.le_of_ble_eq_true rfl⟩) hP hD hS hA [0, 3, 4, 5, 1, 2] [] rfl rfl rfl rfl (by decide) 0 7 rfl rfl rfl hl.1 rfl (Nat.le_of_ble_eq_true rfl) dX7_extend_125 ⟨Nat.le_of_ble_eq_true rfl, Nat.le_of_ble_eq_true rfl⟩ (fun u61 H locs hp hP hD hS => ?_)
                  have hP : va_P D vwCl [(q0, .inr (7, [.int (u61.1 0), .int (u61.1 1), .int (u61.1 2), .int s0_3])), (q1, .inr (2, [.int s1_0, .int s1_1, .int s1_2, .int s1_3, .int s1_4, .ref q2, .ref q3, .ref q5, .ref q6, .ref q7, .ref q8, .ref q9, .ref q10])), (q2, .inl (cA 0, 9, .inl f2)), (q3, .inl (cA 0, 9, .inl f3)), (q4, .inl (cA 0, 9, .inl f4)), (q5, .inl (cA 0, 9, .inl f5))] H := hP
                  have hD : va_D A [(q0, .inr (7, [.int (u61.1 0), .int (u61.1 1), .int (u61.1 2), .int s0_3])), (q1, .inr (2, [.int s1_0, .int s1_1, .int s1_2, .int s1_3, .int s1_4, .ref q2, .ref q3, .ref q5, .ref q6, .ref q7, .ref q8, .ref q9, .ref q10])), (q2, .inl (cA 0, 9, .inl f2)), (q3, .inl (cA 0, 9, .inl f3)), (q4, .inl (cA 0, 9, .inl f4)), (q5, .inl (cA 0, 9, .inl f5))] := hD
                  exact jn27 (u61.1 0) (u61.1 1) (u61.1 2) _ _ _   (hP.sub [0, 4, 5, 1, 2, 3] rfl) (hD.sub [0, 4, 5, 1, 2, 3] (by decide) rfl) hS (lv_sub hl [0, 1, 2, 3, 4, 5, 6, 7, 8, 9] rfl)
            · have h63 : 3 ≤ r46.toInt := rg_le_lo (rg_nlt c47) (by decide : (3 : Int) ≤ (3 : Int32).toInt)
              refine lv_aload_n hx hb dX7_extend_67 rfl (lv_at hl 3 rfl) ?_
              refine lv_iload hx hb dX7_extend_68 (lv_at hl 7 rfl) ?_
              refine lv_iload hx hb dX7_extend_70 (lv_at hl 8 rfl) ?_
              refine lv_iconst (v := 1) hx hb dX7_extend_72 (by decide) ?_
              refine lv_iload hx hb dX7_extend_73 (lv_at hl 2 rfl) ?_
              refine rg_shl1 (lo := 1) (hi := 256) hx hb dX7_extend_75 l6 h16 (by decide) (fun v64 ev64 lv64 uv64 => ?_)
              refine lv_ior hx hb dX7_extend_76 ?_
              refine lv_topi (fun v65 ev65 => ?_)
              refine lv_iload hx hb dX7_extend_77 (lv_at hl 0 rfl) ?_
              refine ms_cVv (qc := (RX7, TX7, 4)) (wc := [(q0, .inr (7, [.int x8, .int x9, .int x10, .int s0_3]))]) (wr := [(q4, .inl (cA 0, 9, .inl f4)), (q5, .inl (cA 0, 9, .inl f5)), (q1, .inr (2, [.int s1_0, .int s1_1, .int s1_2, .int s1_3, .int s1_4, .ref q2, .ref q3, .ref q5, .ref q6, .ref q7, .ref q8, .ref q9, .ref q10])), (q2, .inl (cA 0, 9, .inl f2)), (q3, .inl (cA 0, 9, .inl f3))]) ⟨hx, hb, hml, hown, hts⟩ hE (kX7_compare_1 l D cA q0 x8 x9 x10 s0_3 a1 v65 v23 (rg_le s0_3l (by decide)) (rg_ge s0_3u (by decide)) (rg_le a1l (by decide)) (rg_ge a1u (by decide))) (cwV 3 hts gX7_extend_X7_compare rfl rfl rfl (by decide +kernel) ⟨Nat.le_of_ble_eq_true rfl, Nat.le_of_ble_eq_true rfl⟩) hP hD hS hA [0] [1, 2, 3, 4, 5] rfl rfl rfl rfl (by decide) 0 7 rfl rfl rfl hl.1 rfl (Nat.le_of_ble_eq_true rfl) dX7_extend_79 ⟨Nat.le_of_ble_eq_true rfl, Nat.le_of_ble_eq_true rfl⟩ (fun u66 H locs hp hP hD hS => ?_)
              have hP : va_P D vwCl [(q4, .inl (cA 0, 9, .inl f4)), (q5, .inl (cA 0, 9, .inl f5)), (q1, .inr (2, [.int s1_0, .int s1_1, .int s1_2, .int s1_3, .int s1_4, .ref q2, .ref q3, .ref q5, .ref q6, .ref q7, .ref q8, .ref q9, .ref q10])), (q2, .inl (cA 0, 9, .inl f2)), (q3, .inl (cA 0, 9, .inl f3)), (q0, .inr (7, [.int (u66.1 0), .int (u66.1 1), .int (u66.1 2), .int s0_3]))] H := hP
              have hD : va_D A [(q4, .inl (cA 0, 9, .inl f4)), (q5, .inl (cA 0, 9, .inl f5)), (q1, .inr (2, [.int s1_0, .int s1_1, .int s1_2, .int s1_3, .int s1_4, .ref q2, .ref q3, .ref q5, .ref q6, .ref q7, .ref q8, .ref q9, .ref q10])), (q2, .inl (cA 0, 9, .inl f2)), (q3, .inl (cA 0, 9, .inl f3)), (q0, .inr (7, [.int (u66.1 0), .int (u66.1 1), .int (u66.1 2), .int s0_3]))] := hD
              refine lv_goto (tgt := 128) hx hb dX7_extend_82 (by decide) ?_
              exact jn27 (u66.1 0) (u66.1 1) (u66.1 2) _ _ _   (hP.sub [5, 0, 1, 2, 3, 4] rfl) (hD.sub [5, 0, 1, 2, 3, 4] (by decide) rfl) hS (lv_sub hl [0, 1, 2, 3, 4, 5, 6, 7, 8, 9] rfl)
    exact lp11 10 0 s0_0 s0_1 s0_2 _ _ _ (rg_le (by decide : (0 : Int) ≤ (0 : Int32).toInt) (by decide)) (rg_ge (by decide : (0 : Int32).toInt ≤ 0) (by decide))  (rg_mi (by decide : (0 : Int) ≤ (0 : Int32).toInt) (by decide)) hP hD hS (lv_sub hl [0, 1, 2, 3, 4, 5, 6, 7] rfl)
  · have h68 : 7 ≤ r2.toInt := rg_lt_lo (rg_nle c3) (by decide : (6 : Int) ≤ (6 : Int32).toInt) (by decide)
    exact ms_vret hx hb hr hlk (fun i => [s0_0, s0_1, s0_2].getD i 0, fun i => [].getD i ms_z, fun i => [].getD i 0) trivial hP hD hS (Nat.le_of_ble_eq_true rfl) (Nat.le_of_ble_eq_true rfl) dX7_extend_10
set_option maxHeartbeats 4000000 in
set_option maxRecDepth 100000 in
theorem kX7_extend_5 (l : Launch) (D : va_G) (cA : Nat → ClassId) (q0 q1 q2 q3 q4 q5 q6 q7 q8 q9 q10 : Nat) (s0_0 : Int32) (s0_1 : Int32) (s0_2 : Int32) (s0_3 : Int32) (s1_0 : Int32) (s1_1 : Int32) (s1_2 : Int32) (s1_3 : Int32) (s1_4 : Int32) (f2 : Nat → Int32) (f3 : Nat → Int32) (f4 : Nat → Int32) (f5 : Nat → Int32) (a0 : Int32) (a1 : Int32) (a2 : Int32) (a3 : Int32) (s0_3l : 0 ≤ s0_3.toInt) (s0_3u : s0_3.toInt ≤ 5) (s1_0l : 0 ≤ s1_0.toInt) (s1_0u : s1_0.toInt ≤ 6) (s1_1l : 0 ≤ s1_1.toInt) (s1_1u : s1_1.toInt ≤ 4) (s1_2l : 0 ≤ s1_2.toInt) (s1_2u : s1_2.toInt ≤ 9) (s1_3l : 0 ≤ s1_3.toInt) (s1_3u : s1_3.toInt ≤ 9) (s1_4l : 0 ≤ s1_4.toInt) (s1_4u : s1_4.toInt ≤ 6) (f2_0 : rg_S f2 0 9 0 5) (f3_0 : rg_S f3 0 9 0 5) (f5_0 : rg_S f5 0 9 0 99) (a0l : 0 ≤ a0.toInt) (a0u : a0.toInt ≤ 5) (a1l : 0 ≤ a1.toInt) (a1u : a1.toInt ≤ 63) (hpf : ms_pc a1 = 2) : ms_Mv l yX7_extend wsX7_extend ({ frames := 5, cells := 0, slots := 0, locals := 140 } : Room) D cA [.ref q0, .ref q1, .ref q4, .int a0, .int a1, .int a2, .int a3] [(q0, .inr (7, [.int s0_0, .int s0_1, .int s0_2, .int s0_3])), (q1, .inr (2, [.int s1_0, .int s1_1, .int s1_2, .int s1_3, .int s1_4, .ref q2, .ref q3, .ref q5, .ref q6, .ref q7, .ref q8, .ref q9, .ref q10])), (q2, .inl (cA 0, 9, .inl f2)), (q3, .inl (cA 0, 9, .inl f3)), (q4, .inl (cA 0, 9, .inl f4)), (q5, .inl (cA 0, 9, .inl f5))] (fun (u : ((Nat → Int32) × (Nat → Nat → Int32) × (Nat → Int64))) => True) (fun (u : ((Nat → Int32) × (Nat → Nat → Int32) × (Nat → Int64))) => [(q0, .inr (7, [.int (u.1 0), .int (u.1 1), .int (u.1 2), .int s0_3])), (q1, .inr (2, [.int s1_0, .int s1_1, .int s1_2, .int s1_3, .int s1_4, .ref q2, .ref q3, .ref q5, .ref q6, .ref q7, .ref q8, .ref q9, .ref q10])), (q2, .inl (cA 0, 9, .inl f2)), (q3, .inl (cA 0, 9, .inl f3)), (q4, .inl (cA 0, 9, .inl f4)), (q5, .inl (cA 0, 9, .inl f5))]) := by
  refine ms_Mv_of (cc := cX7_extend) (maxL := 10) (ret := none) (by decide) rfl (Nat.le_of_ble_eq_true rfl) ?_
  intro p e s m args below meth c A ls hB hE hA hP hD hS hl
  obtain ⟨hx, hb, hr, hml, hown, hts, hlk, hnm⟩ := hB
  have hown : s.vm.findClass RX7 = some m.cls := hown
  have hnX2 : ∀ w ∈ u_ws RX2 TX2 13, w ∈ wsX7_extend := fun _ h => List.mem_cons_of_mem _ (List.mem_append_left _ (List.mem_append_right _ (h)))
  have hnX7 : ∀ w ∈ u_ws RX7 TX7 4, w ∈ wsX7_extend := fun _ h => List.mem_cons_of_mem _ (List.mem_append_right _ (h))
  have hl : lv_has ls 10 [(0, .ref q0), (1, .ref q1), (2, .ref q4), (3, .int a0), (4, .int a1), (5, .int a2), (6, .int a3)] := hl
  refine lv_iload hx hb dX7_extend_0 (lv_at hl 4 rfl) ?_
  refine ms_cSi (wc := []) (wr := [(q0, .inr (7, [.int s0_0, .int s0_1, .int s0_2, .int s0_3])), (q1, .inr (2, [.int s1_0, .int s1_1, .int s1_2, .int s1_3, .int s1_4, .ref q2, .ref q3, .ref q5, .ref q6, .ref q7, .ref q8, .ref q9, .ref q10])), (q2, .inl (cA 0, 9, .inl f2)), (q3, .inl (cA 0, 9, .inl f3)), (q4, .inl (cA 0, 9, .inl f4)), (q5, .inl (cA 0, 9, .inl f5))]) ⟨hx, hb, hml, hown, hts⟩ hE (kJ6_bitCount_0f7a4_1 l D cA a1) (va_cwS 1 hts gX7_extend_J6_bitCount_0f7a4 rfl rfl rfl (by decide +kernel) ⟨Nat.le_of_ble_eq_true rfl, Nat.le_of_ble_eq_true rfl⟩) hP hD hS hA [] [0, 1, 2, 3, 4, 5] rfl rfl rfl rfl (by decide) rfl hl.1 rfl (Nat.le_of_ble_eq_true rfl) dX7_extend_2 ⟨Nat.le_of_ble_eq_true rfl, Nat.le_of_ble_eq_true rfl⟩ (fun r2 u1 H locs hp hP hD hS => ?_)
  obtain ⟨⟨r2l, r2u⟩, exu1, -⟩ := hp
  have hP : va_P D vwCl [(q0, .inr (7, [.int s0_0, .int s0_1, .int s0_2, .int s0_3])), (q1, .inr (2, [.int s1_0, .int s1_1, .int s1_2, .int s1_3, .int s1_4, .ref q2, .ref q3, .ref q5, .ref q6, .ref q7, .ref q8, .ref q9, .ref q10])), (q2, .inl (cA 0, 9, .inl f2)), (q3, .inl (cA 0, 9, .inl f3)), (q4, .inl (cA 0, 9, .inl f4)), (q5, .inl (cA 0, 9, .inl f5))] H := hP
  have hD : va_D A [(q0, .inr (7, [.int s0_0, .int s0_1, .int s0_2, .int s0_3])), (q1, .inr (2, [.int s1_0, .int s1_1, .int s1_2, .int s1_3, .int s1_4, .ref q2, .ref q3, .ref q5, .ref q6, .ref q7, .ref q8, .ref q9, .ref q10])), (q2, .inl (cA 0, 9, .inl f2)), (q3, .inl (cA 0, 9, .inl f3)), (q4, .inl (cA 0, 9, .inl f4)), (q5, .inl (cA 0, 9, .inl f5))] := hD
  refine lv_bipush (v := 6) hx hb dX7_extend_5 (by decide) ?_
  refine lv_icmp_le (tgt := 11) hx hb dX7_extend_7 (by decide) (fun c3 => ?_) (fun c3 => ?_)
  · have h4 : r2.toInt ≤ 6 := rg_le_hi c3 (by decide : (6 : Int32).toInt ≤ 6)
    refine lv_iconst (v := 0) hx hb dX7_extend_11 (by decide) ?_
    refine lv_istore (lv' := [(7, .int 0), (0, .ref q0), (1, .ref q1), (2, .ref q4), (3, .int a0), (4, .int a1), (5, .int a2), (6, .int a3)]) hx hb dX7_extend_12 hl (by decide) rfl (fun ls hl => ?_)
    have lp11 : ∀ (n12 : Nat) (x5 : Int32) (x8 : Int32) (x9 : Int32) (x10 : Int32) (H : Heap) (locs : List Loc) (ls : Array Slot), 0 ≤ x5.toInt → x5.toInt ≤ 9 → 9 + 1 ≤ x5.toInt + (n12 : Int) → va_P D vwCl [(q0, .inr (7, [.int x8, .int x9, .int x10, .int s0_3])), (q1, .inr (2, [.int s1_0, .int s1_1, .int s1_2, .int s1_3, .int s1_4, .ref q2, .ref q3, .ref q5, .ref q6, .ref q7, .ref q8, .ref q9, .ref q10])), (q2, .inl (cA 0, 9, .inl f2)), (q3, .inl (cA 0, 9, .inl f3)), (q4, .inl (cA 0, 9, .inl f4)), (q5, .inl (cA 0, 9, .inl f5))] H → va_D A [(q0, .inr (7, [.int x8, .int x9, .int x10, .int s0_3])), (q1, .inr (2, [.int s1_0, .int s1_1, .int s1_2, .int s1_3, .int s1_4, .ref q2, .ref q3, .ref q5, .ref q6, .ref q7, .ref q8, .ref q9, .ref q10])), (q2, .inl (cA 0, 9, .inl f2)), (q3, .inl (cA 0, 9, .inl f3)), (q4, .inl (cA 0, 9, .inl f4)), (q5, .inl (cA 0, 9, .inl f5))] → va_S A s.heap H locs → lv_has ls 10 [(7, .int x5), (0, .ref q0), (1, .ref q1), (2, .ref q4), (3, .int a0), (4, .int a1), (5, .int a2), (6, .int a3)] → W p l e ({ frames := 5, cells := 0, slots := 0, locals := 140 } : Room) s m args below meth c H locs 0 0 (MQ below (ms_Qv D A (fun (u : ((Nat → Int32) × (Nat → Nat → Int32) × (Nat → Int64))) => True) (fun (u : ((Nat → Int32) × (Nat → Nat → Int32) × (Nat → Int64))) => [(q0, .inr (7, [.int (u.1 0), .int (u.1 1), .int (u.1 2), .int s0_3])), (q1, .inr (2, [.int s1_0, .int s1_1, .int s1_2, .int s1_3, .int s1_4, .ref q2, .ref q3, .ref q5, .ref q6, .ref q7, .ref q8, .ref q9, .ref q10])), (q2, .inl (cA 0, 9, .inl f2)), (q3, .inl (cA 0, 9, .inl f3)), (q4, .inl (cA 0, 9, .inl f4)), (q5, .inl (cA 0, 9, .inl f5))])) args s 0 0 A) (F0 m 14 ls []) := by
      intro n12
      induction n12 with
      | zero => intro x5 x8 x9 x10 H locs ls l6 u7  hm14; exact (rg_m0 hm14 u7).elim
      | succ n12 ih13 =>
        intro x5 x8 x9 x10 H locs ls l6 u7  hm14 hP hD hS hl
        refine lv_iload hx hb dX7_extend_14 (lv_at hl 0 rfl) ?_
        refine lv_aload_n hx hb dX7_extend_16 rfl (lv_at hl 2 rfl) ?_
        refine va_get (D := D) (ci := 2) (v := .int s1_3) (C := RX2) (T := TX2) (N := 13) hx hb hts hnX2 hown hE.1 hP 1 rfl rfl 3 (by decide) (hts (.fieldLink RX7 39 "MovedStones$Land" "roads" "I") (List.mem_cons_of_mem _ (List.mem_append_left _ (List.mem_append_left _ (List.mem_append_left _ (List.mem_of_getElem? (i := 0) rfl)))))) (fun _ h9 => h9) rfl dX7_extend_17 ?_
        refine lv_icmp_ge (tgt := 134) hx hb dX7_extend_20 (by decide) (fun c15 => ?_) (fun c15 => ?_)
        · exact ms_vret hx hb hr hlk (fun i => [x8, x9, x10].getD i 0, fun i => [].getD i ms_z, fun i => [].getD i 0) trivial hP hD hS (Nat.le_of_ble_eq_true rfl) (Nat.le_of_ble_eq_true rfl) dX7_extend_134
        · have h16 : x5.toInt ≤ 8 := rg_lt_hi (rg_nle c15) s1_3u (by decide)
          have h17 : 1 ≤ s1_3.toInt := rg_lt_lo (rg_nle c15) l6 (by decide)
          refine lv_aload_n hx hb dX7_extend_23 rfl (lv_at hl 2 rfl) ?_
          refine lv_iload hx hb dX7_extend_24 (lv_at hl 0 rfl) ?_
          refine lv_iload_n hx hb dX7_extend_26 rfl (lv_at hl 4 rfl) ?_
          refine ms_cVi (qc := (RX2, TX2, 13)) (wc := [(q1, .inr (2, [.int s1_0, .int s1_1, .int s1_2, .int s1_3, .int s1_4, .ref q2, .ref q3, .ref q5, .ref q6, .ref q7, .ref q8, .ref q9, .ref q10])), (q2, .inl (cA 0, 9, .inl f2)), (q3, .inl (cA 0, 9, .inl f3))]) (wr := [(q0, .inr (7, [.int x8, .int x9, .int x10, .int s0_3])), (q4, .inl (cA 0, 9, .inl f4)), (q5, .inl (cA 0, 9, .inl f5))]) ⟨hx, hb, hml, hown, hts⟩ hE (kX2_otherEnd_1 l D cA q1 q2 q3 q5 q6 q7 q8 q9 q10 s1_0 s1_1 s1_2 s1_3 s1_4 f2 f3 x5 a0 (rg_le s1_0l (by decide)) (rg_ge s1_0u (by decide)) (rg_le s1_1l (by decide)) (rg_ge s1_1u (by decide)) (rg_le s1_2l (by decide)) (rg_ge s1_2u (by decide)) (rg_le h17 (by decide)) (rg_ge s1_3u (by decide)) (rg_le s1_4l (by decide)) (rg_ge s1_4u (by decide)) (rg_Smono f2_0 (by decide) (by decide) (by decide) (by decide)) (rg_Smono f3_0 (by decide) (by decide) (by decide) (by decide)) (rg_le l6 (by decide)) (rg_ge h16 (by decide))) (cwV 2 hts gX7_extend_X2_otherEnd rfl rfl rfl (by decide +kernel) ⟨Nat.le_of_ble_eq_true rfl, Nat.le_of_ble_eq_true rfl⟩) hP hD hS hA [1, 2, 3] [0, 4, 5] rfl rfl rfl rfl (by decide) 0 2 rfl rfl rfl hl.1 rfl (Nat.le_of_ble_eq_true rfl) dX7_extend_27 ⟨Nat.le_of_ble_eq_true rfl, Nat.le_of_ble_eq_true rfl⟩ (fun r19 u18 H locs hp hP hD hS => ?_)
          obtain ⟨⟨r19l, r19u⟩, exu18, -⟩ := hp
          have hP : va_P D vwCl [(q0, .inr (7, [.int x8, .int x9, .int x10, .int s0_3])), (q4, .inl (cA 0, 9, .inl f4)), (q5, .inl (cA 0, 9, .inl f5)), (q1, .inr (2, [.int s1_0, .int s1_1, .int s1_2, .int s1_3, .int s1_4, .ref q2, .ref q3, .ref q5, .ref q6, .ref q7, .ref q8, .ref q9, .ref q10])), (q2, .inl (cA 0, 9, .inl f2)), (q3, .inl (cA 0, 9, .inl f3))] H := hP
          have hD : va_D A [(q0, .inr (7, [.int x8, .int x9, .int x10, .int s0_3])), (q4, .inl (cA 0, 9, .inl f4)), (q5, .inl (cA 0, 9, .inl f5)), (q1, .inr (2, [.int s1_0, .int s1_1, .int s1_2, .int s1_3, .int s1_4, .ref q2, .ref q3, .ref q5, .ref q6, .ref q7, .ref q8, .ref q9, .ref q10])), (q2, .inl (cA 0, 9, .inl f2)), (q3, .inl (cA 0, 9, .inl f3))] := hD
          refine lv_istore (lv' := [(8, .int r19), (7, .int x5), (0, .ref q0), (1, .ref q1), (2, .ref q4), (3, .int a0), (4, .int a1), (5, .int a2), (6, .int a3)]) hx hb dX7_extend_30 hl (by decide) rfl (fun ls hl => ?_)
          refine lv_iload hx hb dX7_extend_32 (lv_at hl 8 rfl) ?_
          refine lv_aload_n hx hb dX7_extend_34 rfl (lv_at hl 4 rfl) ?_
          refine lv_iload hx hb dX7_extend_35 (lv_at hl 1 rfl) ?_
          refine rg_iald0 hx hb hE hP (q0 := 1) rfl l6 h16 (by decide) dX7_extend_37 (fun v20 ev20 => ?_)
          refine lv_iadd hx hb dX7_extend_38 ?_
          refine lv_topi (fun v21 ev21 => ?_)
          refine lv_aload_n hx hb dX7_extend_39 rfl (lv_at hl 3 rfl) ?_
          refine va_get (D := D) (ci := 2) (v := .ref q5) (C := RX2) (T := TX2) (N := 13) hx hb hts hnX2 hown hE.1 hP 3 rfl rfl 7 (by decide) (hts (.fieldLink RX7 46 "MovedStones$Land" "feet" "[I") (List.mem_cons_of_mem _ (List.mem_append_left _ (List.mem_append_left _ (List.mem_append_left _ (List.mem_of_getElem? (i := 1) rfl)))))) (fun _ h9 => h9) rfl dX7_extend_40 ?_
          refine lv_iload hx hb dX7_extend_43 (lv_at hl 1 rfl) ?_
          refine rg_iald hx hb hE hP (q0 := 2) rfl l6 h16 f5_0 (by decide) dX7_extend_45 (fun v22 ev22 lv22 uv22 => ?_)
          refine lv_isub hx hb dX7_extend_46 ?_
          refine lv_topi (fun v23 ev23 => ?_)
          refine lv_istore (lv' := [(9, .int v23), (8, .int r19), (7, .int x5), (0, .ref q0), (1, .ref q1), (2, .ref q4), (3, .int a0), (4, .int a1), (5, .int a2), (6, .int a3)]) hx hb dX7_extend_47 hl (by decide) rfl (fun ls hl => ?_)
          refine lv_iload hx hb dX7_extend_49 (lv_at hl 1 rfl) ?_
          refine lv_aload_n hx hb dX7_extend_51 rfl (lv_at hl 3 rfl) ?_
          refine va_get (D := D) (ci := 7) (v := .int s0_3) (C := RX7) (T := TX7) (N := 4) hx hb hts hnX7 hown hE.1 hP 0 rfl rfl 3 (by decide) (hts (.fieldLink RX7 26 "MovedStones$Rounds" "start" "I") (List.mem_cons_of_mem _ (List.mem_append_left _ (List.mem_append_left _ (List.mem_append_left _ (List.mem_of_getElem? (i := 2) rfl)))))) (fun _ h9 => h9) rfl dX7_extend_52 ?_
          have jn27 : ∀ (x24 : Int32) (x25 : Int32) (x26 : Int32) (H : Heap) (locs : List Loc) (ls : Array Slot), va_P D vwCl [(q0, .inr (7, [.int x24, .int x25, .int x26, .int s0_3])), (q4, .inl (cA 0, 9, .inl f4)), (q5, .inl (cA 0, 9, .inl f5)), (q1, .inr (2, [.int s1_0, .int s1_1, .int s1_2, .int s1_3, .int s1_4, .ref q2, .ref q3, .ref q5, .ref q6, .ref q7, .ref q8, .ref q9, .ref q10])), (q2, .inl (cA 0, 9, .inl f2)), (q3, .inl (cA 0, 9, .inl f3))] H → va_D A [(q0, .inr (7, [.int x24, .int x25, .int x26, .int s0_3])), (q4, .inl (cA 0, 9, .inl f4)), (q5, .inl (cA 0, 9, .inl f5)), (q1, .inr (2, [.int s1_0, .int s1_1, .int s1_2, .int s1_3, .int s1_4, .ref q2, .ref q3, .ref q5, .ref q6, .ref q7, .ref q8, .ref q9, .ref q10])), (q2, .inl (cA 0, 9, .inl f2)), (q3, .inl (cA 0, 9, .inl f3))] → va_S A s.heap H locs → lv_has ls 10 [(9, .int v23), (8, .int r19), (7, .int x5), (0, .ref q0), (1, .ref q1), (2, .ref q4), (3, .int a0), (4, .int a1), (5, .int a2), (6, .int a3)] → W p l e ({ frames := 5, cells := 0, slots := 0, locals := 140 } : Room) s m args below meth c H locs 0 0 (MQ below (ms_Qv D A (fun (u : ((Nat → Int32) × (Nat → Nat → Int32) × (Nat → Int64))) => True) (fun (u : ((Nat → Int32) × (Nat → Nat → Int32) × (Nat → Int64))) => [(q0, .inr (7, [.int (u.1 0), .int (u.1 1), .int (u.1 2), .int s0_3])), (q1, .inr (2, [.int s1_0, .int s1_1, .int s1_2, .int s1_3, .int s1_4, .ref q2, .ref q3, .ref q5, .ref q6, .ref q7, .ref q8, .ref q9, .ref q10])), (q2, .inl (cA 0, 9, .inl f2)), (q3, .inl (cA 0, 9, .inl f3)), (q4, .inl (cA 0, 9, .inl f4)), (q5, .inl (cA 0, 9, .inl f5))])) args s 0 0 A) (F0 m 128 ls []) := by
            intro x24 x25 x26 H locs ls   hP hD hS hl
            refine rg_iinc (lo := 1) (hi := 9) (fun z => [(7, .int z), (9, .int v23), (8, .int r19), (0, .ref q0), (1, .ref q1), (2, .ref q4), (3, .int a0), (4, .int a1), (5, .int a2), (6, .int a3)]) hx hb dX7_extend_128 hl (k := 2) rfl (by decide) l6 h16 (by decide) (fun _ => rfl) (fun v28 ev28 lv28 uv28 ls hl => ?_)
            have hl : lv_has ls 10 [(7, .int v28), (9, .int v23), (8, .int r19), (0, .ref q0), (1, .ref q1), (2, .ref q4), (3, .int a0), (4, .int a1), (5, .int a2), (6, .int a3)] := hl
            refine lv_goto (tgt := 14) hx hb dX7_extend_131 (by decide) ?_
            exact ih13 v28 x24 x25 x26 _ _ _ (rg_le lv28 (by decide)) (rg_ge uv28 (by decide))  (rg_ms hm14 ev28 (by decide)) (hP.sub [0, 3, 4, 5, 1, 2] rfl) (hD.sub [0, 3, 4, 5, 1, 2] (by decide) rfl) hS (lv_sub hl [0, 3, 4, 5, 6, 7, 8, 9] rfl)
          refine lv_icmp_ne (tgt := 85) hx hb dX7_extend_55 (by decide) (fun c29 => ?_) (fun c29 => ?_)
          · refine lv_iload hx hb dX7_extend_85 (lv_at hl 1 rfl) ?_
            refine lv_aload_n hx hb dX7_extend_87 rfl (lv_at hl 3 rfl) ?_
            refine va_get (D := D) (ci := 7) (v := .int s0_3) (C := RX7) (T := TX7) (N := 4) hx hb hts hnX7 hown hE.1 hP 0 rfl rfl 3 (by decide) (hts (.fieldLink RX7 26 "MovedStones$Rounds" "start" "I") (List.mem_cons_of_mem _ (List.mem_append_left _ (List.mem_append_left _ (List.mem_append_left _ (List.mem_of_getElem? (i := 2) rfl)))))) (fun _ h9 => h9) rfl dX7_extend_88 ?_
            refine lv_icmp_le (tgt := 128) hx hb dX7_extend_91 (by decide) (fun c30 => ?_) (fun c30 => ?_)
            · exact jn27 x8 x9 x10 _ _ _   hP hD hS (lv_sub hl [0, 1, 2, 3, 4, 5, 6, 7, 8, 9] rfl)
            · have h31 : s0_3.toInt ≤ 4 := rg_lt_hi (rg_nle c30) r19u (by decide)
              have h32 : 1 ≤ r19.toInt := rg_lt_lo (rg_nle c30) s0_3l (by decide)
              refine lv_iload hx hb dX7_extend_94 (lv_at hl 7 rfl) ?_
              refine lv_iload hx hb dX7_extend_96 (lv_at hl 1 rfl) ?_
              refine lv_ishr hx hb dX7_extend_98 ?_
              refine lv_topi (fun v33 ev33 => ?_)
              refine lv_iconst (v := 1) hx hb dX7_extend_99 (by decide) ?_
              refine rg_iand1 hx hb dX7_extend_100 (fun v34 ev34 lv34 uv34 => ?_)
              refine lv_if_ne (tgt := 128) hx hb dX7_extend_101 (by decide) (fun c35 => ?_) (fun c35 => ?_)
              · have h36 : 1 ≤ v34.toInt := rg_ne_lo c35 lv34 (by decide : (0 : Int) ≤ (0 : Int32).toInt) (by decide : (0 : Int32).toInt ≤ 0) (by decide)
                exact jn27 x8 x9 x10 _ _ _   hP hD hS (lv_sub hl [0, 1, 2, 3, 4, 5, 6, 7, 8, 9] rfl)
              · have h37 : v34.toInt ≤ 0 := rg_eq_hi c35 (by decide : (0 : Int32).toInt ≤ 0)
                refine lv_aload_n hx hb dX7_extend_104 rfl (lv_at hl 3 rfl) ?_
                refine lv_aload_n hx hb dX7_extend_105 rfl (lv_at hl 4 rfl) ?_
                refine lv_aload_n hx hb dX7_extend_106 rfl (lv_at hl 5 rfl) ?_
                refine lv_iload hx hb dX7_extend_107 (lv_at hl 1 rfl) ?_
                refine lv_iload hx hb dX7_extend_109 (lv_at hl 7 rfl) ?_
                refine lv_iconst (v := 1) hx hb dX7_extend_111 (by decide) ?_
                refine lv_iload hx hb dX7_extend_112 (lv_at hl 1 rfl) ?_
                refine rg_shl1 (lo := 2) (hi := 32) hx hb dX7_extend_114 h32 r19u (by decide) (fun v38 ev38 lv38 uv38 => ?_)
                refine rg_ior (k := 6) (hi := 63) hx hb dX7_extend_115 a1l a1u lv38 uv38 (by decide) (fun v39 ev39 lv39 uv39 => ?_)
                refine lv_iload hx hb dX7_extend_116 (lv_at hl 8 rfl) ?_
                refine lv_iconst (v := 1) hx hb dX7_extend_118 (by decide) ?_
                refine lv_iload hx hb dX7_extend_119 (lv_at hl 2 rfl) ?_
                refine rg_shl1 (lo := 1) (hi := 256) hx hb dX7_extend_121 l6 h16 (by decide) (fun v40 ev40 lv40 uv40 => ?_)
                refine lv_ior hx hb dX7_extend_122 ?_
                refine lv_topi (fun v41 ev41 => ?_)
                refine lv_iload hx hb dX7_extend_123 (lv_at hl 0 rfl) ?_
                refine ms_cVv (qc := (RX7, TX7, 4)) (wc := [(q0, .inr (7, [.int x8, .int x9, .int x10, .int s0_3])), (q1, .inr (2, [.int s1_0, .int s1_1, .int s1_2, .int s1_3, .int s1_4, .ref q2, .ref q3, .ref q5, .ref q6, .ref q7, .ref q8, .ref q9, .ref q10])), (q2, .inl (cA 0, 9, .inl f2)), (q3, .inl (cA 0, 9, .inl f3)), (q4, .inl (cA 0, 9, .inl f4)), (q5, .inl (cA 0, 9, .inl f5))]) (wr := []) ⟨hx, hb, hml, hown, hts⟩ hE (kX7_extend_4 l D cA q0 q1 q2 q3 q4 q5 q6 q7 q8 q9 q10 x8 x9 x10 s0_3 s1_0 s1_1 s1_2 s1_3 s1_4 f2 f3 f4 f5 r19 v39 v41 v23 (rg_le s0_3l (by decide)) (rg_ge h31 (by decide)) (rg_le s1_0l (by decide)) (rg_ge s1_0u (by decide)) (rg_le s1_1l (by decide)) (rg_ge s1_1u (by decide)) (rg_le s1_2l (by decide)) (rg_ge s1_2u (by decide)) (rg_le h17 (by decide)) (rg_ge s1_3u (by decide)) (rg_le s1_4l (by decide)) (rg_ge s1_4u (by decide)) (rg_Smono f2_0 (by decide) (by decide) (by decide) (by decide)) (rg_Smono f3_0 (by decide) (by decide) (by decide) (by decide)) (rg_Smono f5_0 (by decide) (by decide) (by decide) (by decide)) (rg_le h32 (by decide)) (rg_ge r19u (by decide)) (rg_le lv39 (by decide)) (rg_ge uv39 (by decide)) (ms_pcU (rg_le a1l (by decide)) (rg_ge a1u (by decide)) h32 r19u ev33 ev34 c35 ev38 ev39 hpf)) (cwV 6 hts gX7_extend_X7_extend rfl rfl rfl (by decide +kernel) ⟨Nat.le_of_ble_eq_true rfl, Nat.le_of_ble_eq_true rfl⟩) hP hD hS hA [0, 3, 4, 5, 1, 2] [] rfl rfl rfl rfl (by decide) 0 7 rfl rfl rfl hl.1 rfl (Nat.le_of_ble_eq_true rfl) dX7_extend_125 ⟨Nat.le_of_ble_eq_true rfl, Nat.le_of_ble_eq_true rfl⟩ (fun u42 H locs hp hP hD hS => ?_)
                have hP : va_P D vwCl [(q0, .inr (7, [.int (u42.1 0), .int (u42.1 1), .int (u42.1 2), .int s0_3])), (q1, .inr (2, [.int s1_0, .int s1_1, .int s1_2, .int s1_3, .int s1_4, .ref q2, .ref q3, .ref q5, .ref q6, .ref q7, .ref q8, .ref q9, .ref q10])), (q2, .inl (cA 0, 9, .inl f2)), (q3, .inl (cA 0, 9, .inl f3)), (q4, .inl (cA 0, 9, .inl f4)), (q5, .inl (cA 0, 9, .inl f5))] H := hP
                have hD : va_D A [(q0, .inr (7, [.int (u42.1 0), .int (u42.1 1), .int (u42.1 2), .int s0_3])), (q1, .inr (2, [.int s1_0, .int s1_1, .int s1_2, .int s1_3, .int s1_4, .ref q2, .ref q3, .ref q5, .ref q6, .ref q7, .ref q8, .ref q9, .ref q10])), (q2, .inl (cA 0, 9, .inl f2)), (q3, .inl (cA 0, 9, .inl f3)), (q4, .inl (cA 0, 9, .inl f4)), (q5, .inl (cA 0, 9, .inl f5))] := hD
                exact jn27 (u42.1 0) (u42.1 1) (u42.1 2) _ _ _   (hP.sub [0, 4, 5, 1, 2, 3] rfl) (hD.sub [0, 4, 5, 1, 2, 3] (by decide) rfl) hS (lv_sub hl [0, 1, 2, 3, 4, 5, 6, 7, 8, 9] rfl)
          · have h44 : 0 ≤ r19.toInt := rg_eq_lo c29 s0_3l
            refine lv_iload hx hb dX7_extend_58 (lv_at hl 7 rfl) ?_
            refine ms_cSi (wc := []) (wr := [(q0, .inr (7, [.int x8, .int x9, .int x10, .int s0_3])), (q4, .inl (cA 0, 9, .inl f4)), (q5, .inl (cA 0, 9, .inl f5)), (q1, .inr (2, [.int s1_0, .int s1_1, .int s1_2, .int s1_3, .int s1_4, .ref q2, .ref q3, .ref q5, .ref q6, .ref q7, .ref q8, .ref q9, .ref q10])), (q2, .inl (cA 0, 9, .inl f2)), (q3, .inl (cA 0, 9, .inl f3))]) ⟨hx, hb, hml, hown, hts⟩ hE (kJ6_bitCount_0f7a4_1 l D cA a1) (va_cwS 1 hts gX7_extend_J6_bitCount_0f7a4 rfl rfl rfl (by decide +kernel) ⟨Nat.le_of_ble_eq_true rfl, Nat.le_of_ble_eq_true rfl⟩) hP hD hS hA [] [0, 1, 2, 3, 4, 5] rfl rfl rfl rfl (by decide) rfl hl.1 rfl (Nat.le_of_ble_eq_true rfl) dX7_extend_60 ⟨Nat.le_of_ble_eq_true rfl, Nat.le_of_ble_eq_true rfl⟩ (fun r46 u45 H locs hp hP hD hS => ?_)
            obtain ⟨⟨r46l, r46u⟩, exu45, -⟩ := hp
            have hP : va_P D vwCl [(q0, .inr (7, [.int x8, .int x9, .int x10, .int s0_3])), (q4, .inl (cA 0, 9, .inl f4)), (q5, .inl (cA 0, 9, .inl f5)), (q1, .inr (2, [.int s1_0, .int s1_1, .int s1_2, .int s1_3, .int s1_4, .ref q2, .ref q3, .ref q5, .ref q6, .ref q7, .ref q8, .ref q9, .ref q10])), (q2, .inl (cA 0, 9, .inl f2)), (q3, .inl (cA 0, 9, .inl f3))] H := hP
            have hD : va_D A [(q0, .inr (7, [.int x8, .int x9, .int x10, .int s0_3])), (q4, .inl (cA 0, 9, .inl f4)), (q5, .inl (cA 0, 9, .inl f5)), (q1, .inr (2, [.int s1_0, .int s1_1, .int s1_2, .int s1_3, .int s1_4, .ref q2, .ref q3, .ref q5, .ref q6, .ref q7, .ref q8, .ref q9, .ref q10])), (q2, .inl (cA 0, 9, .inl f2)), (q3, .inl (cA 0, 9, .inl f3))] := hD
            refine lv_iconst (v := 3) hx hb dX7_extend_63 (by decide) ?_
            refine lv_icmp_lt (tgt := 85) hx hb dX7_extend_64 (by decide) (fun c47 => ?_) (fun c47 => ?_)
            · have h48 : r46.toInt ≤ 2 := rg_lt_hi c47 (by decide : (3 : Int32).toInt ≤ 3) (by decide)
              refine lv_iload hx hb dX7_extend_85 (lv_at hl 1 rfl) ?_
              refine lv_aload_n hx hb dX7_extend_87 rfl (lv_at hl 3 rfl) ?_
              refine va_get (D := D) (ci := 7) (v := .int s0_3) (C := RX7) (T := TX7) (N := 4) hx hb hts hnX7 hown hE.1 hP 0 rfl rfl 3 (by decide) (hts (.fieldLink RX7 26 "MovedStones$Rounds" "start" "I") (List.mem_cons_of_mem _ (List.mem_append_left _ (List.mem_append_left _ (List.mem_append_left _ (List.mem_of_getElem? (i := 2) rfl)))))) (fun _ h9 => h9) rfl dX7_extend_88 ?_
              refine lv_icmp_le (tgt := 128) hx hb dX7_extend_91 (by decide) (fun c49 => ?_) (fun c49 => ?_)
              · exact jn27 x8 x9 x10 _ _ _   hP hD hS (lv_sub hl [0, 1, 2, 3, 4, 5, 6, 7, 8, 9] rfl)
              · have h50 : s0_3.toInt ≤ 4 := rg_lt_hi (rg_nle c49) r19u (by decide)
                have h51 : 1 ≤ r19.toInt := rg_lt_lo (rg_nle c49) s0_3l (by decide)
                refine lv_iload hx hb dX7_extend_94 (lv_at hl 7 rfl) ?_
                refine lv_iload hx hb dX7_extend_96 (lv_at hl 1 rfl) ?_
                refine lv_ishr hx hb dX7_extend_98 ?_
                refine lv_topi (fun v52 ev52 => ?_)
                refine lv_iconst (v := 1) hx hb dX7_extend_99 (by decide) ?_
                refine rg_iand1 hx hb dX7_extend_100 (fun v53 ev53 lv53 uv53 => ?_)
                refine lv_if_ne (tgt := 128) hx hb dX7_extend_101 (by decide) (fun c54 => ?_) (fun c54 => ?_)
                · have h55 : 1 ≤ v53.toInt := rg_ne_lo c54 lv53 (by decide : (0 : Int) ≤ (0 : Int32).toInt) (by decide : (0 : Int32).toInt ≤ 0) (by decide)
                  exact jn27 x8 x9 x10 _ _ _   hP hD hS (lv_sub hl [0, 1, 2, 3, 4, 5, 6, 7, 8, 9] rfl)
                · have h56 : v53.toInt ≤ 0 := rg_eq_hi c54 (by decide : (0 : Int32).toInt ≤ 0)
                  refine lv_aload_n hx hb dX7_extend_104 rfl (lv_at hl 3 rfl) ?_
                  refine lv_aload_n hx hb dX7_extend_105 rfl (lv_at hl 4 rfl) ?_
                  refine lv_aload_n hx hb dX7_extend_106 rfl (lv_at hl 5 rfl) ?_
                  refine lv_iload hx hb dX7_extend_107 (lv_at hl 1 rfl) ?_
                  refine lv_iload hx hb dX7_extend_109 (lv_at hl 7 rfl) ?_
                  refine lv_iconst (v := 1) hx hb dX7_extend_111 (by decide) ?_
                  refine lv_iload hx hb dX7_extend_112 (lv_at hl 1 rfl) ?_
                  refine rg_shl1 (lo := 2) (hi := 32) hx hb dX7_extend_114 h51 r19u (by decide) (fun v57 ev57 lv57 uv57 => ?_)
                  refine rg_ior (k := 6) (hi := 63) hx hb dX7_extend_115 a1l a1u lv57 uv57 (by decide) (fun v58 ev58 lv58 uv58 => ?_)
                  refine lv_iload hx hb dX7_extend_116 (lv_at hl 8 rfl) ?_
                  refine lv_iconst (v := 1) hx hb dX7_extend_118 (by decide) ?_
                  refine lv_iload hx hb dX7_extend_119 (lv_at hl 2 rfl) ?_
                  refine rg_shl1 (lo := 1) (hi := 256) hx hb dX7_extend_121 l6 h16 (by decide) (fun v59 ev59 lv59 uv59 => ?_)
                  refine lv_ior hx hb dX7_extend_122 ?_
                  refine lv_topi (fun v60 ev60 => ?_)
                  refine lv_iload hx hb dX7_extend_123 (lv_at hl 0 rfl) ?_
                  refine ms_cVv (qc := (RX7, TX7, 4)) (wc := [(q0, .inr (7, [.int x8, .int x9, .int x10, .int s0_3])), (q1, .inr (2, [.int s1_0, .int s1_1, .int s1_2, .int s1_3, .int s1_4, .ref q2, .ref q3, .ref q5, .ref q6, .ref q7, .ref q8, .ref q9, .ref q10])), (q2, .inl (cA 0, 9, .inl f2)), (q3, .inl (cA 0, 9, .inl f3)), (q4, .inl (cA 0, 9, .inl f4)), (q5, .inl (cA 0, 9, .inl f5))]) (wr := []) ⟨hx, hb, hml, hown, hts⟩ hE (kX7_extend_4 l D cA q0 q1 q2 q3 q4 q5 q6 q7 q8 q9 q10 x8 x9 x10 s0_3 s1_0 s1_1 s1_2 s1_3 s1_4 f2 f3 f4 f5 r19 v58 v60 v23 (rg_le s0_3l (by decide)) (rg_ge h50 (by decide)) (rg_le s1_0l (by decide)) (rg_ge s1_0u (by decide)) (rg_le s1_1l (by decide)) (rg_ge s1_1u (by decide)) (rg_le s1_2l (by decide)) (rg_ge s1_2u (by decide)) (rg_le h17 (by decide)) (rg_ge s1_3u (by decide)) (rg_le s1_4l (by decide)) (rg_ge s1_4u (by decide)) (rg_Smono f2_0 (by decide) (by decide) (by decide) (by decide)) (rg_Smono f3_0 (by decide) (by decide) (by decide) (by decide)) (rg_Smono f5_0 (by decide) (by decide) (by decide) (by decide)) (rg_le h51 (by decide)) (rg_ge r19u (by decide)) (rg_le lv58 (by decide)) (rg_ge uv58 (by decide)) (ms_pcU (rg_le a1l (by decide)) (rg_ge a1u (by decide)) h51 r19u ev52 ev53 c54 ev57 ev58 hpf)) (cwV 6 hts gX7_extend_X7_extend rfl rfl rfl (by decide +kernel) ⟨Nat.le_of_ble_eq_true rfl, Nat.le_of_ble_eq_true rfl⟩) hP hD hS hA [0, 3, 4, 5, 1, 2] [] rfl rfl rfl rfl (by decide) 0 7 rfl rfl rfl hl.1 rfl (Nat.le_of_ble_eq_true rfl) dX7_extend_125 ⟨Nat.le_of_ble_eq_true rfl, Nat.le_of_ble_eq_true rfl⟩ (fun u61 H locs hp hP hD hS => ?_)
                  have hP : va_P D vwCl [(q0, .inr (7, [.int (u61.1 0), .int (u61.1 1), .int (u61.1 2), .int s0_3])), (q1, .inr (2, [.int s1_0, .int s1_1, .int s1_2, .int s1_3, .int s1_4, .ref q2, .ref q3, .ref q5, .ref q6, .ref q7, .ref q8, .ref q9, .ref q10])), (q2, .inl (cA 0, 9, .inl f2)), (q3, .inl (cA 0, 9, .inl f3)), (q4, .inl (cA 0, 9, .inl f4)), (q5, .inl (cA 0, 9, .inl f5))] H := hP
                  have hD : va_D A [(q0, .inr (7, [.int (u61.1 0), .int (u61.1 1), .int (u61.1 2), .int s0_3])), (q1, .inr (2, [.int s1_0, .int s1_1, .int s1_2, .int s1_3, .int s1_4, .ref q2, .ref q3, .ref q5, .ref q6, .ref q7, .ref q8, .ref q9, .ref q10])), (q2, .inl (cA 0, 9, .inl f2)), (q3, .inl (cA 0, 9, .inl f3)), (q4, .inl (cA 0, 9, .inl f4)), (q5, .inl (cA 0, 9, .inl f5))] := hD
                  exact jn27 (u61.1 0) (u61.1 1) (u61.1 2) _ _ _   (hP.sub [0, 4, 5, 1, 2, 3] rfl) (hD.sub [0, 4, 5, 1, 2, 3] (by decide) rfl) hS (lv_sub hl [0, 1, 2, 3, 4, 5, 6, 7, 8, 9] rfl)
            · have h63 : 3 ≤ r46.toInt := rg_le_lo (rg_nlt c47) (by decide : (3 : Int) ≤ (3 : Int32).toInt)
              refine lv_aload_n hx hb dX7_extend_67 rfl (lv_at hl 3 rfl) ?_
              refine lv_iload hx hb dX7_extend_68 (lv_at hl 7 rfl) ?_
              refine lv_iload hx hb dX7_extend_70 (lv_at hl 8 rfl) ?_
              refine lv_iconst (v := 1) hx hb dX7_extend_72 (by decide) ?_
              refine lv_iload hx hb dX7_extend_73 (lv_at hl 2 rfl) ?_
              refine rg_shl1 (lo := 1) (hi := 256) hx hb dX7_extend_75 l6 h16 (by decide) (fun v64 ev64 lv64 uv64 => ?_)
              refine lv_ior hx hb dX7_extend_76 ?_
              refine lv_topi (fun v65 ev65 => ?_)
              refine lv_iload hx hb dX7_extend_77 (lv_at hl 0 rfl) ?_
              refine ms_cVv (qc := (RX7, TX7, 4)) (wc := [(q0, .inr (7, [.int x8, .int x9, .int x10, .int s0_3]))]) (wr := [(q4, .inl (cA 0, 9, .inl f4)), (q5, .inl (cA 0, 9, .inl f5)), (q1, .inr (2, [.int s1_0, .int s1_1, .int s1_2, .int s1_3, .int s1_4, .ref q2, .ref q3, .ref q5, .ref q6, .ref q7, .ref q8, .ref q9, .ref q10])), (q2, .inl (cA 0, 9, .inl f2)), (q3, .inl (cA 0, 9, .inl f3))]) ⟨hx, hb, hml, hown, hts⟩ hE (kX7_compare_1 l D cA q0 x8 x9 x10 s0_3 a1 v65 v23 (rg_le s0_3l (by decide)) (rg_ge s0_3u (by decide)) (rg_le a1l (by decide)) (rg_ge a1u (by decide))) (cwV 3 hts gX7_extend_X7_compare rfl rfl rfl (by decide +kernel) ⟨Nat.le_of_ble_eq_true rfl, Nat.le_of_ble_eq_true rfl⟩) hP hD hS hA [0] [1, 2, 3, 4, 5] rfl rfl rfl rfl (by decide) 0 7 rfl rfl rfl hl.1 rfl (Nat.le_of_ble_eq_true rfl) dX7_extend_79 ⟨Nat.le_of_ble_eq_true rfl, Nat.le_of_ble_eq_true rfl⟩ (fun u66 H locs hp hP hD hS => ?_)
              have hP : va_P D vwCl [(q4, .inl (cA 0, 9, .inl f4)), (q5, .inl (cA 0, 9, .inl f5)), (q1, .inr (2, [.int s1_0, .int s1_1, .int s1_2, .int s1_3, .int s1_4, .ref q2, .ref q3, .ref q5, .ref q6, .ref q7, .ref q8, .ref q9, .ref q10])), (q2, .inl (cA 0, 9, .inl f2)), (q3, .inl (cA 0, 9, .inl f3)), (q0, .inr (7, [.int (u66.1 0), .int (u66.1 1), .int (u66.1 2), .int s0_3]))] H := hP
              have hD : va_D A [(q4, .inl (cA 0, 9, .inl f4)), (q5, .inl (cA 0, 9, .inl f5)), (q1, .inr (2, [.int s1_0, .int s1_1, .int s1_2, .int s1_3, .int s1_4, .ref q2, .ref q3, .ref q5, .ref q6, .ref q7, .ref q8, .ref q9, .ref q10])), (q2, .inl (cA 0, 9, .inl f2)), (q3, .inl (cA 0, 9, .inl f3)), (q0, .inr (7, [.int (u66.1 0), .int (u66.1 1), .int (u66.1 2), .int s0_3]))] := hD
              refine lv_goto (tgt := 128) hx hb dX7_extend_82 (by decide) ?_
              exact jn27 (u66.1 0) (u66.1 1) (u66.1 2) _ _ _   (hP.sub [5, 0, 1, 2, 3, 4] rfl) (hD.sub [5, 0, 1, 2, 3, 4] (by decide) rfl) hS (lv_sub hl [0, 1, 2, 3, 4, 5, 6, 7, 8, 9] rfl)
    exact lp11 10 0 s0_0 s0_1 s0_2 _ _ _ (rg_le (by decide : (0 : Int) ≤ (0 : Int32).toInt) (by decide)) (rg_ge (by decide : (0 : Int32).toInt ≤ 0) (by decide))  (rg_mi (by decide : (0 : Int) ≤ (0 : Int32).toInt) (by decide)) hP hD hS (lv_sub hl [0, 1, 2, 3, 4, 5, 6, 7] rfl)
  · have h68 : 7 ≤ r2.toInt := rg_lt_lo (rg_nle c3) (by decide : (6 : Int) ≤ (6 : Int32).toInt) (by decide)
    exact ms_vret hx hb hr hlk (fun i => [s0_0, s0_1, s0_2].getD i 0, fun i => [].getD i ms_z, fun i => [].getD i 0) trivial hP hD hS (Nat.le_of_ble_eq_true rfl) (Nat.le_of_ble_eq_true rfl) dX7_extend_10
