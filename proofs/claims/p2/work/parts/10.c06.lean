set_option maxHeartbeats 4000000 in
set_option maxRecDepth 100000 in
theorem kX7_extend_1 (l : Launch) (D : va_G) (cA : Nat → ClassId) (q0 q1 q2 q3 q4 q5 q6 q7 q8 q9 q10 : Nat) (s0_0 : Int32) (s0_1 : Int32) (s0_2 : Int32) (s0_3 : Int32) (s1_0 : Int32) (s1_1 : Int32) (s1_2 : Int32) (s1_3 : Int32) (s1_4 : Int32) (f2 : Nat → Int32) (f3 : Nat → Int32) (f4 : Nat → Int32) (f5 : Nat → Int32) (a0 : Int32) (a1 : Int32) (a2 : Int32) (a3 : Int32) (s0_3l : 0 ≤ s0_3.toInt) (s0_3u : s0_3.toInt ≤ 5) (s1_0l : 0 ≤ s1_0.toInt) (s1_0u : s1_0.toInt ≤ 6) (s1_1l : 0 ≤ s1_1.toInt) (s1_1u : s1_1.toInt ≤ 4) (s1_2l : 0 ≤ s1_2.toInt) (s1_2u : s1_2.toInt ≤ 9) (s1_3l : 0 ≤ s1_3.toInt) (s1_3u : s1_3.toInt ≤ 9) (s1_4l : 0 ≤ s1_4.toInt) (s1_4u : s1_4.toInt ≤ 6) (f2_0 : rg_S f2 0 9 0 5) (f3_0 : rg_S f3 0 9 0 5) (f5_0 : rg_S f5 0 9 0 99) (a0l : 0 ≤ a0.toInt) (a0u : a0.toInt ≤ 5) (a1l : 0 ≤ a1.toInt) (a1u : a1.toInt ≤ 63) (hpf : ms_pc a1 = 6) : ms_Mv l yX7_extend wsX7_extend ({ frames := 1, cells := 0, slots := 0, locals := 24 } : Room) D cA [.ref q0, .ref q1, .ref q4, .int a0, .int a1, .int a2, .int a3] [(q0, .inr (7, [.int s0_0, .int s0_1, .int s0_2, .int s0_3])), (q1, .inr (2, [.int s1_0, .int s1_1, .int s1_2, .int s1_3, .int s1_4, .ref q2, .ref q3, .ref q5, .ref q6, .ref q7, .ref q8, .ref q9, .ref q10])), (q2, .inl (cA 0, 9, .inl f2)), (q3, .inl (cA 0, 9, .inl f3)), (q4, .inl (cA 0, 9, .inl f4)), (q5, .inl (cA 0, 9, .inl f5))] (fun (u : ((Nat → Int32) × (Nat → Nat → Int32) × (Nat → Int64))) => True) (fun (u : ((Nat → Int32) × (Nat → Nat → Int32) × (Nat → Int64))) => [(q0, .inr (7, [.int (u.1 0), .int (u.1 1), .int (u.1 2), .int s0_3])), (q1, .inr (2, [.int s1_0, .int s1_1, .int s1_2, .int s1_3, .int s1_4, .ref q2, .ref q3, .ref q5, .ref q6, .ref q7, .ref q8, .ref q9, .ref q10])), (q2, .inl (cA 0, 9, .inl f2)), (q3, .inl (cA 0, 9, .inl f3)), (q4, .inl (cA 0, 9, .inl f4)), (q5, .inl (cA 0, 9, .inl f5))]) := by
  refine ms_Mv_of (cc := cX7_extend) (maxL := 10) (ret := none) (by decide) rfl (Nat.le_of_ble_eq_true rfl) ?_
  intro p e s m args below meth c A ls hB hE hA hP hD hS hl
  obtain ⟨hx, hb, hr, hml, hown, hts, hlk, hnm⟩ := hB
  have hown : s.vm.findClass RX7 = some m.cls := hown
  have hnX2 : ∀ w ∈ u_ws RX2 TX2 13, w ∈ wsX7_extend := fun _ h => List.mem_cons_of_mem _ (List.mem_append_left _ (List.mem_append_right _ (h)))
  have hnX7 : ∀ w ∈ u_ws RX7 TX7 4, w ∈ wsX7_extend := fun _ h => List.mem_cons_of_mem _ (List.mem_append_right _ (h))
  have hl : lv_has ls 10 [(0, .ref q0), (1, .ref q1), (2, .ref q4), (3, .int a0), (4, .int a1), (5, .int a2), (6, .int a3)] := hl
  refine lv_iload hx hb dX7_extend_0 (lv_at hl 4 rfl) ?_
  refine ms_cSi (wc := []) (wr := [(q0, .inr (7, [.int s0_0, .int s0_1, .int s0_2, .int s0_3])), (q1, .inr (2, [.int s1_0, .int s1_1, .int s1_2, .int s1_3, .int s1_4, .ref q2, .ref q3, .ref q5, .ref q6, .ref q7, .ref q8, .ref q9, .ref q10])), (q2, .inl (cA 0, 9, .inl f2)), (q3, .inl (cA 0, 9, .inl f3)), (q4, .inl (cA 0, 9, .inl f4)), (q5, .inl (cA 0, 9, .inl f5))]) ⟨hx, hb, hml, hown, hts⟩ hE (kJ6_bitCount_0f7a4_1 l D cA a1) (va_cwS 1 hts gX7_extend_J6_bitCount_0f7a4 rfl rfl rfl (by decide +kernel) ⟨Nat.le_of_ble_eq_true rfl, Nat.le_of_ble_eq_true rfl⟩) hP hD hS hA [] [0, 1, 2, 3, 4, 5] rfl rfl rfl rfl (by decide) rfl hl.1 rfl (Nat.le_of_ble_eq_true rfl) dX7_extend_2 ⟨Nat.le_of_ble_eq_true rfl, Nat.le_of_ble_eq_true rfl⟩ (fun r2 u1 H locs hp hP hD hS => ?_)
  obtain ⟨⟨r2l, r2u⟩, exu1, -⟩ := hp
  have hP : va_P D vwCl [(q0, .inr (7, [.int s0_0, .int s0_1, .int s0_2, .int s0_3])), (q1, .inr (2, [.int s1_0, .int s1_1, .int s1_2, .int s1_3, .int s1_4, .ref q2, .ref q3, .ref q5, .ref q6, .ref q7, .ref q8, .ref q9, .ref q10])), (q2, .inl (cA 0, 9, .inl f2)), (q3, .inl (cA 0, 9, .inl f3)), (q4, .inl (cA 0, 9, .inl f4)), (q5, .inl (cA 0, 9, .inl f5))] H := hP
  have hD : va_D A [(q0, .inr (7, [.int s0_0, .int s0_1, .int s0_2, .int s0_3])), (q1, .inr (2, [.int s1_0, .int s1_1, .int s1_2, .int s1_3, .int s1_4, .ref q2, .ref q3, .ref q5, .ref q6, .ref q7, .ref q8, .ref q9, .ref q10])), (q2, .inl (cA 0, 9, .inl f2)), (q3, .inl (cA 0, 9, .inl f3)), (q4, .inl (cA 0, 9, .inl f4)), (q5, .inl (cA 0, 9, .inl f5))] := hD
  refine lv_bipush (v := 6) hx hb dX7_extend_5 (by decide) ?_
  refine lv_icmp_le (tgt := 11) hx hb dX7_extend_7 (by decide) (fun c3 => ?_) (fun c3 => ?_)
  · have h4 : r2.toInt ≤ 6 := rg_le_hi c3 (by decide : (6 : Int32).toInt ≤ 6)
    refine lv_iconst (v := 0) hx hb dX7_extend_11 (by decide) ?_
    refine lv_istore (lv' := [(7, .int 0), (0, .ref q0), (1, .ref q1), (2, .ref q4), (3, .int a0), (4, .int a1), (5, .int a2), (6, .int a3)]) hx hb dX7_extend_12 hl (by decide) rfl (fun ls hl => ?_)
    have lp11 : ∀ (n12 : Nat) (x5 : Int32) (x8 : Int32) (x9 : Int32) (x10 : Int32) (H : Heap) (locs : List Loc) (ls : Array Slot), 0 ≤ x5.toInt → x5.toInt ≤ 9 → 9 + 1 ≤ x5.toInt + (n12 : Int) → va_P D vwCl [(q0, .inr (7, [.int x8, .int x9, .int x10, .int s0_3])), (q1, .inr (2, [.int s1_0, .int s1_1, .int s1_2, .int s1_3, .int s1_4, .ref q2, .ref q3, .ref q5, .ref q6, .ref q7, .ref q8, .ref q9, .ref q10])), (q2, .inl (cA 0, 9, .inl f2)), (q3, .inl (cA 0, 9, .inl f3)), (q4, .inl (cA 0, 9, .inl f4)), (q5, .inl (cA 0, 9, .inl f5))] H → va_D A [(q0, .inr (7, [.int x8, .int x9, .int x10, .int s0_3])), (q1, .inr (2, [.int s1_0, .int s1_1, .int s1_2, .int s1_3, .int s1_4, .ref q2, .ref q3, .ref q5, .ref q6, .ref q7, .ref q8, .ref q9, .ref q10])), (q2, .inl (cA 0, 9, .inl f2)), (q3, .inl (cA 0, 9, .inl f3)), (q4, .inl (cA 0, 9, .inl f4)), (q5, .inl (cA 0, 9, .inl f5))] → va_S A s.heap H locs → lv_has ls 10 [(7, .int x5), (0, .ref q0), (1, .ref q1), (2, .ref q4), (3, .int a0), (4, .int a1), (5, .int a2), (6, .int a3)] → W p l e ({ frames := 1, cells := 0, slots := 0, locals := 24 } : Room) s m args below meth c H locs 0 0 (MQ below (ms_Qv D A (fun (u : ((Nat → Int32) × (Nat → Nat → Int32) × (Nat → Int64))) => True) (fun (u : ((Nat → Int32) × (Nat → Nat → Int32) × (Nat → Int64))) => [(q0, .inr (7, [.int (u.1 0), .int (u.1 1), .int (u.1 2), .int s0_3])), (q1, .inr (2, [.int s1_0, .int s1_1, .int s1_2, .int s1_3, .int s1_4, .ref q2, .ref q3, .ref q5, .ref q6, .ref q7, .ref q8, .ref q9, .ref q10])), (q2, .inl (cA 0, 9, .inl f2)), (q3, .inl (cA 0, 9, .inl f3)), (q4, .inl (cA 0, 9, .inl f4)), (q5, .inl (cA 0, 9, .inl f5))])) args s 0 0 A) (F0 m 14 ls []) := by
      intro n12
      induction n12 with
      | zero => intro x5 x8 x9 x10 H locs ls l6 u7  hm14; exact (rg_m0 hm14 u7).elim
      | succ n12 ih13 =>
        intro x5 x8 x9 x10 H locs ls l6 u7  hm14 hP hD hS hl
        refine lv_iload hx hb dX7_extend_14 (lv_at hl 0 rfl) ?_
        refine lv_aload_n hx hb dX7_extend_16 rfl (lv_at hl 2 rfl) ?_
        refine va_get (D := D) (ci := 2) (v := .int s1_3) (C := RX2) (T := TX2) (N := 13) hx hb hts hnX2 hown hE.1 hP 1 rfl rfl 3 (by decide) (hts (.fieldLink RX7 39 "MovedStones$Land" "roads" "I") (List.mem_cons_of_mem _ (List.mem_append_left _ (List.mem_append_left _ (List.mem_append_left _ (List.mem_of_getElem? (i := 0) rfl)))))) (fun _ h9 => h9) rfl dX7_extend_17 ?_
        refine lv_icmp_ge (tgt := 134) hx hb dX7_extend_20 (by decide) (fun c15 => ?_) (fun c15 => ?_)
        · exact ms_vret hx hb hr hlk (fun i => [x8, x9, x10].getD i 0, fun i => [].getD i ms_z, fun i => [].getD i 0) trivial hP hD hS (Nat.le_of_ble_eq_true rfl) (Nat.le_of_ble_eq_true rfl) dX7_extend_134
        · have h16 : x5.toInt ≤ 8 := rg_lt_hi (rg_nle c15) s1_3u (by decide)
          have h17 : 1 ≤ s1_3.toInt := rg_lt_lo (rg_nle c15) l6 (by decide)
          refine lv_aload_n hx hb dX7_extend_23 rfl (lv_at hl 2 rfl) ?_
          refine lv_iload hx hb dX7_extend_24 (lv_at hl 0 rfl) ?_
          refine lv_iload_n hx hb dX7_extend_26 rfl (lv_at hl 4 rfl) ?_
          refine ms_cVi (qc := (RX2, TX2, 13)) (wc := [(q1, .inr (2, [.int s1_0, .int s1_1, .int s1_2, .int s1_3, .int s1_4, .ref q2, .ref q3, .ref q5, .ref q6, .ref q7, .ref q8, .ref q9, .ref q10])), (q2, .inl (cA 0, 9, .inl f2)), (q3, .inl (cA 0, 9, .inl f3))]) (wr := [(q0, .inr (7, [.int x8, .int x9, .int x10, .int s0_3])), (q4, .inl (cA 0, 9, .inl f4)), (q5, .inl (cA 0, 9, .inl f5))]) ⟨hx, hb, hml, hown, hts⟩ hE (kX2_otherEnd_1 l D cA q1 q2 q3 q5 q6 q7 q8 q9 q10 s1_0 s1_1 s1_2 s1_3 s1_4 f2 f3 x5 a0 (rg_le s1_0l (by decide)) (rg_ge s1_0u (by decide)) (rg_le s1_1l (by decide)) (rg_ge s1_1u (by decide)) (rg_le s1_2l (by decide)) (rg_ge s1_2u (by decide)) (rg_le h17 (by decide)) (rg_ge s1_3u (by decide)) (rg_le s1_4l (by decide)) (rg_ge s1_4u (by decide)) (rg_Smono f2_0 (by decide) (by decide) (by decide) (by decide)) (rg_Smono f3_0 (by decide) (by decide) (by decide) (by decide)) (rg_le l6 (by decide)) (rg_ge h16 (by decide))) (cwV 2 hts gX7_extend_X2_otherEnd rfl rfl rfl (by decide +kernel) ⟨Nat.le_of_ble_eq_true rfl, Nat.le_of_ble_eq_true rfl⟩) hP hD hS hA [1, 2, 3] [0, 4, 5] rfl rfl rfl rfl (by decide) 0 2 rfl rfl rfl hl.1 rfl (Nat.le_of_ble_eq_true rfl) dX7_extend_27 ⟨Nat.le_of_ble_eq_true rfl, Nat.le_of_ble_eq_true rfl⟩ (fun r19 u18 H locs hp hP hD hS => ?_)
          obtain ⟨⟨r19l, r19u⟩, exu18, -⟩ := hp
          have hP : va_P D vwCl [(q0, .inr (7, [.int x8, .int x9, .int x10, .int s0_3])), (q4, .inl (cA 0, 9, .inl f4)), (q5, .inl (cA 0, 9, .inl f5)), (q1, .inr (2, [.int s1_0, .int s1_1, .int s1_2, .int s1_3, .int s1_4, .ref q2, .ref q3, .ref q5, .ref q6, .ref q7, .ref q8, .ref q9, .ref q10])), (q2, .inl (cA 0, 9, .inl f2)), (q3, .inl (cA 0, 9, .inl f3))] H := hP
          have hD : va_D A [(q0, .inr (7, [.int x8, .int x9, .int x10, .int s0_3])), (q4, .inl (cA 0, 9, .inl f4)), (q5, .inl (cA 0, 9, .inl f5)), (q1, .inr (2, [.int s1_0, .int s1_1, .int s1_2, .int s1_3, .int s1_4, .ref q2, .ref q3, .ref q5, .ref q6, .ref q7, .ref q8, .ref q9, .ref q10])), (q2, .inl (cA 0, 9, .inl f2)), (q3, .inl (cA 0, 9, .inl f3))] := hD
          refine lv_istore (lv' := [(8, .int r19), (7, .int x5), (0, .ref q0), (1, .ref q1), (2, .ref q4), (3, .int a0), (4, .int a1), (5, .int a2), (6, .int a3)]) hx hb dX7_extend_30 hl (by decide) rfl (fun ls hl => ?_)
          refine lv_iload hx hb dX7_extend_32 (lv_at hl 8 rfl) ?_
          refine lv_aload_n hx hb dX7_extend_34 rfl (lv_at hl 4 rfl) ?_
          refine lv_iload hx hb dX7_extend_35 (lv_at hl 1 rfl) ?_
          refine rg_iald0 hx hb hE hP (q0 := 1) rfl l6 h16 (by decide) dX7_extend_37 (fun v20 ev20 => ?_)
          refine lv_iadd hx hb dX7_extend_38 ?_
          refine lv_topi (fun v21 ev21 => ?_)
          refine lv_aload_n hx hb dX7_extend_39 rfl (lv_at hl 3 rfl) ?_
          refine va_get (D := D) (ci := 2) (v := .ref q5) (C := RX2) (T := TX2) (N := 13) hx hb hts hnX2 hown hE.1 hP 3 rfl rfl 7 (by decide) (hts (.fieldLink RX7 46 "MovedStones$Land" "feet" "[I") (List.mem_cons_of_mem _ (List.mem_append_left _ (List.mem_append_left _ (List.mem_append_left _ (List.mem_of_getElem? (i := 1) rfl)))))) (fun _ h9 => h9) rfl dX7_extend_40 ?_
          refine lv_iload hx hb dX7_extend_43 (lv_at hl 1 rfl) ?_
          refine rg_iald hx hb hE hP (q0 := 2) rfl l6 h16 f5_0 (by decide) dX7_extend_45 (fun v22 ev22 lv22 uv22 => ?_)
          refine lv_isub hx hb dX7_extend_46 ?_
          refine lv_topi (fun v23 ev23 => ?_)
          refine lv_istore (lv' := [(9, .int v23), (8, .int r19), (7, .int x5), (0, .ref q0), (1, .ref q1), (2, .ref q4), (3, .int a0), (4, .int a1), (5, .int a2), (6, .int a3)]) hx hb dX7_extend_47 hl (by decide) rfl (fun ls hl => ?_)
          refine lv_iload hx hb dX7_extend_49 (lv_at hl 1 rfl) ?_
          refine lv_aload_n hx hb dX7_extend_51 rfl (lv_at hl 3 rfl) ?_
          refine va_get (D := D) (ci := 7) (v := .int s0_3) (C := RX7) (T := TX7) (N := 4) hx hb hts hnX7 hown hE.1 hP 0 rfl rfl 3 (by decide) (hts (.fieldLink RX7 26 "MovedStones$Rounds" "start" "I") (List.mem_cons_of_mem _ (List.mem_append_left _ (List.mem_append_left _ (List.mem_append_left _ (List.mem_of_getElem? (i := 2) rfl)))))) (fun _ h9 => h9) rfl dX7_extend_52 ?_
          have jn27 : ∀ (x24 : Int32) (x25 : Int32) (x26 : Int32) (H : Heap) (locs : List Loc) (ls : Array Slot), va_P D vwCl [(q0, .inr (7, [.int x24, .int x25, .int x26, .int s0_3])), (q4, .inl (cA 0, 9, .inl f4)), (q5, .inl (cA 0, 9, .inl f5)), (q1, .inr (2, [.int s1_0, .int s1_1, .int s1_2, .int s1_3, .int s1_4, .ref q2, .ref q3, .ref q5, .ref q6, .ref q7, .ref q8, .ref q9, .ref q10])), (q2, .inl (cA 0, 9, .inl f2)), (q3, .inl (cA 0, 9, .inl f3))] H → va_D A [(q0, .inr (7, [.int x24, .int x25, .int x26, .int s0_3])), (q4, .inl (cA 0, 9, .inl f4)), (q5, .inl (cA 0, 9, .inl f5)), (q1, .inr (2, [.int s1_0, .int s1_1, .int s1_2, .int s1_3, .int s1_4, .ref q2, .ref q3, .ref q5, .ref q6, .ref q7, .ref q8, .ref q9, .ref q10])), (q2, .inl (cA 0, 9, .inl f2)), (q3, .inl (cA 0, 9, .inl f3))] → va_S A s.heap H locs → lv_has ls 10 [(9, .int v23), (8, .int r19), (7, .int x5), (0, .ref q0), (1, .ref q1), (2, .ref q4), (3, .int a0), (4, .int a1), (5, .int a2), (6, .int a3)] → W p l e ({ frames := 1, cells := 0, slots := 0, locals := 24 } : Room) s m args below meth c H locs 0 0 (MQ below (ms_Qv D A (fun (u : ((Nat → Int32) × (Nat → Nat → Int32) × (Nat → Int64))) => True) (fun (u : ((Nat → Int32) × (Nat → Nat → Int32) × (Nat → Int64))) => [(q0, .inr (7, [.int (u.1 0), .int (u.1 1), .int (u.1 2), .int s0_3])), (q1, .inr (2, [.int s1_0, .int s1_1, .int s1_2, .int s1_3, .int s1_4, .ref q2, .ref q3, .ref q5, .ref q6, .ref q7, .ref q8, .ref q9, .ref q10])), (q2, .inl (cA 0, 9, .inl f2)), (q3, .inl (cA 0, 9, .inl f3)), (q4, .inl (cA 0, 9, .inl f4)), (q5, .inl (cA 0, 9, .inl f5))])) args s 0 0 A) (F0 m 128 ls []) := by
            intro x24 x25 x26 H locs ls   hP hD hS hl
            refine rg_iinc (lo := 1) (hi := 9) (fun z => [(7, .int z), (9, .int v23), (8, .int r19), (0, .ref q0), (1, .ref q1), (2, .ref q4), (3, .int a0), (4, .int a1), (5, .int a2), (6, .int a3)]) hx hb dX7_extend_128 hl (k := 2) rfl (by decide) l6 h16 (by decide) (fun _ => rfl) (fun v28 ev28 lv28 uv28 ls hl => ?_)
            have hl : lv_has ls 10 [(7, .int v28), (9, .int v23), (8, .int r19), (0, .ref q0), (1, .ref q1), (2, .ref q4), (3, .int a0), (4, .int a1), (5, .int a2), (6, .int a3)] := hl
            refine lv_goto (tgt := 14) hx hb dX7_extend_131 (by decide) ?_
            exact ih13 v28 x24 x25 x26 _ _ _ (rg_le lv28 (by decide)) (rg_ge uv28 (by decide))  (rg_ms hm14 ev28 (by decide)) (hP.sub [0, 3, 4, 5, 1, 2] rfl) (hD.sub [0, 3, 4, 5, 1, 2] (by decide) rfl) hS (lv_sub hl [0, 3, 4, 5, 6, 7, 8, 9] rfl)
          refine lv_icmp_ne (tgt := 85) hx hb dX7_extend_55 (by decide) (fun c29 => ?_) (fun c29 => ?_)
          · refine lv_iload hx hb dX7_extend_85 (lv_at hl 1 rfl) ?_
            refine lv_aload_n hx hb dX7_extend_87 rfl (lv_at hl 3 rfl) ?_
            refine va_get (D := D) (ci := 7) (v := .int s0_3) (C := RX7) (T := TX7) (N := 4) hx hb hts hnX7 hown hE.1 hP 0 rfl rfl 3 (by decide) (hts (.fieldLink RX7 26 "MovedStones$Rounds" "start" "I") (List.mem_cons_of_mem _ (List.mem_append_left _ (List.mem_append_left _ (List.mem_append_left _ (List.mem_of_getElem? (i := 2) rfl)))))) (fun _ h9 => h9) rfl dX7_extend_88 ?_
            refine lv_icmp_le (tgt := 128) hx hb dX7_extend_91 (by decide) (fun c30 => ?_) (fun c30 => ?_)
            · exact jn27 x8 x9 x10 _ _ _   hP hD hS (lv_sub hl [0, 1, 2, 3, 4, 5, 6, 7, 8, 9] rfl)
            · have h31 : s0_3.toInt ≤ 4 := rg_lt_hi (rg_nle c30) r19u (by decide)
              have h32 : 1 ≤ r19.toInt := rg_lt_lo (rg_nle c30) s0_3l (by decide)
              refine lv_iload hx hb dX7_extend_94 (lv_at hl 7 rfl) ?_
              refine lv_iload hx hb dX7_extend_96 (lv_at hl 1 rfl) ?_
              refine lv_ishr hx hb dX7_extend_98 ?_
              refine lv_topi (fun v33 ev33 => ?_)
              refine lv_iconst (v := 1) hx hb dX7_extend_99 (by decide) ?_
              refine rg_iand1 hx hb dX7_extend_100 (fun v34 ev34 lv34 uv34 => ?_)
              refine lv_if_ne (tgt := 128) hx hb dX7_extend_101 (by decide) (fun c35 => ?_) (fun c35 => ?_)
              · have h36 : 1 ≤ v34.toInt := rg_ne_lo c35 lv34 (by decide : (0 : Int) ≤ (0 : Int32).toInt) (by decide : (0 : Int32).toInt ≤ 0) (by decide)
                exact jn27 x8 x9 x10 _ _ _   hP hD hS (lv_sub hl [0, 1, 2, 3, 4, 5, 6, 7, 8, 9] rfl)
              · have h37 : v34.toInt ≤ 0 := rg_eq_hi c35 (by decide : (0 : Int32).toInt ≤ 0)
                refine lv_aload_n hx hb dX7_extend_104 rfl (lv_at hl 3 rfl) ?_
                refine lv_aload_n hx hb dX7_extend_105 rfl (lv_at hl 4 rfl) ?_
                refine lv_aload_n hx hb dX7_extend_106 rfl (lv_at hl 5 rfl) ?_
                refine lv_iload hx hb dX7_extend_107 (lv_at hl 1 rfl) ?_
                refine lv_iload hx hb dX7_extend_109 (lv_at hl 7 rfl) ?_
                refine lv_iconst (v := 1) hx hb dX7_extend_111 (by decide) ?_
                refine lv_iload hx hb dX7_extend_112 (lv_at hl 1 rfl) ?_
                refine rg_shl1 (lo := 2) (hi := 32) hx hb dX7_extend_114 h32 r19u (by decide) (fun v38 ev38 lv38 uv38 => ?_)
                refine rg_ior (k := 6) (hi := 63) hx hb dX7_extend_115 a1l a1u lv38 uv38 (by decide) (fun v39 ev39 lv39 uv39 => ?_)
                refine lv_iload hx hb dX7_extend_116 (lv_at hl 8 rfl) ?_
                refine lv_iconst (v := 1) hx hb dX7_extend_118 (by decide) ?_
                refine lv_iload hx hb dX7_extend_119 (lv_at hl 2 rfl) ?_
                refine rg_shl1 (lo := 1) (hi := 256) hx hb dX7_extend_121 l6 h16 (by decide) (fun v40 ev40 lv40 uv40 => ?_)
                refine lv_ior hx hb dX7_extend_122 ?_
                refine lv_topi (fun v41 ev41 => ?_)
                refine lv_iload hx hb dX7_extend_123 (lv_at hl 0 rfl) ?_
                exact (ms_pc6 (rg_le a1l (by decide)) (rg_ge a1u (by decide)) h32 r19u ev33 ev34 c35 hpf).elim
          · have h42 : 0 ≤ r19.toInt := rg_eq_lo c29 s0_3l
            refine lv_iload hx hb dX7_extend_58 (lv_at hl 7 rfl) ?_
            refine ms_cSi (wc := []) (wr := [(q0, .inr (7, [.int x8, .int x9, .int x10, .int s0_3])), (q4, .inl (cA 0, 9, .inl f4)), (q5, .inl (cA 0, 9, .inl f5)), (q1, .inr (2, [.int s1_0, .int s1_1, .int s1_2, .int s1_3, .int s1_4, .ref q2, .ref q3, .ref q5, .ref q6, .ref q7, .ref q8, .ref q9, .ref q10])), (q2, .inl (cA 0, 9, .inl f2)), (q3, .inl (cA 0, 9, .inl f3))]) ⟨hx, hb, hml, hown, hts⟩ hE (kJ6_bitCount_0f7a4_1 l D cA a1) (va_cwS 1 hts gX7_extend_J6_bitCount_0f7a4 rfl rfl rfl (by decide +kernel) ⟨Nat.le_of_ble_eq_true rfl, Nat.le_of_ble_eq_true rfl⟩) hP hD hS hA [] [0, 1, 2, 3, 4, 5] rfl rfl rfl rfl (by decide) rfl hl.1 rfl (Nat.le_of_ble_eq_true rfl) dX7_extend_60 ⟨Nat.le_of_ble_eq_true rfl, Nat.le_of_ble_eq_true rfl⟩ (fun r44 u43 H locs hp hP hD hS => ?_)
            obtain ⟨⟨r44l, r44u⟩, exu43, -⟩ := hp
            have hP : va_P D vwCl [(q0, .inr (7, [.int x8, .int x9, .int x10, .int s0_3])), (q4, .inl (cA 0, 9, .inl f4)), (q5, .inl (cA 0, 9, .inl f5)), (q1, .inr (2, [.int s1_0, .int s1_1, .int s1_2, .int s1_3, .int s1_4, .ref q2, .ref q3, .ref q5, .ref q6, .ref q7, .ref q8, .ref q9, .ref q10])), (q2, .inl (cA 0, 9, .inl f2)), (q3, .inl (cA 0, 9, .inl f3))] H := hP
            have hD : va_D A [(q0, .inr (7, [.int x8, .int x9, .int x10, .int s0_3])), (q4, .inl (cA 0, 9, .inl f4)), (q5, .inl (cA 0, 9, .inl f5)), (q1, .inr (2, [.int s1_0, .int s1_1, .int s1_2, .int s1_3, .int s1_4, .ref q2, .ref q3, .ref q5, .ref q6, .ref q7, .ref q8, .ref q9, .ref q10])), (q2, .inl (cA 0, 9, .inl f2)), (q3, .inl (cA 0, 9, .inl f3))] := hD
            refine lv_iconst (v := 3) hx hb dX7_extend_63 (by decide) ?_
            refine lv_icmp_lt (tgt := 85) hx hb dX7_extend_64 (by decide) (fun c45 => ?_) (fun c45 => ?_)
            · have h46 : r44.toInt ≤ 2 := rg_lt_hi c45 (by decide : (3 : Int32).toInt ≤ 3) (by decide)
              refine lv_iload hx hb dX7_extend_85 (lv_at hl 1 rfl) ?_
              refine lv_aload_n hx hb dX7_extend_87 rfl (lv_at hl 3 rfl) ?_
              refine va_get (D := D) (ci := 7) (v := .int s0_3) (C := RX7) (T := TX7) (N := 4) hx hb hts hnX7 hown hE.1 hP 0 rfl rfl 3 (by decide) (hts (.fieldLink RX7 26 "MovedStones$Rounds" "start" "I") (List.mem_cons_of_mem _ (List.mem_append_left _ (List.mem_append_left _ (List.mem_append_left _ (List.mem_of_getElem? (i := 2) rfl)))))) (fun _ h9 => h9) rfl dX7_extend_88 ?_
              refine lv_icmp_le (tgt := 128) hx hb dX7_extend_91 (by decide) (fun c47 => ?_) (fun c47 => ?_)
              · exact jn27 x8 x9 x10 _ _ _   hP hD hS (lv_sub hl [0, 1, 2, 3, 4, 5, 6, 7, 8, 9] rfl)
              · have h48 : s0_3.toInt ≤ 4 := rg_lt_hi (rg_nle c47) r19u (by decide)
                have h49 : 1 ≤ r19.toInt := rg_lt_lo (rg_nle c47) s0_3l (by decide)
                refine lv_iload hx hb dX7_extend_94 (lv_at hl 7 rfl) ?_
                refine lv_iload hx hb dX7_extend_96 (lv_at hl 1 rfl) ?_
                refine lv_ishr hx hb dX7_extend_98 ?_
                refine lv_topi (fun v50 ev50 => ?_)
                refine lv_iconst (v := 1) hx hb dX7_extend_99 (by decide) ?_
                refine rg_iand1 hx hb dX7_extend_100 (fun v51 ev51 lv51 uv51 => ?_)
                refine lv_if_ne (tgt := 128) hx hb dX7_extend_101 (by decide) (fun c52 => ?_) (fun c52 => ?_)
                · have h53 : 1 ≤ v51.toInt := rg_ne_lo c52 lv51 (by decide : (0 : Int) ≤ (0 : Int32).toInt) (by decide : (0 : Int32).toInt ≤ 0) (by decide)
                  exact jn27 x8 x9 x10 _ _ _   hP hD hS (lv_sub hl [0, 1, 2, 3, 4, 5, 6, 7, 8, 9] rfl)
                · have h54 : v51.toInt ≤ 0 := rg_eq_hi c52 (by decide : (0 : Int32).toInt ≤ 0)
                  refine lv_aload_n hx hb dX7_extend_104 rfl (lv_at hl 3 rfl) ?_
                  refine lv_aload_n hx hb dX7_extend_105 rfl (lv_at hl 4 rfl) ?_
                  refine lv_aload_n hx hb dX7_extend_106 rfl (lv_at hl 5 rfl) ?_
                  refine lv_iload hx hb dX7_extend_107 (lv_at hl 1 rfl) ?_
                  refine lv_iload hx hb dX7_extend_109 (lv_at hl 7 rfl) ?_
                  refine lv_iconst (v := 1) hx hb dX7_extend_111 (by decide) ?_
                  refine lv_iload hx hb dX7_extend_112 (lv_at hl 1 rfl) ?_
                  refine rg_shl1 (lo := 2) (hi := 32) hx hb dX7_extend_114 h49 r19u (by decide) (fun v55 ev55 lv55 uv55 => ?_)
                  refine rg_ior (k := 6) (hi := 63) hx hb dX7_extend_115 a1l a1u lv55 uv55 (by decide) (fun v56 ev56 lv56 uv56 => ?_)
                  refine lv_iload hx hb dX7_extend_116 (lv_at hl 8 rfl) ?_
                  refine lv_iconst (v := 1) hx hb dX7_extend_118 (by decide) ?_
                  refine lv_iload hx hb dX7_extend_119 (lv_at hl 2 rfl) ?_
                  refine rg_shl1 (lo := 1) (hi := 256) hx hb dX7_extend_121 l6 h16 (by decide) (fun v57 ev57 lv57 uv57 => ?_)
                  refine lv_ior hx hb dX7_extend_122 ?_
                  refine lv_topi (fun v58 ev58 => ?_)
                  refine lv_iload hx hb dX7_extend_123 (lv_at hl 0 rfl) ?_
                  exact (ms_pc6 (rg_le a1l (by decide)) (rg_ge a1u (by decide)) h49 r19u ev50 ev51 c52 hpf).elim
            · have h59 : 3 ≤ r44.toInt := rg_le_lo (rg_nlt c45) (by decide : (3 : Int) ≤ (3 : Int32).toInt)
              refine lv_aload_n hx hb dX7_extend_67 rfl (lv_at hl 3 rfl) ?_
              refine lv_iload hx hb dX7_extend_68 (lv_at hl 7 rfl) ?_
              refine lv_iload hx hb dX7_extend_70 (lv_at hl 8 rfl) ?_
              refine lv_iconst (v := 1) hx hb dX7_extend_72 (by decide) ?_
              refine lv_iload hx hb dX7_extend_73 (lv_at hl 2 rfl) ?_
              refine rg_shl1 (lo := 1) (hi := 256) hx hb dX7_extend_75 l6 h16 (by decide) (fun v60 ev60 lv60 uv60 => ?_)
              refine lv_ior hx hb dX7_extend_76 ?_
              refine lv_topi (fun v61 ev61 => ?_)
              refine lv_iload hx hb dX7_extend_77 (lv_at hl 0 rfl) ?_
              refine ms_cVv (qc := (RX7, TX7, 4)) (wc := [(q0, .inr (7, [.int x8, .int x9, .int x10, .int s0_3]))]) (wr := [(q4, .inl (cA 0, 9, .inl f4)), (q5, .inl (cA 0, 9, .inl f5)), (q1, .inr (2, [.int s1_0, .int s1_1, .int s1_2, .int s1_3, .int s1_4, .ref q2, .ref q3, .ref q5, .ref q6, .ref q7, .ref q8, .ref q9, .ref q10])), (q2, .inl (cA 0, 9, .inl f2)), (q3, .inl (cA 0, 9, .inl f3))]) ⟨hx, hb, hml, hown, hts⟩ hE (kX7_compare_1 l D cA q0 x8 x9 x10 s0_3 a1 v61 v23 (rg_le s0_3l (by decide)) (rg_ge s0_3u (by decide)) (rg_le a1l (by decide)) (rg_ge a1u (by decide))) (cwV 3 hts gX7_extend_X7_compare rfl rfl rfl (by decide +kernel) ⟨Nat.le_of_ble_eq_true rfl, Nat.le_of_ble_eq_true rfl⟩) hP hD hS hA [0] [1, 2, 3, 4, 5] rfl rfl rfl rfl (by decide) 0 7 rfl rfl rfl hl.1 rfl (Nat.le_of_ble_eq_true rfl) dX7_extend_79 ⟨Nat.le_of_ble_eq_true rfl, Nat.le_of_ble_eq_true rfl⟩ (fun u62 H locs hp hP hD hS => ?_)
              have hP : va_P D vwCl [(q4, .inl (cA 0, 9, .inl f4)), (q5, .inl (cA 0, 9, .inl f5)), (q1, .inr (2, [.int s1_0, .int s1_1, .int s1_2, .int s1_3, .int s1_4, .ref q2, .ref q3, .ref q5, .ref q6, .ref q7, .ref q8, .ref q9, .ref q10])), (q2, .inl (cA 0, 9, .inl f2)), (q3, .inl (cA 0, 9, .inl f3)), (q0, .inr (7, [.int (u62.1 0), .int (u62.1 1), .int (u62.1 2), .int s0_3]))] H := hP
              have hD : va_D A [(q4, .inl (cA 0, 9, .inl f4)), (q5, .inl (cA 0, 9, .inl f5)), (q1, .inr (2, [.int s1_0, .int s1_1, .int s1_2, .int s1_3, .int s1_4, .ref q2, .ref q3, .ref q5, .ref q6, .ref q7, .ref q8, .ref q9, .ref q10])), (q2, .inl (cA 0, 9, .inl f2)), (q3, .inl (cA 0, 9, .inl f3)), (q0, .inr (7, [.int (u62.1 0), .int (u62.1 1), .int (u62.1 2), .int s0_3]))] := hD
              refine lv_goto (tgt := 128) hx hb dX7_extend_82 (by decide) ?_
              exact jn27 (u62.1 0) (u62.1 1) (u62.1 2) _ _ _   (hP.sub [5, 0, 1, 2, 3, 4] rfl) (hD.sub [5, 0, 1, 2, 3, 4] (by decide) rfl) hS (lv_sub hl [0, 1, 2, 3, 4, 5, 6, 7, 8, 9] rfl)
    exact lp11 10 0 s0_0 s0_1 s0_2 _ _ _ (rg_le (by decide : (0 : Int) ≤ (0 : Int32).toInt) (by decide)) (rg_ge (by decide : (0 : Int32).toInt ≤ 0) (by decide))  (rg_mi (by decide : (0 : Int) ≤ (0 : Int32).toInt) (by decide)) hP hD hS (lv_sub hl [0, 1, 2, 3, 4, 5, 6, 7] rfl)
  · have h64 : 7 ≤ r2.toInt := rg_lt_lo (rg_nle c3) (by decide : (6 : Int) ≤ (6 : Int32).toInt) (by decide)
    exact ms_vret hx hb hr hlk (fun i => [s0_0, s0_1, s0_2].getD i 0, fun i => [].getD i ms_z, fun i => [].getD i 0) trivial hP hD hS (Nat.le_of_ble_eq_true rfl) (Nat.le_of_ble_eq_true rfl) dX7_extend_10
set_option maxHeartbeats 4000000 in
set_option maxRecDepth 100000 in
theorem kX7_extend_2 (l : Launch) (D : va_G) (cA : Nat → ClassId) (q0 q1 q2 q3 q4 q5 q6 q7 q8 q9 q10 : Nat) (s0_0 : Int32) (s0_1 : Int32) (s0_2 : Int32) (s0_3 : Int32) (s1_0 : Int32) (s1_1 : Int32) (s1_2 : Int32) (s1_3 : Int32) (s1_4 : Int32) (f2 : Nat → Int32) (f3 : Nat → Int32) (f4 : Nat → Int32) (f5 : Nat → Int32) (a0 : Int32) (a1 : Int32) (a2 : Int32) (a3 : Int32) (s0_3l : 0 ≤ s0_3.toInt) (s0_3u : s0_3.toInt ≤ 5) (s1_0l : 0 ≤ s1_0.toInt) (s1_0u : s1_0.toInt ≤ 6) (s1_1l : 0 ≤ s1_1.toInt) (s1_1u : s1_1.toInt ≤ 4) (s1_2l : 0 ≤ s1_2.toInt) (s1_2u : s1_2.toInt ≤ 9) (s1_3l : 0 ≤ s1_3.toInt) (s1_3u : s1_3.toInt ≤ 9) (s1_4l : 0 ≤ s1_4.toInt) (s1_4u : s1_4.toInt ≤ 6) (f2_0 : rg_S f2 0 9 0 5) (f3_0 : rg_S f3 0 9 0 5) (f5_0 : rg_S f5 0 9 0 99) (a0l : 0 ≤ a0.toInt) (a0u : a0.toInt ≤ 5) (a1l : 0 ≤ a1.toInt) (a1u : a1.toInt ≤ 63) (hpf : ms_pc a1 = 5) : ms_Mv l yX7_extend wsX7_extend ({ frames := 2, cells := 0, slots := 0, locals := 53 } : Room) D cA [.ref q0, .ref q1, .ref q4, .int a0, .int a1, .int a2, .int a3] [(q0, .inr (7, [.int s0_0, .int s0_1, .int s0_2, .int s0_3])), (q1, .inr (2, [.int s1_0, .int s1_1, .int s1_2, .int s1_3, .int s1_4, .ref q2, .ref q3, .ref q5, .ref q6, .ref q7, .ref q8, .ref q9, .ref q10])), (q2, .inl (cA 0, 9, .inl f2)), (q3, .inl (cA 0, 9, .inl f3)), (q4, .inl (cA 0, 9, .inl f4)), (q5, .inl (cA 0, 9, .inl f5))] (fun (u : ((Nat → Int32) × (Nat → Nat → Int32) × (Nat → Int64))) => True) (fun (u : ((Nat → Int32) × (Nat → Nat → Int32) × (Nat → Int64))) => [(q0, .inr (7, [.int (u.1 0), .int (u.1 1), .int (u.1 2), .int s0_3])), (q1, .inr (2, [.int s1_0, .int s1_1, .int s1_2, .int s1_3, .int s1_4, .ref q2, .ref q3, .ref q5, .ref q6, .ref q7, .ref q8, .ref q9, .ref q10])), (q2, .inl (cA 0, 9, .inl f2)), (q3, .inl (cA 0, 9, .inl f3)), (q4, .inl (cA 0, 9, .inl f4)), (q5, .inl (cA 0, 9, .inl f5))]) := by
  refine ms_Mv_of (cc := cX7_extend) (maxL := 10) (ret := none) (by decide) rfl (Nat.le_of_ble_eq_true rfl) ?_
  intro p e s m args below meth c A ls hB hE hA hP hD hS hl
  obtain ⟨hx, hb, hr, hml, hown, hts, hlk, hnm⟩ := hB
  have hown : s.vm.findClass RX7 = some m.cls := hown
  have hnX2 : ∀ w ∈ u_ws RX2 TX2 13, w ∈ wsX7_extend := fun _ h => List.mem_cons_of_mem _ (List.mem_append_left _ (List.mem_append_right _ (h)))
  have hnX7 : ∀ w ∈ u_ws RX7 TX7 4, w ∈ wsX7_extend := fun _ h => List.mem_cons_of_mem _ (List.mem_append_right _ (h))
  have hl : lv_has ls 10 [(0, .ref q0), (1, .ref q1), (2, .ref q4), (3, .int a0), (4, .int a1), (5, .int a2), (6, .int a3)] := hl
  refine lv_iload hx hb dX7_extend_0 (lv_at hl 4 rfl) ?_
  refine ms_cSi (wc := []) (wr := [(q0, .inr (7, [.int s0_0, .int s0_1, .int s0_2, .int s0_3])), (q1, .inr (2, [.int s1_0, .int s1_1, .int s1_2, .int s1_3, .int s1_4, .ref q2, .ref q3, .ref q5, .ref q6, .ref q7, .ref q8, .ref q9, .ref q10])), (q2, .inl (cA 0, 9, .inl f2)), (q3, .inl (cA 0, 9, .inl f3)), (q4, .inl (cA 0, 9, .inl f4)), (q5, .inl (cA 0, 9, .inl f5))]) ⟨hx, hb, hml, hown, hts⟩ hE (kJ6_bitCount_0f7a4_1 l D cA a1) (va_cwS 1 hts gX7_extend_J6_bitCount_0f7a4 rfl rfl rfl (by decide +kernel) ⟨Nat.le_of_ble_eq_true rfl, Nat.le_of_ble_eq_true rfl⟩) hP hD hS hA [] [0, 1, 2, 3, 4, 5] rfl rfl rfl rfl (by decide) rfl hl.1 rfl (Nat.le_of_ble_eq_true rfl) dX7_extend_2 ⟨Nat.le_of_ble_eq_true rfl, Nat.le_of_ble_eq_true rfl⟩ (fun r2 u1 H locs hp hP hD hS => ?_)
  obtain ⟨⟨r2l, r2u⟩, exu1, -⟩ := hp
  have hP : va_P D vwCl [(q0, .inr (7, [.int s0_0, .int s0_1, .int s0_2, .int s0_3])), (q1, .inr (2, [.int s1_0, .int s1_1, .int s1_2, .int s1_3, .int s1_4, .ref q2, .ref q3, .ref q5, .ref q6, .ref q7, .ref q8, .ref q9, .ref q10])), (q2, .inl (cA 0, 9, .inl f2)), (q3, .inl (cA 0, 9, .inl f3)), (q4, .inl (cA 0, 9, .inl f4)), (q5, .inl (cA 0, 9, .inl f5))] H := hP
  have hD : va_D A [(q0, .inr (7, [.int s0_0, .int s0_1, .int s0_2, .int s0_3])), (q1, .inr (2, [.int s1_0, .int s1_1, .int s1_2, .int s1_3, .int s1_4, .ref q2, .ref q3, .ref q5, .ref q6, .ref q7, .ref q8, .ref q9, .ref q10])), (q2, .inl (cA 0, 9, .inl f2)), (q3, .inl (cA 0, 9, .inl f3)), (q4, .inl (cA 0, 9, .inl f4)), (q5, .inl (cA 0, 9, .inl f5))] := hD
  refine lv_bipush (v := 6) hx hb dX7_extend_5 (by decide) ?_
  refine lv_icmp_le (tgt := 11) hx hb dX7_extend_7 (by decide) (fun c3 => ?_) (fun c3 => ?_)
  · have h4 : r2.toInt ≤ 6 := rg_le_hi c3 (by decide : (6 : Int32).toInt ≤ 6)
    refine lv_iconst (v := 0) hx hb dX7_extend_11 (by decide) ?_
    refine lv_istore (lv' := [(7, .int 0), (0, .ref q0), (1, .ref q1), (2, .ref q4), (3, .int a0), (4, .int a1), (5, .int a2), (6, .int a3)]) hx hb dX7_extend_12 hl (by decide) rfl (fun ls hl => ?_)
    have lp11 : ∀ (n12 : Nat) (x5 : Int32) (x8 : Int32) (x9 : Int32) (x10 : Int32) (H : Heap) (locs : List Loc) (ls : Array Slot), 0 ≤ x5.toInt → x5.toInt ≤ 9 → 9 + 1 ≤ x5.toInt + (n12 : Int) → va_P D vwCl [(q0, .inr (7, [.int x8, .int x9, .int x10, .int s0_3])), (q1, .inr (2, [.int s1_0, .int s1_1, .int s1_2, .int s1_3, .int s1_4, .ref q2, .ref q3, .ref q5, .ref q6, .ref q7, .ref q8, .ref q9, .ref q10])), (q2, .inl (cA 0, 9, .inl f2)), (q3, .inl (cA 0, 9, .inl f3)), (q4, .inl (cA 0, 9, .inl f4)), (q5, .inl (cA 0, 9, .inl f5))] H → va_D A [(q0, .inr (7, [.int x8, .int x9, .int x10, .int s0_3])), (q1, .inr (2, [.int s1_0, .int s1_1, .int s1_2, .int s1_3, .int s1_4, .ref q2, .ref q3, .ref q5, .ref q6, .ref q7, .ref q8, .ref q9, .ref q10])), (q2, .inl (cA 0, 9, .inl f2)), (q3, .inl (cA 0, 9, .inl f3)), (q4, .inl (cA 0, 9, .inl f4)), (q5, .inl (cA 0, 9, .inl f5))] → va_S A s.heap H locs → lv_has ls 10 [(7, .int x5), (0, .ref q0), (1, .ref q1), (2, .ref q4), (3, .int a0), (4, .int a1), (5, .int a2), (6, .int a3)] → W p l e ({ frames := 2, cells := 0, slots := 0, locals := 53 } : Room) s m args below meth c H locs 0 0 (MQ below (ms_Qv D A (fun (u : ((Nat → Int32) × (Nat → Nat → Int32) × (Nat → Int64))) => True) (fun (u : ((Nat → Int32) × (Nat → Nat → Int32) × (Nat → Int64))) => [(q0, .inr (7, [.int (u.1 0), .int (u.1 1), .int (u.1 2), .int s0_3])), (q1, .inr (2, [.int s1_0, .int s1_1, .int s1_2, .int s1_3, .int s1_4, .ref q2, .ref q3, .ref q5, .ref q6, .ref q7, .ref q8, .ref q9, .ref q10])), (q2, .inl (cA 0, 9, .inl f2)), (q3, .inl (cA 0, 9, .inl f3)), (q4, .inl (cA 0, 9, .inl f4)), (q5, .inl (cA 0, 9, .inl f5))])) args s 0 0 A) (F0 m 14 ls []) := by
      intro n12
      induction n12 with
      | zero => intro x5 x8 x9 x10 H locs ls l6 u7  hm14; exact (rg_m0 hm14 u7).elim
      | succ n12 ih13 =>
        intro x5 x8 x9 x10 H locs ls l6 u7  hm14 hP hD hS hl
        refine lv_iload hx hb dX7_extend_14 (lv_at hl 0 rfl) ?_
        refine lv_aload_n hx hb dX7_extend_16 rfl (lv_at hl 2 rfl) ?_
        refine va_get (D := D) (ci := 2) (v := .int s1_3) (C := RX2) (T := TX2) (N := 13) hx hb hts hnX2 hown hE.1 hP 1 rfl rfl 3 (by decide) (hts (.fieldLink RX7 39 "MovedStones$Land" "roads" "I") (List.mem_cons_of_mem _ (List.mem_append_left _ (List.mem_append_left _ (List.mem_append_left _ (List.mem_of_getElem? (i := 0) rfl)))))) (fun _ h9 => h9) rfl dX7_extend_17 ?_
        refine lv_icmp_ge (tgt := 134) hx hb dX7_extend_20 (by decide) (fun c15 => ?_) (fun c15 => ?_)
        · exact ms_vret hx hb hr hlk (fun i => [x8, x9, x10].getD i 0, fun i => [].getD i ms_z, fun i => [].getD i 0) trivial hP hD hS (Nat.le_of_ble_eq_true rfl) (Nat.le_of_ble_eq_true rfl) dX7_extend_134
        · have h16 : x5.toInt ≤ 8 := rg_lt_hi (rg_nle c15) s1_3u (by decide)
          have h17 : 1 ≤ s1_3.toInt := rg_lt_lo (rg_nle c15) l6 (by decide)
          refine lv_aload_n hx hb dX7_extend_23 rfl (lv_at hl 2 rfl) ?_
          refine lv_iload hx hb dX7_extend_24 (lv_at hl 0 rfl) ?_
          refine lv_iload_n hx hb dX7_extend_26 rfl (lv_at hl 4 rfl) ?_
          refine ms_cVi (qc := (RX2, TX2, 13)) (wc := [(q1, .inr (2, [.int s1_0, .int s1_1, .int s1_2, .int s1_3, .int s1_4, .ref q2, .ref q3, .ref q5, .ref q6, .ref q7, .ref q8, .ref q9, .ref q10])), (q2, .inl (cA 0, 9, .inl f2)), (q3, .inl (cA 0, 9, .inl f3))]) (wr := [(q0, .inr (7, [.int x8, .int x9, .int x10, .int s0_3])), (q4, .inl (cA 0, 9, .inl f4)), (q5, .inl (cA 0, 9, .inl f5))]) ⟨hx, hb, hml, hown, hts⟩ hE (kX2_otherEnd_1 l D cA q1 q2 q3 q5 q6 q7 q8 q9 q10 s1_0 s1_1 s1_2 s1_3 s1_4 f2 f3 x5 a0 (rg_le s1_0l (by decide)) (rg_ge s1_0u (by decide)) (rg_le s1_1l (by decide)) (rg_ge s1_1u (by decide)) (rg_le s1_2l (by decide)) (rg_ge s1_2u (by decide)) (rg_le h17 (by decide)) (rg_ge s1_3u (by decide)) (rg_le s1_4l (by decide)) (rg_ge s1_4u (by decide)) (rg_Smono f2_0 (by decide) (by decide) (by decide) (by decide)) (rg_Smono f3_0 (by decide) (by decide) (by decide) (by decide)) (rg_le l6 (by decide)) (rg_ge h16 (by decide))) (cwV 2 hts gX7_extend_X2_otherEnd rfl rfl rfl (by decide +kernel) ⟨Nat.le_of_ble_eq_true rfl, Nat.le_of_ble_eq_true rfl⟩) hP hD hS hA [1, 2, 3] [0, 4, 5] rfl rfl rfl rfl (by decide) 0 2 rfl rfl rfl hl.1 rfl (Nat.le_of_ble_eq_true rfl) dX7_extend_27 ⟨Nat.le_of_ble_eq_true rfl, Nat.le_of_ble_eq_true rfl⟩ (fun r19 u18 H locs hp hP hD hS => ?_)
          obtain ⟨⟨r19l, r19u⟩, exu18, -⟩ := hp
          have hP : va_P D vwCl [(q0, .inr (7, [.int x8, .int x9, .int x10, .int s0_3])), (q4, .inl (cA 0, 9, .inl f4)), (q5, .inl (cA 0, 9, .inl f5)), (q1, .inr (2, [.int s1_0, .int s1_1, .int s1_2, .int s1_3, .int s1_4, .ref q2, .ref q3, .ref q5, .ref q6, .ref q7, .ref q8, .ref q9, .ref q10])), (q2, .inl (cA 0, 9, .inl f2)), (q3, .inl (cA 0, 9, .inl f3))] H := hP
          have hD : va_D A [(q0, .inr (7, [.int x8, .int x9, .int x10, .int s0_3])), (q4, .inl (cA 0, 9, .inl f4)), (q5, .inl (cA 0, 9, .inl f5)), (q1, .inr (2, [.int s1_0, .int s1_1, .int s1_2, .int s1_3, .int s1_4, .ref q2, .ref q3, .ref q5, .ref q6, .ref q7, .ref q8, .ref q9, .ref q10])), (q2, .inl (cA 0, 9, .inl f2)), (q3, .inl (cA 0, 9, .inl f3))] := hD
          refine lv_istore (lv' := [(8, .int r19), (7, .int x5), (0, .ref q0), (1, .ref q1), (2, .ref q4), (3, .int a0), (4, .int a1), (5, .int a2), (6, .int a3)]) hx hb dX7_extend_30 hl (by decide) rfl (fun ls hl => ?_)
          refine lv_iload hx hb dX7_extend_32 (lv_at hl 8 rfl) ?_
          refine lv_aload_n hx hb dX7_extend_34 rfl (lv_at hl 4 rfl) ?_
          refine lv_iload hx hb dX7_extend_35 (lv_at hl 1 rfl) ?_
          refine rg_iald0 hx hb hE hP (q0 := 1) rfl l6 h16 (by decide) dX7_extend_37 (fun v20 ev20 => ?_)
          refine lv_iadd hx hb dX7_extend_38 ?_
          refine lv_topi (fun v21 ev21 => ?_)
          refine lv_aload_n hx hb dX7_extend_39 rfl (lv_at hl 3 rfl) ?_
          refine va_get (D := D) (ci := 2) (v := .ref q5) (C := RX2) (T := TX2) (N := 13) hx hb hts hnX2 hown hE.1 hP 3 rfl rfl 7 (by decide) (hts (.fieldLink RX7 46 "MovedStones$Land" "feet" "[I") (List.mem_cons_of_mem _ (List.mem_append_left _ (List.mem_append_left _ (List.mem_append_left _ (List.mem_of_getElem? (i := 1) rfl)))))) (fun _ h9 => h9) rfl dX7_extend_40 ?_
          refine lv_iload hx hb dX7_extend_43 (lv_at hl 1 rfl) ?_
          refine rg_iald hx hb hE hP (q0 := 2) rfl l6 h16 f5_0 (by decide) dX7_extend_45 (fun v22 ev22 lv22 uv22 => ?_)
          refine lv_isub hx hb dX7_extend_46 ?_
          refine lv_topi (fun v23 ev23 => ?_)
          refine lv_istore (lv' := [(9, .int v23), (8, .int r19), (7, .int x5), (0, .ref q0), (1, .ref q1), (2, .ref q4), (3, .int a0), (4, .int a1), (5, .int a2), (6, .int a3)]) hx hb dX7_extend_47 hl (by decide) rfl (fun ls hl => ?_)
          refine lv_iload hx hb dX7_extend_49 (lv_at hl 1 rfl) ?_
          refine lv_aload_n hx hb dX7_extend_51 rfl (lv_at hl 3 rfl) ?_
          refine va_get (D := D) (ci := 7) (v := .int s0_3) (C := RX7) (T := TX7) (N := 4) hx hb hts hnX7 hown hE.1 hP 0 rfl rfl 3 (by decide) (hts (.fieldLink RX7 26 "MovedStones$Rounds" "start" "I") (List.mem_cons_of_mem _ (List.mem_append_left _ (List.mem_append_left _ (List.mem_append_left _ (List.mem_of_getElem? (i := 2) rfl)))))) (fun _ h9 => h9) rfl dX7_extend_52 ?_
          have jn27 : ∀ (x24 : Int32) (x25 : Int32) (x26 : Int32) (H : Heap) (locs : List Loc) (ls : Array Slot), va_P D vwCl [(q0, .inr (7, [.int x24, .int x25, .int x26, .int s0_3])), (q4, .inl (cA 0, 9, .inl f4)), (q5, .inl (cA 0, 9, .inl f5)), (q1, .inr (2, [.int s1_0, .int s1_1, .int s1_2, .int s1_3, .int s1_4, .ref q2, .ref q3, .ref q5, .ref q6, .ref q7, .ref q8, .ref q9, .ref q10])), (q2, .inl (cA 0, 9, .inl f2)), (q3, .inl (cA 0, 9, .inl f3))] H → va_D A [(q0, .inr (7, [.int x24, .int x25, .int x26, .int s0_3])), (q4, .inl (cA 0, 9, .inl f4)), (q5, .inl (cA 0, 9, .inl f5)), (q1, .inr (2, [.int s1_0, .int s1_1, .int s1_2, .int s1_3, .int s1_4, .ref q2, .ref q3, .ref q5, .ref q6, .ref q7, .ref q8, .ref q9, .ref q10])), (q2, .inl (cA 0, 9, .inl f2)), (q3, .inl (cA 0, 9, .inl f3))] → va_S A s.heap H locs → lv_has ls 10 [(9, .int v23), (8, .int r19), (7, .int x5), (0, .ref q0), (1, .ref q1), (2, .ref q4), (3, .int a0), (4, .int a1), (5, .int a2), (6, .int a3)] → W p l e ({ frames := 2, cells := 0, slots := 0, locals := 53 } : Room) s m args below meth c H locs 0 0 (MQ below (ms_Qv D A (fun (u : ((Nat → Int32) × (Nat → Nat → Int32) × (Nat → Int64))) => True) (fun (u : ((Nat → Int32) × (Nat → Nat → Int32) × (Nat → Int64))) => [(q0, .inr (7, [.int (u.1 0), .int (u.1 1), .int (u.1 2), .int s0_3])), (q1, .inr (2, [.int s1_0, .int s1_1, .int s1_2, .int s1_3, .int s1_4, .ref q2, .ref q3, .ref q5, .ref q6, .ref q7, .ref q8, .ref q9, .ref q10])), (q2, .inl (cA 0, 9, .inl f2)), (q3, .inl (cA 0, 9, .inl f3)), (q4, .inl (cA 0, 9, .inl f4)), (q5, .inl (cA 0, 9, .inl f5))])) args s 0 0 A) (F0 m 128 ls []) := by
            intro x24 x25 x26 H locs ls   hP hD hS hl
            refine rg_iinc (lo := 1) (hi := 9) (fun z => [(7, .int z), (9, .int v23), (8, .int r19), (0, .ref q0), (1, .ref q1), (2, .ref q4), (3, .int a0), (4, .int a1), (5, .int a2), (6, .int a3)]) hx hb dX7_extend_128 hl (k := 2) rfl (by decide) l6 h16 (by decide) (fun _ => rfl) (fun v28 ev28 lv28 uv28 ls hl => ?_)
            have hl : lv_has ls 10 [(7, .int v28), (9, .int v23), (8, .int r19), (0, .ref q0), (1, .ref q1), (2, .ref q4), (3, .int a0), (4, .int a1), (5, .int a2), (6, .int a3)] := hl
            refine lv_goto (tgt := 14) hx hb dX7_extend_131 (by decide) ?_
            exact ih13 v28 x24 x25 x26 _ _ _ (rg_le lv28 (by decide)) (rg_ge uv28 (by decide))  (rg_ms hm14 ev28 (by decide)) (hP.sub [0, 3, 4, 5, 1, 2] rfl) (hD.sub [0, 3, 4, 5, 1, 2] (by decide) rfl) hS (lv_sub hl [0, 3, 4, 5, 6, 7, 8, 9] rfl)
          refine lv_icmp_ne (tgt := 85) hx hb dX7_extend_55 (by decide) (fun c29 => ?_) (fun c29 => ?_)
          · refine lv_iload hx hb dX7_extend_85 (lv_at hl 1 rfl) ?_
            refine lv_aload_n hx hb dX7_extend_87 rfl (lv_at hl 3 rfl) ?_
            refine va_get (D := D) (ci := 7) (v := .int s0_3) (C := RX7) (T := TX7) (N := 4) hx hb hts hnX7 hown hE.1 hP 0 rfl rfl 3 (by decide) (hts (.fieldLink RX7 26 "MovedStones$Rounds" "start" "I") (List.mem_cons_of_mem _ (List.mem_append_left _ (List.mem_append_left _ (List.mem_append_left _ (List.mem_of_getElem? (i := 2) rfl)))))) (fun _ h9 => h9) rfl dX7_extend_88 ?_
            refine lv_icmp_le (tgt := 128) hx hb dX7_extend_91 (by decide) (fun c30 => ?_) (fun c30 => ?_)
            · exact jn27 x8 x9 x10 _ _ _   hP hD hS (lv_sub hl [0, 1, 2, 3, 4, 5, 6, 7, 8, 9] rfl)
            · have h31 : s0_3.toInt ≤ 4 := rg_lt_hi (rg_nle c30) r19u (by decide)
              have h32 : 1 ≤ r19.toInt := rg_lt_lo (rg_nle c30) s0_3l (by decide)
              refine lv_iload hx hb dX7_extend_94 (lv_at hl 7 rfl) ?_
              refine lv_iload hx hb dX7_extend_96 (lv_at hl 1 rfl) ?_
              refine lv_ishr hx hb dX7_extend_98 ?_
              refine lv_topi (fun v33 ev33 => ?_)
              refine lv_iconst (v := 1) hx hb dX7_extend_99 (by decide) ?_
              refine rg_iand1 hx hb dX7_extend_100 (fun v34 ev34 lv34 uv34 => ?_)
              refine lv_if_ne (tgt := 128) hx hb dX7_extend_101 (by decide) (fun c35 => ?_) (fun c35 => ?_)
              · have h36 : 1 ≤ v34.toInt := rg_ne_lo c35 lv34 (by decide : (0 : Int) ≤ (0 : Int32).toInt) (by decide : (0 : Int32).toInt ≤ 0) (by decide)
                exact jn27 x8 x9 x10 _ _ _   hP hD hS (lv_sub hl [0, 1, 2, 3, 4, 5, 6, 7, 8, 9] rfl)
              · have h37 : v34.toInt ≤ 0 := rg_eq_hi c35 (by decide : (0 : Int32).toInt ≤ 0)
                refine lv_aload_n hx hb dX7_extend_104 rfl (lv_at hl 3 rfl) ?_
                refine lv_aload_n hx hb dX7_extend_105 rfl (lv_at hl 4 rfl) ?_
                refine lv_aload_n hx hb dX7_extend_106 rfl (lv_at hl 5 rfl) ?_
                refine lv_iload hx hb dX7_extend_107 (lv_at hl 1 rfl) ?_
                refine lv_iload hx hb dX7_extend_109 (lv_at hl 7 rfl) ?_
                refine lv_iconst (v := 1) hx hb dX7_extend_111 (by decide) ?_
                refine lv_iload hx hb dX7_extend_112 (lv_at hl 1 rfl) ?_
                refine rg_shl1 (lo := 2) (hi := 32) hx hb dX7_extend_114 h32 r19u (by decide) (fun v38 ev38 lv38 uv38 => ?_)
                refine rg_ior (k := 6) (hi := 63) hx hb dX7_extend_115 a1l a1u lv38 uv38 (by decide) (fun v39 ev39 lv39 uv39 => ?_)
                refine lv_iload hx hb dX7_extend_116 (lv_at hl 8 rfl) ?_
                refine lv_iconst (v := 1) hx hb dX7_extend_118 (by decide) ?_
                refine lv_iload hx hb dX7_extend_119 (lv_at hl 2 rfl) ?_
                refine rg_shl1 (lo := 1) (hi := 256) hx hb dX7_extend_121 l6 h16 (by decide) (fun v40 ev40 lv40 uv40 => ?_)
                refine lv_ior hx hb dX7_extend_122 ?_
                refine lv_topi (fun v41 ev41 => ?_)
                refine lv_iload hx hb dX7_extend_123 (lv_at hl 0 rfl) ?_
                refine ms_cVv (qc := (RX7, TX7, 4)) (wc := [(q0, .inr (7, [.int x8, .int x9, .int x10, .int s0_3])), (q1, .inr (2, [.int s1_0, .int s1_1, .int s1_2, .int s1_3, .int s1_4, .ref q2, .ref q3, .ref q5, .ref q6, .ref q7, .ref q8, .ref q9, .ref q10])), (q2, .inl (cA 0, 9, .inl f2)), (q3, .inl (cA 0, 9, .inl f3)), (q4, .inl (cA 0, 9, .inl f4)), (q5, .inl (cA 0, 9, .inl f5))]) (wr := []) ⟨hx, hb, hml, hown, hts⟩ hE (kX7_extend_1 l D cA q0 q1 q2 q3 q4 q5 q6 q7 q8 q9 q10 x8 x9 x10 s0_3 s1_0 s1_1 s1_2 s1_3 s1_4 f2 f3 f4 f5 r19 v39 v41 v23 (rg_le s0_3l (by decide)) (rg_ge h31 (by decide)) (rg_le s1_0l (by decide)) (rg_ge s1_0u (by decide)) (rg_le s1_1l (by decide)) (rg_ge s1_1u (by decide)) (rg_le s1_2l (by decide)) (rg_ge s1_2u (by decide)) (rg_le h17 (by decide)) (rg_ge s1_3u (by decide)) (rg_le s1_4l (by decide)) (rg_ge s1_4u (by decide)) (rg_Smono f2_0 (by decide) (by decide) (by decide) (by decide)) (rg_Smono f3_0 (by decide) (by decide) (by decide) (by decide)) (rg_Smono f5_0 (by decide) (by decide) (by decide) (by decide)) (rg_le h32 (by decide)) (rg_ge r19u (by decide)) (rg_le lv39 (by decide)) (rg_ge uv39 (by decide)) (ms_pcU (rg_le a1l (by decide)) (rg_ge a1u (by decide)) h32 r19u ev33 ev34 c35 ev38 ev39 hpf)) (cwV 6 hts gX7_extend_X7_extend rfl rfl rfl (by decide +kernel) ⟨Nat.le_of_ble_eq_true rfl, Nat.le_of_ble_eq_true rfl⟩) hP hD hS hA [0, 3, 4, 5, 1, 2] [] rfl rfl rfl rfl (by decide) 0 7 rfl rfl rfl hl.1 rfl (Nat.le_of_ble_eq_true rfl) dX7_extend_125 ⟨Nat.le_of_ble_eq_true rfl, Nat.le_of_ble_eq_true rfl⟩ (fun u42 H locs hp hP hD hS => ?_)
                have hP : va_P D vwCl [(q0, .inr (7, [.int (u42.1 0), .int (u42.1 1), .int (u42.1 2), .int s0_3])), (q1, .inr (2, [.int s1_0, .int s1_1, .int s1_2, .int s1_3, .int s1_4, .ref q2, .ref q3, .ref q5, .ref q6, .ref q7, .ref q8, .ref q9, .ref q10])), (q2, .inl (cA 0, 9, .inl f2)), (q3, .inl (cA 0, 9, .inl f3)), (q4, .inl (cA 0, 9, .inl f4)), (q5, .inl (cA 0, 9, .inl f5))] H := hP
                have hD : va_D A [(q0, .inr (7, [.int (u42.1 0), .int (u42.1 1), .int (u42.1 2), .int s0_3])), (q1, .inr (2, [.int s1_0, .int s1_1, .int s1_2, .int s1_3, .int s1_4, .ref q2, .ref q3, .ref q5, .ref q6, .ref q7, .ref q8, .ref q9, .ref q10])), (q2, .inl (cA 0, 9, .inl f2)), (q3, .inl (cA 0, 9, .inl f3)), (q4, .inl (cA 0, 9, .inl f4)), (q5, .inl (cA 0, 9, .inl f5))] := hD
                exact jn27 (u42.1 0) (u42.1 1) (u42.1 2) _ _ _   (hP.sub [0, 4, 5, 1, 2, 3] rfl) (hD.sub [0, 4, 5, 1, 2, 3] (by decide) rfl) hS (lv_sub hl [0, 1, 2, 3, 4, 5, 6, 7, 8, 9] rfl)
          · have h44 : 0 ≤ r19.toInt := rg_eq_lo c29 s0_3l
            refine lv_iload hx hb dX7_extend_58 (lv_at hl 7 rfl) ?_
            refine ms_cSi (wc := []) (wr := [(q0, .inr (7, [.int x8, .int x9, .int x10, .int s0_3])), (q4, .inl (cA 0, 9, .inl f4)), (q5, .inl (cA 0, 9, .inl f5)), (q1, .inr (2, [.int s1_0, .int s1_1, .int s1_2, .int s1_3, .int s1_4, .ref q2, .ref q3, .ref q5, .ref q6, .ref q7, .ref q8, .ref q9, .ref q10])), (q2, .inl (cA 0, 9, .inl f2)), (q3, .inl (cA 0, 9, .inl f3))]) ⟨hx, hb, hml, hown, hts⟩ hE (kJ6_bitCount_0f7a4_1 l D cA a1) (va_cwS 1 hts gX7_extend_J6_bitCount_0f7a4 rfl rfl rfl (by decide +kernel) ⟨Nat.le_of_ble_eq_true rfl, Nat.le_of_ble_eq_true rfl⟩) hP hD hS hA [] [0, 1, 2, 3, 4, 5] rfl rfl rfl rfl (by decide) rfl hl.1 rfl (Nat.le_of_ble_eq_true rfl) dX7_extend_60 ⟨Nat.le_of_ble_eq_true rfl, Nat.le_of_ble_eq_true rfl⟩ (fun r46 u45 H locs hp hP hD hS => ?_)
            obtain ⟨⟨r46l, r46u⟩, exu45, -⟩ := hp
            have hP : va_P D vwCl [(q0, .inr (7, [.int x8, .int x9, .int x10, .int s0_3])), (q4, .inl (cA 0, 9, .inl f4)), (q5, .inl (cA 0, 9, .inl f5)), (q1, .inr (2, [.int s1_0, .int s1_1, .int s1_2, .int s1_3, .int s1_4, .ref q2, .ref q3, .ref q5, .ref q6, .ref q7, .ref q8, .ref q9, .ref q10])), (q2, .inl (cA 0, 9, .inl f2)), (q3, .inl (cA 0, 9, .inl f3))] H := hP
            have hD : va_D A [(q0, .inr (7, [.int x8, .int x9, .int x10, .int s0_3])), (q4, .inl (cA 0, 9, .inl f4)), (q5, .inl (cA 0, 9, .inl f5)), (q1, .inr (2, [.int s1_0, .int s1_1, .int s1_2, .int s1_3, .int s1_4, .ref q2, .ref q3, .ref q5, .ref q6, .ref q7, .ref q8, .ref q9, .ref q10])), (q2, .inl (cA 0, 9, .inl f2)), (q3, .inl (cA 0, 9, .inl f3))] := hD
            refine lv_iconst (v := 3) hx hb dX7_extend_63 (by decide) ?_
            refine lv_icmp_lt (tgt := 85) hx hb dX7_extend_64 (by decide) (fun c47 => ?_) (fun c47 => ?_)
            · have h48 : r46.toInt ≤ 2 := rg_lt_hi c47 (by decide : (3 : Int32).toInt ≤ 3) (by decide)
              refine lv_iload hx hb dX7_extend_85 (lv_at hl 1 rfl) ?_
              refine lv_aload_n hx hb dX7_extend_87 rfl (lv_at hl 3 rfl) ?_
              refine va_get (D := D) (ci := 7) (v := .int s0_3) (C := RX7) (T := TX7) (N := 4) hx hb hts hnX7 hown hE.1 hP 0 rfl rfl 3 (by decide) (hts (.fieldLink RX7 26 "MovedStones$Rounds" "start" "I") (List.mem_cons_of_mem _ (List.mem_append_left _ (List.mem_append_left _ (List.mem_append_left _ (List.mem_of_getElem? (i := 2) rfl)))))) (fun _ h9 => h9) rfl dX7_extend_88 ?_
              refine lv_icmp_le (tgt := 128) hx hb dX7_extend_91 (by decide) (fun c49 => ?_) (fun c49 => ?_)
              · exact jn27 x8 x9 x10 _ _ _   hP hD hS (lv_sub hl [0, 1, 2, 3, 4, 5, 6, 7, 8, 9] rfl)
              · have h50 : s0_3.toInt ≤ 4 := rg_lt_hi (rg_nle c49) r19u (by decide)
                have h51 : 1 ≤ r19.toInt := rg_lt_lo (rg_nle c49) s0_3l (by decide)
                refine lv_iload hx hb dX7_extend_94 (lv_at hl 7 rfl) ?_
                refine lv_iload hx hb dX7_extend_96 (lv_at hl 1 rfl) ?_
                refine lv_ishr hx hb dX7_extend_98 ?_
                refine lv_topi (fun v52 ev52 => ?_)
                refine lv_iconst (v := 1) hx hb dX7_extend_99 (by decide) ?_
                refine rg_iand1 hx hb dX7_extend_100 (fun v53 ev53 lv53 uv53 => ?_)
                refine lv_if_ne (tgt := 128) hx hb dX7_extend_101 (by decide) (fun c54 => ?_) (fun c54 => ?_)
                · have h55 : 1 ≤ v53.toInt := rg_ne_lo c54 lv53 (by decide : (0 : Int) ≤ (0 : Int32).toInt) (by decide : (0 : Int32).toInt ≤ 0) (by decide)
                  exact jn27 x8 x9 x10 _ _ _   hP hD hS (lv_sub hl [0, 1, 2, 3, 4, 5, 6, 7, 8, 9] rfl)
                · have h56 : v53.toInt ≤ 0 := rg_eq_hi c54 (by decide : (0 : Int32).toInt ≤ 0)
                  refine lv_aload_n hx hb dX7_extend_104 rfl (lv_at hl 3 rfl) ?_
                  refine lv_aload_n hx hb dX7_extend_105 rfl (lv_at hl 4 rfl) ?_
                  refine lv_aload_n hx hb dX7_extend_106 rfl (lv_at hl 5 rfl) ?_
                  refine lv_iload hx hb dX7_extend_107 (lv_at hl 1 rfl) ?_
                  refine lv_iload hx hb dX7_extend_109 (lv_at hl 7 rfl) ?_
                  refine lv_iconst (v := 1) hx hb dX7_extend_111 (by decide) ?_
                  refine lv_iload hx hb dX7_extend_112 (lv_at hl 1 rfl) ?_
                  refine rg_shl1 (lo := 2) (hi := 32) hx hb dX7_extend_114 h51 r19u (by decide) (fun v57 ev57 lv57 uv57 => ?_)
                  refine rg_ior (k := 6) (hi := 63) hx hb dX7_extend_115 a1l a1u lv57 uv57 (by decide) (fun v58 ev58 lv58 uv58 => ?_)
                  refine lv_iload hx hb dX7_extend_116 (lv_at hl 8 rfl) ?_
                  refine lv_iconst (v := 1) hx hb dX7_extend_118 (by decide) ?_
                  refine lv_iload hx hb dX7_extend_119 (lv_at hl 2 rfl) ?_
                  refine rg_shl1 (lo := 1) (hi := 256) hx hb dX7_extend_121 l6 h16 (by decide) (fun v59 ev59 lv59 uv59 => ?_)
                  refine lv_ior hx hb dX7_extend_122 ?_
                  refine lv_topi (fun v60 ev60 => ?_)
                  refine lv_iload hx hb dX7_extend_123 (lv_at hl 0 rfl) ?_
                  refine ms_cVv (qc := (RX7, TX7, 4)) (wc := [(q0, .inr (7, [.int x8, .int x9, .int x10, .int s0_3])), (q1, .inr (2, [.int s1_0, .int s1_1, .int s1_2, .int s1_3, .int s1_4, .ref q2, .ref q3, .ref q5, .ref q6, .ref q7, .ref q8, .ref q9, .ref q10])), (q2, .inl (cA 0, 9, .inl f2)), (q3, .inl (cA 0, 9, .inl f3)), (q4, .inl (cA 0, 9, .inl f4)), (q5, .inl (cA 0, 9, .inl f5))]) (wr := []) ⟨hx, hb, hml, hown, hts⟩ hE (kX7_extend_1 l D cA q0 q1 q2 q3 q4 q5 q6 q7 q8 q9 q10 x8 x9 x10 s0_3 s1_0 s1_1 s1_2 s1_3 s1_4 f2 f3 f4 f5 r19 v58 v60 v23 (rg_le s0_3l (by decide)) (rg_ge h50 (by decide)) (rg_le s1_0l (by decide)) (rg_ge s1_0u (by decide)) (rg_le s1_1l (by decide)) (rg_ge s1_1u (by decide)) (rg_le s1_2l (by decide)) (rg_ge s1_2u (by decide)) (rg_le h17 (by decide)) (rg_ge s1_3u (by decide)) (rg_le s1_4l (by decide)) (rg_ge s1_4u (by decide)) (rg_Smono f2_0 (by decide) (by decide) (by decide) (by decide)) (rg_Smono f3_0 (by decide) (by decide) (by decide) (by decide)) (rg_Smono f5_0 (by decide) (by decide) (by decide) (by decide)) (rg_le h51 (by decide)) (rg_ge r19u (by decide)) (rg_le lv58 (by decide)) (rg_ge uv58 (by decide)) (ms_pcU (rg_le a1l (by decide)) (rg_ge a1u (by decide)) h51 r19u ev52 ev53 c54 ev57 ev58 hpf)) (cwV 6 hts gX7_extend_X7_extend rfl rfl rfl (by decide +kernel) ⟨Nat.le_of_ble_eq_true rfl, Nat.le_of_ble_eq_true rfl⟩) hP hD hS hA [0, 3, 4, 5, 1, 2] [] rfl rfl rfl rfl (by decide) 0 7 rfl rfl rfl hl.1 rfl (Nat.le_of_ble_eq_true rfl) dX7_extend_125 ⟨Nat.le_of_ble_eq_true rfl, Nat.le_of_ble_eq_true rfl⟩ (fun u61 H locs hp hP hD hS => ?_)
                  have hP : va_P D vwCl [(q0, .inr (7, [.int (u61.1 0), .int (u61.1 1), .int (u61.1 2), .int s0_3])), (q1, .inr (2, [.int s1_0, .int s1_1, .int s1_2, .int s1_3, .int s1_4, .ref q2, .ref q3, .ref q5, .ref q6, .ref q7, .ref q8, .ref q9, .ref q10])), (q2, .inl (cA 0, 9, .inl f2)), (q3, .inl (cA 0, 9, .inl f3)), (q4, .inl (cA 0, 9, .inl f4)), (q5, .inl (cA 0, 9, .inl f5))] H := hP
                  have hD : va_D A [(q0, .inr (7, [.int (u61.1 0), .int (u61.1 1), .int (u61.1 2), .int s0_3])), (q1, .inr (2, [.int s1_0, .int s1_1, .int s1_2, .int s1_3, .int s1_4, .ref q2, .ref q3, .ref q5, .ref q6, .ref q7, .ref q8, .ref q9, .ref q10])), (q2, .inl (cA 0, 9, .inl f2)), (q3, .inl (cA 0, 9, .inl f3)), (q4, .inl (cA 0, 9, .inl f4)), (q5, .inl (cA 0, 9, .inl f5))] := hD
                  exact jn27 (u61.1 0) (u61.1 1) (u61.1 2) _ _ _   (hP.sub [0, 4, 5, 1, 2, 3] rfl) (hD.sub [0, 4, 5, 1, 2, 3] (by decide) rfl) hS (lv_sub hl [0, 1, 2, 3, 4, 5, 6, 7, 8, 9] rfl)
            · have h63 : 3 ≤ r46.toInt := rg_le_lo (rg_nlt c47) (by decide : (3 : Int) ≤ (3 : Int32).toInt)
              refine lv_aload_n hx hb dX7_extend_67 rfl (lv_at hl 3 rfl) ?_
              refine lv_iload hx hb dX7_extend_68 (lv_at hl 7 rfl) ?_
              refine lv_iload hx hb dX7_extend_70 (lv_at hl 8 rfl) ?_
              refine lv_iconst (v := 1) hx hb dX7_extend_72 (by decide) ?_
              refine lv_iload hx hb dX7_extend_73 (lv_at hl 2 rfl) ?_
              refine rg_shl1 (lo := 1) (hi := 256) hx hb dX7_extend_75 l6 h16 (by decide) (fun v64 ev64 lv64 uv64 => ?_)
              refine lv_ior hx hb dX7_extend_76 ?_
              refine lv_topi (fun v65 ev65 => ?_)
              refine lv_iload hx hb dX7_extend_77 (lv_at hl 0 rfl) ?_
              refine ms_cVv (qc := (RX7, TX7, 4)) (wc := [(q0, .inr (7, [.int x8, .int x9, .int x10, .int s0_3]))]) (wr := [(q4, .inl (cA 0, 9, .inl f4)), (q5, .inl (cA 0, 9, .inl f5)), (q1, .inr (2, [.int s1_0, .int s1_1, .int s1_2, .int s1_3, .int s1_4, .ref q2, .ref q3, .ref q5, .ref q6, .ref q7, .ref q8, .ref q9, .ref q10])), (q2, .inl (cA 0, 9, .inl f2)), (q3, .inl (cA 0, 9, .inl f3))]) ⟨hx, hb, hml, hown, hts⟩ hE (kX7_compare_1 l D cA q0 x8 x9 x10 s0_3 a1 v65 v23 (rg_le s0_3l (by decide)) (rg_ge s0_3u (by decide)) (rg_le a1l (by decide)) (rg_ge a1u (by decide))) (cwV 3 hts gX7_extend_X7_compare rfl rfl rfl (by decide +kernel) ⟨Nat.le_of_ble_eq_true rfl, Nat.le_of_ble_eq_true rfl⟩) hP hD hS hA [0] [1, 2, 3, 4, 5] rfl rfl rfl rfl (by decide) 0 7 rfl rfl rfl hl.1 rfl (Nat.le_of_ble_eq_true rfl) dX7_extend_79 ⟨Nat.le_of_ble_eq_true rfl, Nat.le_of_ble_eq_true rfl⟩ (fun u66 H locs hp hP hD hS => ?_)
              have hP : va_P D vwCl [(q4, .inl (cA 0, 9, .inl f4)), (q5, .inl (cA 0, 9, .inl f5)), (q1, .inr (2, [.int s1_0, .int s1_1, .int s1_2, .int s1_3, .int s1_4, .ref q2, .ref q3, .ref q5, .ref q6, .ref q7, .ref q8, .ref q9, .ref q10])), (q2, .inl (cA 0, 9, .inl f2)), (q3, .inl (cA 0, 9, .inl f3)), (q0, .inr (7, [.int (u66.1 0), .int (u66.1 1), .int (u66.1 2), .int s0_3]))] H := hP
              have hD : va_D A [(q4, .inl (cA 0, 9, .inl f4)), (q5, .inl (cA 0, 9, .inl f5)), (q1, .inr (2, [.int s1_0, .int s1_1, .int s1_2, .int s1_3, .int s1_4, .ref q2, .ref q3, .ref q5, .ref q6, .ref q7, .ref q8, .ref q9, .ref q10])), (q2, .inl (cA 0, 9, .inl f2)), (q3, .inl (cA 0, 9, .inl f3)), (q0, .inr (7, [.int (u66.1 0), .int (u66.1 1), .int (u66.1 2), .int s0_3]))] := hD
              refine lv_goto (tgt := 128) hx hb dX7_extend_82 (by decide) ?_
              exact jn27 (u66.1 0) (u66.1 1) (u66.1 2) _ _ _   (hP.sub [5, 0, 1, 2, 3, 4] rfl) (hD.sub [5, 0, 1, 2, 3, 4] (by decide) rfl) hS (lv_sub hl [0, 1, 2, 3, 4, 5, 6, 7, 8, 9] rfl)
    exact lp11 10 0 s0_0 s0_1 s0_2 _ _ _ (rg_le (by decide : (0 : Int) ≤ (0 : Int32).toInt) (by decide)) (rg_ge (by decide : (0 : Int32).toInt ≤ 0) (by decide))  (rg_mi (by decide : (0 : Int) ≤ (0 : Int32).toInt) (by decide)) hP hD hS (lv_sub hl [0, 1, 2, 3, 4, 5, 6, 7] rfl)
  · have h68 : 7 ≤ r2.toInt := rg_lt_lo (rg_nle c3) (by decide : (6 : Int) ≤ (6 : Int32).toInt) (by decide)
    exact ms_vret hx hb hr hlk (fun i => [s0_0, s0_1, s0_2].getD i 0, fun i => [].getD i ms_z, fun i => [].getD i 0) trivial hP hD hS (Nat.le_of_ble_eq_true rfl) (Nat.le_of_ble_eq_true rfl) dX7_extend_10
set_option maxHeartbeats 4000000 in
set_option maxRecDepth 100000 in
theorem kX7_extend_3 (l : Launch) (D : va_G) (cA : Nat → ClassId) (q0 q1 q2 q3 q4 q5 q6 q7 q8 q9 q10 : Nat) (s0_0 : Int32) (s0_1 : Int32) (s0_2 : Int32) (s0_3 : Int32) (s1_0 : Int32) (s1_1 : Int32) (s1_2 : Int32) (s1_3 : Int32) (s1_4 : Int32) (f2 : Nat → Int32) (f3 : Nat → Int32) (f4 : Nat → Int32) (f5 : Nat → Int32) (a0 : Int32) (a1 : Int32) (a2 : Int32) (a3 : Int32) (s0_3l : 0 ≤ s0_3.toInt) (s0_3u : s0_3.toInt ≤ 5) (s1_0l : 0 ≤ s1_0.toInt) (s1_0u : s1_0.toInt ≤ 6) (s1_1l : 0 ≤ s1_1.toInt) (s1_1u : s1_1.toInt ≤ 4) (s1_2l : 0 ≤ s1_2.toInt) (s1_2u : s1_2.toInt ≤ 9) (s1_3l : 0 ≤ s1_3.toInt) (s1_3u : s1_3.toInt ≤ 9) (s1_4l : 0 ≤ s1_4.toInt) (s1_4u : s1_4.toInt ≤ 6) (f2_0 : rg_S f2 0 9 0 5) (f3_0 : rg_S f3 0 9 0 5) (f5_0 : rg_S f5 0 9 0 99) (a0l : 0 ≤ a0.toInt) (a0u : a0.toInt ≤ 5) (a1l : 0 ≤ a1.toInt) (a1u : a1.toInt ≤ 63) (hpf : ms_pc a1 = 4) : ms_Mv l yX7_extend wsX7_extend ({ frames := 3, cells := 0, slots := 0, locals := 82 } : Room) D cA [.ref q0, .ref q1, .ref q4, .int a0, .int a1, .int a2, .int a3] [(q0, .inr (7, [.int s0_0, .int s0_1, .int s0_2, .int s0_3])), (q1, .inr (2, [.int s1_0, .int s1_1, .int s1_2, .int s1_3, .int s1_4, .ref q2, .ref q3, .ref q5, .ref q6, .ref q7, .ref q8, .ref q9, .ref q10])), (q2, .inl (cA 0, 9, .inl f2)), (q3, .inl (cA 0, 9, .inl f3)), (q4, .inl (cA 0, 9, .inl f4)), (q5, .inl (cA 0, 9, .inl f5))] (fun (u : ((Nat → Int32) × (Nat → Nat → Int32) × (Nat → Int64))) => True) (fun (u : ((Nat → Int32) × (Nat → Nat → Int32) × (Nat → Int64))) => [(q0, .inr (7, [.int (u.1 0), .int (u.1 1), .int (u.1 2), .int s0_3])), (q1, .inr (2, [.int s1_0, .int s1_1, .int s1_2, .int s1_3, .int s1_4, .ref q2, .ref q3, .ref q5, .ref q6, .ref q7, .ref q8, .ref q9, .ref q10])), (q2, .inl (cA 0, 9, .inl f2)), (q3, .inl (cA 0, 9, .inl f3)), (q4, .inl (cA 0, 9, .inl f4)), (q5, .inl (cA 0, 9, .inl f5))]) := by
  refine ms_Mv_of (cc := cX7_extend) (maxL := 10) (ret := none) (by decide) rfl (Nat.le_of_ble_eq_true rfl) ?_
  intro p e s m args below meth c A ls hB hE hA hP hD hS hl
  obtain ⟨hx, hb, hr, hml, hown, hts, hlk, hnm⟩ := hB
  have hown : s.vm.findClass RX7 = some m.cls := hown
  have hnX2 : ∀ w ∈ u_ws RX2 TX2 13, w ∈ wsX7_extend := fun _ h => List.mem_cons_of_mem _ (List.mem_append_left _ (List.mem_append_right _ (h)))
  have hnX7 : ∀ w ∈ u_ws RX7 TX7 4, w ∈ wsX7_extend := fun _ h => List.mem_cons_of_mem _ (List.mem_append_right _ (h))
  have hl : lv_has ls 10 [(0, .ref q0), (1, .ref q1), (2, .ref q4), (3, .int a0), (4, .int a1), (5, .int a2), (6, .int a3)] := hl
  refine lv_iload hx hb dX7_extend_0 (lv_at hl 4 rfl) ?_
  refine ms_cSi (wc := []) (wr := [(q0, .inr (7, [.int s0_0, .int s0_1, .int s0_2, .int s0_3])), (q1, .inr (2, [.int s1_0, .int s1_1, .int s1_2, .int s1_3, .int s1_4, .ref q2, .ref q3, .ref q5, .ref q6, .ref q7, .ref q8, .ref q9, .ref q10])), (q2, .inl (cA 0, 9, .inl f2)), (q3, .inl (cA 0, 9, .inl f3)), (q4, .inl (cA 0, 9, .inl f4)), (q5, .inl (cA 0, 9, .inl f5))]) ⟨hx, hb, hml, hown, hts⟩ hE (kJ6_bitCount_0f7a4_1 l D cA a1) (va_cwS 1 hts gX7_extend_J6_bitCount_0f7a4 rfl rfl rfl (by decide +kernel) ⟨Nat.le_of_ble_eq_true rfl, Nat.le_of_ble_eq_true rfl⟩) hP hD hS hA [] [0, 1, 2, 3, 4, 5] rfl rfl rfl rfl (by decide) rfl hl.1 rfl (Nat.le_of_ble_eq_true rfl) dX7_extend_2 ⟨Nat.le_of_ble_eq_true rfl, Nat.le_of_ble_eq_true rfl⟩ (fun r2 u1 H locs hp hP hD hS => ?_)
  obtain ⟨⟨r2l, r2u⟩, exu1, -⟩ := hp
  have hP : va_P D vwCl [(q0, .inr (7, [.int s0_0, .int s0_1, .int s0_2, .int s0_3])), (q1, .inr (2, [.int s1_0, .int s1_1, .int s1_2, .int s1_3, .int s1_4, .ref q2, .ref q3, .ref q5, .ref q6, .ref q7, .ref q8, .ref q9, .ref q10])), (q2, .inl (cA 0, 9, .inl f2)), (q3, .inl (cA 0, 9, .inl f3)), (q4, .inl (cA 0, 9, .inl f4)), (q5, .inl (cA 0, 9, .inl f5))] H := hP
  have hD : va_D A [(q0, .inr (7, [.int s0_0, .int s0_1, .int s0_2, .int s0_3])), (q1, .inr (2, [.int s1_0, .int s1_1, .int s1_2, .int s1_3, .int s1_4, .ref q2, .ref q3, .ref q5, .ref q6, .ref q7, .ref q8, .ref q9, .ref q10])), (q2, .inl (cA 0, 9, .inl f2)), (q3, .inl (cA 0, 9, .inl f3)), (q4, .inl (cA 0, 9, .inl f4)), (q5, .inl (cA 0, 9, .inl f5))] := hD
  refine lv_bipush (v := 6) hx hb dX7_extend_5 (by decide) ?_
  refine lv_icmp_le (tgt := 11) hx hb dX7_extend_7 (by decide) (fun c3 => ?_) (fun c3 => ?_)
  · have h4 : r2.toInt ≤ 6 := rg_le_hi c3 (by decide : (6 : Int32).toInt ≤ 6)
    refine lv_iconst (v := 0) hx hb dX7_extend_11 (by decide) ?_
    refine lv_istore (lv' := [(7, .int 0), (0, .ref q0), (1, .ref q1), (2, .ref q4), (3, .int a0), (4, .int a1), (5, .int a2), (6, .int a3)]) hx hb dX7_extend_12 hl (by decide) rfl (fun ls hl => ?_)
    have lp11 : ∀ (n12 : Nat) (x5 : Int32) (x8 : Int32) (x9 : Int32) (x10 : Int32) (H : Heap) (locs : List Loc) (ls : Array Slot), 0 ≤ x5.toInt → x5.toInt ≤ 9 → 9 + 1 ≤ x5.toInt + (n12 : Int) → va_P D vwCl [(q0, .inr (7, [.int x8, .int x9, .int x10, .int s0_3])), (q1, .inr (2, [.int s1_0, .int s1_1, .int s1_2, .int s1_3, .int s1_4, .ref q2, .ref q3, .ref q5, .ref q6, .ref q7, .ref q8, .ref q9, .ref q10])), (q2, .inl (cA 0, 9, .inl f2)), (q3, .inl (cA 0, 9, .inl f3)), (q4, .inl (cA 0, 9, .inl f4)), (q5, .inl (cA 0, 9, .inl f5))] H → va_D A [(q0, .inr (7, [.int x8, .int x9, .int x10, .int s0_3])), (q1, .inr (2, [.int s1_0, .int s1_1, .int s1_2, .int s1_3, .int s1_4, .ref q2, .ref q3, .ref q5, .ref q6, .ref q7, .ref q8, .ref q9, .ref q10])), (q2, .inl (cA 0, 9, .inl f2)), (q3, .inl (cA 0, 9, .inl f3)), (q4, .inl (cA 0, 9, .inl f4)), (q5, .inl (cA 0, 9, .inl f5))] → va_S A s.heap H locs → lv_has ls 10 [(7, .int x5), (0, .ref q0), (1, .ref q1), (2, .ref q4), (3, .int a0), (4, .int a1), (5, .int a2), (6, .int a3)] → W p l e ({ frames := 3, cells := 0, slots := 0, locals := 82 } : Room) s m args below meth c H locs 0 0 (MQ below (ms_Qv D A (fun (u : ((Nat → Int32) × (Nat → Nat → Int32) × (Nat → Int64))) => True) (fun (u : ((Nat → Int32) × (Nat → Nat → Int32) × (Nat → Int64))) => [(q0, .inr (7, [.int (u.1 0), .int (u.1 1), .int (u.1 2), .int s0_3])), (q1, .inr (2, [.int s1_0, .int s1_1, .int s1_2, .int s1_3, .int s1_4, .ref q2, .ref q3, .ref q5, .ref q6, .ref q7, .ref q8, .ref q9, .ref q10])), (q2, .inl (cA 0, 9, .inl f2)), (q3, .inl (cA 0, 9, .inl f3)), (q4, .inl (cA 0, 9, .inl f4)), (q5, .inl (cA 0, 9, .inl f5))])) args s 0 0 A) (F0 m 14 ls []) := by
      intro n12
      induction n12 with
      | zero => intro x5 x8 x9 x10 H locs ls l6 u7  hm14; exact (rg_m0 hm14 u7).elim
      | succ n12 ih13 =>
        intro x5 x8 x9 x10 H locs ls l6 u7  hm14 hP hD hS hl
        refine lv_iload hx hb dX7_extend_14 (lv_at hl 0 rfl) ?_
        refine lv_aload_n hx hb dX7_extend_16 rfl (lv_at hl 2 rfl) ?_
        refine va_get (D := D) (ci := 2) (v := .int s1_3) (C := RX2) (T := TX2) (N := 13) hx hb hts hnX2 hown hE.1 hP 1 rfl rfl 3 (by decide) (hts (.fieldLink RX7 39 "MovedStones$Land" "roads" "I") (List.mem_cons_of_mem _ (List.mem_append_left _ (List.mem_append_left _ (List.mem_append_left _ (List.mem_of_getElem? (i := 0) rfl)))))) (fun _ h9 => h9) rfl dX7_extend_17 ?_
        refine lv_icmp_ge (tgt := 134) hx hb dX7_extend_20 (by decide) (fun c15 => ?_) (fun c15 => ?_)
        · exact ms_vret hx hb hr hlk (fun i => [x8, x9, x10].getD i 0, fun i => [].getD i ms_z, fun i => [].getD i 0) trivial hP hD hS (Nat.le_of_ble_eq_true rfl) (Nat.le_of_ble_eq_true rfl) dX7_extend_134
        · have h16 : x5.toInt ≤ 8 := rg_lt_hi (rg_nle c15) s1_3u (by decide)
          have h17 : 1 ≤ s1_3.toInt := rg_lt_lo (rg_nle c15) l6 (by decide)
          refine lv_aload_n hx hb dX7_extend_23 rfl (lv_at hl 2 rfl) ?_
          refine lv_iload hx hb dX7_extend_24 (lv_at hl 0 rfl) ?_
          refine lv_iload_n hx hb dX7_extend_26 rfl (lv_at hl 4 rfl) ?_
          refine ms_cVi (qc := (RX2, TX2, 13)) (wc := [(q1, .inr (2, [.int s1_0, .int s1_1, .int s1_2, .int s1_3, .int s1_4, .ref q2, .ref q3, .ref q5, .ref q6, .ref q7, .ref q8, .ref q9, .ref q10])), (q2, .inl (cA 0, 9, .inl f2)), (q3, .inl (cA 0, 9, .inl f3))]) (wr := [(q0, .inr (7, [.int x8, .int x9, .int x10, .int s0_3])), (q4, .inl (cA 0, 9, .inl f4)), (q5, .inl (cA 0, 9, .inl f5))]) ⟨hx, hb, hml, hown, hts⟩ hE (kX2_otherEnd_1 l D cA q1 q2 q3 q5 q6 q7 q8 q9 q10 s1_0 s1_1 s1_2 s1_3 s1_4 f2 f3 x5 a0 (rg_le s1_0l (by decide)) (rg_ge s1_0u (by decide)) (rg_le s1_1l (by decide)) (rg_ge s1_1u (by decide)) (rg_le s1_2l (by decide)) (rg_ge s1_2u (by decide)) (rg_le h17 (by decide)) (rg_ge s1_3u (by decide)) (rg_le s1_4l (by decide)) (rg_ge s1_4u (by decide)) (rg_Smono f2_0 (by decide) (by decide) (by decide) (by decide)) (rg_Smono f3_0 (by decide) (by decide) (by decide) (by decide)) (rg_le l6 (by decide)) (rg_ge h16 (by decide))) (cwV 2 hts gX7_extend_X2_otherEnd rfl rfl rfl (by decide +kernel) ⟨Nat.le_of_ble_eq_true rfl, Nat.le_of_ble_eq_true rfl⟩) hP hD hS hA [1, 2, 3] [0, 4, 5] rfl rfl rfl rfl (by decide) 0 2 rfl rfl rfl hl.1 rfl (Nat.le_of_ble_eq_true rfl) dX7_extend_27 ⟨Nat.le_of_ble_eq_true rfl, Nat.le_of_ble_eq_true rfl⟩ (fun r19 u18 H locs hp hP hD hS => ?_)
          obtain ⟨⟨r19l, r19u⟩, exu18, -⟩ := hp
          have hP : va_P D vwCl [(q0, .inr (7, [.int x8, .int x9, .int x10, .int s0_3])), (q4, .inl (cA 0, 9, .inl f4)), (q5, .inl (cA 0, 9, .inl f5)), (q1, .inr (2, [.int s1_0, .int s1_1, .int s1_2, .int s1_3, .int s1_4, .ref q2, .ref q3, .ref q5, .ref q6, .ref q7, .ref q8, .ref q9, .ref q10])), (q2, .inl (cA 0, 9, .inl f2)), (q3, .inl (cA 0, 9, .inl f3))] H := hP
          have hD : va_D A [(q0, .inr (7, [.int x8, .int x9, .int x10, .int s0_3])), (q4, .inl (cA 0, 9, .inl f4)), (q5, .inl (cA 0, 9, .inl f5)), (q1, .inr (2, [.int s1_0, .int s1_1, .int s1_2, .int s1_3, .int s1_4, .ref q2, .ref q3, .ref q5, .ref q6, .ref q7, .ref q8, .ref q9, .ref q10])), (q2, .inl (cA 0, 9, .inl f2)), (q3, .inl (cA 0, 9, .inl f3))] := hD
          refine lv_istore (lv' := [(8, .int r19), (7, .int x5), (0, .ref q0), (1, .ref q1), (2, .ref q4), (3, .int a0), (4, .int a1), (5, .int a2), (6, .int a3)]) hx hb dX7_extend_30 hl (by decide) rfl (fun ls hl => ?_)
          refine lv_iload hx hb dX7_extend_32 (lv_at hl 8 rfl) ?_
          refine lv_aload_n hx hb dX7_extend_34 rfl (lv_at hl 4 rfl) ?_
          refine lv_iload hx hb dX7_extend_35 (lv_at hl 1 rfl) ?_
          refine rg_iald0 hx hb hE hP (q0 := 1) rfl l6 h16 (by decide) dX7_extend_37 (fun v20 ev20 => ?_)
          refine lv_iadd hx hb dX7_extend_38 ?_
          refine lv_topi (fun v21 ev21 => ?_)
          refine lv_aload_n hx hb dX7_extend_39 rfl (lv_at hl 3 rfl) ?_
          refine va_get (D := D) (ci := 2) (v := .ref q5) (C := RX2) (T := TX2) (N := 13) hx hb hts hnX2 hown hE.1 hP 3 rfl rfl 7 (by decide) (hts (.fieldLink RX7 46 "MovedStones$Land" "feet" "[I") (List.mem_cons_of_mem _ (List.mem_append_left _ (List.mem_append_left _ (List.mem_append_left _ (List.mem_of_getElem? (i := 1) rfl)))))) (fun _ h9 => h9) rfl dX7_extend_40 ?_
          refine lv_iload hx hb dX7_extend_43 (lv_at hl 1 rfl) ?_
          refine rg_iald hx hb hE hP (q0 := 2) rfl l6 h16 f5_0 (by decide) dX7_extend_45 (fun v22 ev22 lv22 uv22 => ?_)
          refine lv_isub hx hb dX7_extend_46 ?_
          refine lv_topi (fun v23 ev23 => ?_)
          refine lv_istore (lv' := [(9, .int v23), (8, .int r19), (7, .int x5), (0, .ref q0), (1, .ref q1), (2, .ref q4), (3, .int a0), (4, .int a1), (5, .int a2), (6, .int a3)]) hx hb dX7_extend_47 hl (by decide) rfl (fun ls hl => ?_)
          refine lv_iload hx hb dX7_extend_49 (lv_at hl 1 rfl) ?_
          refine lv_aload_n hx hb dX7_extend_51 rfl (lv_at hl 3 rfl) ?_
          refine va_get (D := D) (ci := 7) (v := .int s0_3) (C := RX7) (T := TX7) (N := 4) hx hb hts hnX7 hown hE.1 hP 0 rfl rfl 3 (by decide) (hts (.fieldLink RX7 26 "MovedStones$Rounds" "start" "I") (List.mem_cons_of_mem _ (List.mem_append_left _ (List.mem_append_left _ (List.mem_append_left _ (List.mem_of_getElem? (i := 2) rfl)))))) (fun _ h9 => h9) rfl dX7_extend_52 ?_
          have jn27 : ∀ (x24 : Int32) (x25 : Int32) (x26 : Int32) (H : Heap) (locs : List Loc) (ls : Array Slot), va_P D vwCl [(q0, .inr (7, [.int x24, .int x25, .int x26, .int s0_3])), (q4, .inl (cA 0, 9, .inl f4)), (q5, .inl (cA 0, 9, .inl f5)), (q1, .inr (2, [.int s1_0, .int s1_1, .int s1_2, .int s1_3, .int s1_4, .ref q2, .ref q3, .ref q5, .ref q6, .ref q7, .ref q8, .ref q9, .ref q10])), (q2, .inl (cA 0, 9, .inl f2)), (q3, .inl (cA 0, 9, .inl f3))] H → va_D A [(q0, .inr (7, [.int x24, .int x25, .int x26, .int s0_3])), (q4, .inl (cA 0, 9, .inl f4)), (q5, .inl (cA 0, 9, .inl f5)), (q1, .inr (2, [.int s1_0, .int s1_1, .int s1_2, .int s1_3, .int s1_4, .ref q2, .ref q3, .ref q5, .ref q6, .ref q7, .ref q8, .ref q9, .ref q10])), (q2, .inl (cA 0, 9, .inl f2)), (q3, .inl (cA 0, 9, .inl f3))] → va_S A s.heap H locs → lv_has ls 10 [(9, .int v23), (8, .int r19), (7, .int x5), (0, .ref q0), (1, .ref q1), (2, .ref q4), (3, .int a0), (4, .int a1), (5, .int a2), (6, .int a3)] → W p l e ({ frames := 3, cells := 0, slots := 0, locals := 82 } : Room) s m args below meth c H locs 0 0 (MQ below (ms_Qv D A (fun (u : ((Nat → Int32) × (Nat → Nat → Int32) × (Nat → Int64))) => True) (fun (u : ((Nat → Int32) × (Nat → Nat → Int32) × (Nat → Int64))) => [(q0, .inr (7, [.int (u.1 0), .int (u.1 1), .int (u.1 2), .int s0_3])), (q1, .inr (2, [.int s1_0, .int s1_1, .int s1_2, .int s1_3, .int s1_4, .ref q2, .ref q3, .ref q5, .ref q6, .ref q7, .ref q8, .ref q9, .ref q10])), (q2, .inl (cA 0, 9, .inl f2)), (q3, .inl (cA 0, 9, .inl f3)), (q4, .inl (cA 0, 9, .inl f4)), (q5, .inl (cA 0, 9, .inl f5))])) args s 0 0 A) (F0 m 128 ls []) := by
            intro x24 x25 x26 H locs ls   hP hD hS hl
            refine rg_iinc (lo := 1) (hi := 9) (fun z => [(7, .int z), (9, .int v23), (8, .int r19), (0, .ref q0), (1, .ref q1), (2, .ref q4), (3, .int a0), (4, .int a1), (5, .int a2), (6, .int a3)]) hx hb dX7_extend_128 hl (k := 2) rfl (by decide) l6 h16 (by decide) (fun _ => rfl) (fun v28 ev28 lv28 uv28 ls hl => ?_)
            have hl : lv_has ls 10 [(7, .int v28), (9, .int v23), (8, .int r19), (0, .ref q0), (1, .ref q1), (2, .ref q4), (3, .int a0), (4, .int a1), (5, .int a2), (6, .int a3)] := hl
            refine lv_goto (tgt := 14) hx hb dX7_extend_131 (by decide) ?_
            exact ih13 v28 x24 x25 x26 _ _ _ (rg_le lv28 (by decide)) (rg_ge uv28 (by decide))  (rg_ms hm14 ev28 (by decide)) (hP.sub [0, 3, 4, 5, 1, 2] rfl) (hD.sub [0, 3, 4, 5, 1, 2] (by decide) rfl) hS (lv_sub hl [0, 3, 4, 5, 6, 7, 8, 9] rfl)
          refine lv_icmp_ne (tgt := 85) hx hb dX7_extend_55 (by decide) (fun c29 => ?_) (fun c29 => ?_)
          · refine lv_iload hx hb dX7_extend_85 (lv_at hl 1 rfl) ?_
            refine lv_aload_n hx hb dX7_extend_87 rfl (lv_at hl 3 rfl) ?_
            refine va_get (D := D) (ci := 7) (v := .int s0_3) (C := RX7) (T := TX7) (N := 4) hx hb hts hnX7 hown hE.1 hP 0 rfl rfl 3 (by decide) (hts (.fieldLink RX7 26 "MovedStones$Rounds" "start" "I") (List.mem_cons_of_mem _ (List.mem_append_left _ (List.mem_append_left _ (List.mem_append_left _ (List.mem_of_getElem? (i := 2) rfl)))))) (fun _ h9 => h9) rfl dX7_extend_88 ?_
            refine lv_icmp_le (tgt := 128) hx hb dX7_extend_91 (by decide) (fun c30 => ?_) (fun c30 => ?_)
            · exact jn27 x8 x9 x10 _ _ _   hP hD hS (lv_sub hl [0, 1, 2, 3, 4, 5, 6, 7, 8, 9] rfl)
            · have h31 : s0_3.toInt ≤ 4 := rg_lt_hi (rg_nle c30) r19u (by decide)
              have h32 : 1 ≤ r19.toInt := rg_lt_lo (rg_nle c30) s0_3l (by decide)
              refine lv_iload hx hb dX7_extend_94 (lv_at hl 7 rfl) ?_
              refine lv_iload hx hb dX7_extend_96 (lv_at hl 1 rfl) ?_
              refine lv_ishr hx hb dX7_extend_98 ?_
              refine lv_topi (fun v33 ev33 => ?_)
              refine lv_iconst (v := 1) hx hb dX7_extend_99 (by decide) ?_
              refine rg_iand1 hx hb dX7_extend_100 (fun v34 ev34 lv34 uv34 => ?_)
              refine lv_if_ne (tgt := 128) hx hb dX7_extend_101 (by decide) (fun c35 => ?_) (fun c35 => ?_)
              · have h36 : 1 ≤ v34.toInt := rg_ne_lo c35 lv34 (by decide : (0 : Int) ≤ (0 : Int32).toInt) (by decide : (0 : Int32).toInt ≤ 0) (by decide)
                exact jn27 x8 x9 x10 _ _ _   hP hD hS (lv_sub hl [0, 1, 2, 3, 4, 5, 6, 7, 8, 9] rfl)
              · have h37 : v34.toInt ≤ 0 := rg_eq_hi c35 (by decide : (0 : Int32).toInt ≤ 0)
                refine lv_aload_n hx hb dX7_extend_104 rfl (lv_at hl 3 rfl) ?_
                refine lv_aload_n hx hb dX7_extend_105 rfl (lv_at hl 4 rfl) ?_
                refine lv_aload_n hx hb dX7_extend_106 rfl (lv_at hl 5 rfl) ?_
                refine lv_iload hx hb dX7_extend_107 (lv_at hl 1 rfl) ?_
                refine lv_iload hx hb dX7_extend_109 (lv_at hl 7 rfl) ?_
                refine lv_iconst (v := 1) hx hb dX7_extend_111 (by decide) ?_
                refine lv_iload hx hb dX7_extend_112 (lv_at hl 1 rfl) ?_
                refine rg_shl1 (lo := 2) (hi := 32) hx hb dX7_extend_114 h32 r19u (by decide) (fun v38 ev38 lv38 uv38 => ?_)
                refine rg_ior (k := 6) (hi := 63) hx hb dX7_extend_115 a1l a1u lv38 uv38 (by decide) (fun v39 ev39 lv39 uv39 => ?_)
                refine lv_iload hx hb dX7_extend_116 (lv_at hl 8 rfl) ?_
                refine lv_iconst (v := 1) hx hb dX7_extend_118 (by decide) ?_
                refine lv_iload hx hb dX7_extend_119 (lv_at hl 2 rfl) ?_
                refine rg_shl1 (lo := 1) (hi := 256) hx hb dX7_extend_121 l6 h16 (by decide) (fun v40 ev40 lv40 uv40 => ?_)
                refine lv_ior hx hb dX7_extend_122 ?_
                refine lv_topi (fun v41 ev41 => ?_)
                refine lv_iload hx hb dX7_extend_123 (lv_at hl 0 rfl) ?_
                refine ms_cVv (qc := (RX7, TX7, 4)) (wc := [(q0, .inr (7, [.int x8, .int x9, .int x10, .int s0_3])), (q1, .inr (2, [.int s1_0, .int s1_1, .int s1_2, .int s1_3, .int s1_4, .ref q2, .ref q3, .ref q5, .ref q6, .ref q7, .ref q8, .ref q9, .ref q10])), (q2, .inl (cA 0, 9, .inl f2)), (q3, .inl (cA 0, 9, .inl f3)), (q4, .inl (cA 0, 9, .inl f4)), (q5, .inl (cA 0, 9, .inl f5))]) (wr := []) ⟨hx, hb, hml, hown, hts⟩ hE (kX7_extend_2 l D cA q0 q1 q2 q3 q4 q5 q6 q7 q8 q9 q10 x8 x9 x10 s0_3 s1_0 s1_1 s1_2 s1_3 s1_4 f2 f3 f4 f5 r19 v39 v41 v23 (rg_le s0_3l (by decide)) (rg_ge h31 (by decide)) (rg_le s1_0l (by decide)) (rg_ge s1_0u (by decide)) (rg_le s1_1l (by decide)) (rg_ge s1_1u (by decide)) (rg_le s1_2l (by decide)) (rg_ge s1_2u (by decide)) (rg_le h17 (by decide)) (rg_ge s1_3u (by decide)) (rg_le s1_4l (by decide)) (rg_ge s1_4u (by decide)) (rg_Smono f2_0 (by decide) (by decide) (by decide) (by decide)) (rg_Smono f3_0 (by decide) (by decide) (by decide) (by decide)) (rg_Smono f5_0 (by decide) (by decide) (by decide) (by decide)) (rg_le h32 (by decide)) (rg_ge r19u (by decide)) (rg_le lv39 (by decide)) (rg_ge uv39 (by decide)) (ms_pcU (rg_le a1l (by decide)) (rg_ge a1u (by decide)) h32 r19u ev33 ev34 c35 ev38 ev39 hpf)) (cwV 6 hts gX7_extend_X7_extend rfl rfl rfl (by decide +kernel) ⟨Nat.le_of_ble_eq_true rfl, Nat.le_of_ble_eq_true rfl⟩) hP hD hS hA [0, 3, 4, 5, 1, 2] [] rfl rfl rfl rfl (by decide) 0 7 rfl rfl rfl hl.1 rfl (Nat.le_of_ble_eq_true rfl) dX7_extend_125 ⟨Nat.le_of_ble_eq_true rfl, Nat.le_of_ble_eq_true rfl⟩ (fun u42 H locs hp hP hD hS => ?_)
                have hP : va_P D vwCl [(q0, .inr (7, [.int (u42.1 0), .int (u42.1 1), .int (u42.1 2), .int s0_3])), (q1, .inr (2, [.int s1_0, .int s1_1, .int s1_2, .int s1_3, .int s1_4, .ref q2, .ref q3, .ref q5, .ref q6, .ref q7, .ref q8, .ref q9, .ref q10])), (q2, .inl (cA 0, 9, .inl f2)), (q3, .inl (cA 0, 9, .inl f3)), (q4, .inl (cA 0, 9, .inl f4)), (q5, .inl (cA 0, 9, .inl f5))] H := hP
                have hD : va_D A [(q0, .inr (7, [.int (u42.1 0), .int (u42.1 1), .int (u42.1 2), .int s0_3])), (q1, .inr (2, [.int s1_0, .int s1_1, .int s1_2, .int s1_3, .int s1_4, .ref q2, .ref q3, .ref q5, .ref q6, .ref q7, .ref q8, .ref q9, .ref q10])), (q2, .inl (cA 0, 9, .inl f2)), (q3, .inl (cA 0, 9, .inl f3)), (q4, .inl (cA 0, 9, .inl f4)), (q5, .inl (cA 0, 9, .inl f5))] := hD
                exact jn27 (u42.1 0) (u42.1 1) (u42.1 2) _ _ _   (hP.sub [0, 4, 5, 1, 2, 3] rfl) (hD.sub [0, 4, 5, 1, 2, 3] (by decide) rfl) hS (lv_sub hl [0, 1, 2, 3, 4, 5, 6, 7, 8, 9] rfl)
          · have h44 : 0 ≤ r19.toInt := rg_eq_lo c29 s0_3l
            refine lv_iload hx hb dX7_extend_58 (lv_at hl 7 rfl) ?_
            refine ms_cSi (wc := []) (wr := [(q0, .inr (7, [.int x8, .int x9, .int x10, .int s0_3])), (q4, .inl (cA 0, 9, .inl f4)), (q5, .inl (cA 0, 9, .inl f5)), (q1, .inr (2, [.int s1_0, .int s1_1, .int s1_2, .int s1_3, .int s1_4, .ref q2, .ref q3, .ref q5, .ref q6, .ref q7, .ref q8, .ref q9, .ref q10])), (q2, .inl (cA 0, 9, .inl f2)), (q3, .inl (cA 0, 9, .inl f3))]) ⟨hx, hb, hml, hown, hts⟩ hE (kJ6_bitCount_0f7a4_1 l D cA a1) (va_cwS 1 hts gX7_extend_J6_bitCount_0f7a4 rfl rfl rfl (by decide +kernel) ⟨Nat.le_of_ble_eq_true rfl, Nat.le_of_ble_eq_true rfl⟩) hP hD hS hA [] [0, 1, 2, 3, 4, 5] rfl rfl rfl rfl (by decide) rfl hl.1 rfl (Nat.le_of_ble_eq_true rfl) dX7_extend_60 ⟨Nat.le_of_ble_eq_true rfl, Nat.le_of_ble_eq_true rfl⟩ (fun r46 u45 H locs hp hP hD hS => ?_)
            obtain ⟨⟨r46l, r46u⟩, exu45, -⟩ := hp
            have hP : va_P D vwCl [(q0, .inr (7, [.int x8, .int x9, .int x10, .int s0_3])), (q4, .inl (cA 0, 9, .inl f4)), (q5, .inl (cA 0, 9, .inl f5)), (q1, .inr (2, [.int s1_0, .int s1_1, .int s1_2, .int s1_3, .int s1_4, .ref q2, .ref q3, .ref q5, .ref q6, .ref q7, .ref q8, .ref q9, .ref q10])), (q2, .inl (cA 0, 9, .inl f2)), (q3, .inl (cA 0, 9, .inl f3))] H := hP
            have hD : va_D A [(q0, .inr (7, [.int x8, .int x9, .int x10, .int s0_3])), (q4, .inl (cA 0, 9, .inl f4)), (q5, .inl (cA 0, 9, .inl f5)), (q1, .inr (2, [.int s1_0, .int s1_1, .int s1_2, .int s1_3, .int s1_4, .ref q2, .ref q3, .ref q5, .ref q6, .ref q7, .ref q8, .ref q9, .ref q10])), (q2, .inl (cA 0, 9, .inl f2)), (q3, .inl (cA 0, 9, .inl f3))] := hD
            refine lv_iconst (v := 3) hx hb dX7_extend_63 (by decide) ?_
            refine lv_icmp_lt (tgt := 85) hx hb dX7_extend_64 (by decide) (fun c47 => ?_) (fun c47 => ?_)
            · have h48 : r46.toInt ≤ 2 := rg_lt_hi c47 (by decide : (3 : Int32).toInt ≤ 3) (by decide)
              refine lv_iload hx hb dX7_extend_85 (lv_at hl 1 rfl) ?_
              refine lv_aload_n hx hb dX7_extend_87 rfl (lv_at hl 3 rfl) ?_
              refine va_get (D := D) (ci := 7) (v := .int s0_3) (C := RX7) (T := TX7) (N := 4) hx hb hts hnX7 hown hE.1 hP 0 rfl rfl 3 (by decide) (hts (.fieldLink RX7 26 "MovedStones$Rounds" "start" "I") (List.mem_cons_of_mem _ (List.mem_append_left _ (List.mem_append_left _ (List.mem_append_left _ (List.mem_of_getElem? (i := 2) rfl)))))) (fun _ h9 => h9) rfl dX7_extend_88 ?_
              refine lv_icmp_le (tgt := 128) hx hb dX7_extend_91 (by decide) (fun c49 => ?_) (fun c49 => ?_)
              · exact jn27 x8 x9 x10 _ _ _   hP hD hS (lv_sub hl [0, 1, 2, 3, 4, 5, 6, 7, 8, 9] rfl)
              · have h50 : s0_3.toInt ≤ 4 := rg_lt_hi (rg_nle c49) r19u (by decide)
                have h51 : 1 ≤ r19.toInt := rg_lt_lo (rg_nle c49) s0_3l (by decide)
                refine lv_iload hx hb dX7_extend_94 (lv_at hl 7 rfl) ?_
                refine lv_iload hx hb dX7_extend_96 (lv_at hl 1 rfl) ?_
                refine lv_ishr hx hb dX7_extend_98 ?_
                refine lv_topi (fun v52 ev52 => ?_)
                refine lv_iconst (v := 1) hx hb dX7_extend_99 (by decide) ?_
                refine rg_iand1 hx hb dX7_extend_100 (fun v53 ev53 lv53 uv53 => ?_)
                refine lv_if_ne (tgt := 128) hx hb dX7_extend_101 (by decide) (fun c54 => ?_) (fun c54 => ?_)
                · have h55 : 1 ≤ v53.toInt := rg_ne_lo c54 lv53 (by decide : (0 : Int) ≤ (0 : Int32).toInt) (by decide : (0 : Int32).toInt ≤ 0) (by decide)
                  exact jn27 x8 x9 x10 _ _ _   hP hD hS (lv_sub hl [0, 1, 2, 3, 4, 5, 6, 7, 8, 9] rfl)
                · have h56 : v53.toInt ≤ 0 := rg_eq_hi c54 (by decide : (0 : Int32).toInt ≤ 0)
                  refine lv_aload_n hx hb dX7_extend_104 rfl (lv_at hl 3 rfl) ?_
                  refine lv_aload_n hx hb dX7_extend_105 rfl (lv_at hl 4 rfl) ?_
                  refine lv_aload_n hx hb dX7_extend_106 rfl (lv_at hl 5 rfl) ?_
                  refine lv_iload hx hb dX7_extend_107 (lv_at hl 1 rfl) ?_
                  refine lv_iload hx hb dX7_extend_109 (lv_at hl 7 rfl) ?_
                  refine lv_iconst (v := 1) hx hb dX7_extend_111 (by decide) ?_
                  refine lv_iload hx hb dX7_extend_112 (lv_at hl 1 rfl) ?_
                  refine rg_shl1 (lo := 2) (hi := 32) hx hb dX7_extend_114 h51 r19u (by decide) (fun v57 ev57 lv57 uv57 => ?_)
                  refine rg_ior (k := 6) (hi := 63) hx hb dX7_extend_115 a1l a1u lv57 uv57 (by decide) (fun v58 ev58 lv58 uv58 => ?_)
                  refine lv_iload hx hb dX7_extend_116 (lv_at hl 8 rfl) ?_
                  refine lv_iconst (v := 1) hx hb dX7_extend_118 (by decide) ?_
                  refine lv_iload hx hb dX7_extend_119 (lv_at hl 2 rfl) ?_
                  refine rg_shl1 (lo := 1) (hi := 256) hx hb dX7_extend_121 l6 h16 (by decide) (fun v59 ev59 lv59 uv59 => ?_)
                  refine lv_ior hx hb dX7_extend_122 ?_
                  refine lv_topi (fun v60 ev60 => ?_)
                  refine lv_iload hx hb dX7_extend_123 (lv_at hl 0 rfl) ?_
                  refine ms_cVv (qc := (RX7, TX7, 4)) (wc := [(q0, .inr (7, [.int x8, .int x9, .int x10, .int s0_3])), (q1, .inr (2, [.int s1_0, .int s1_1, .int s1_2, .int s1_3, .int s1_4, .ref q2, .ref q3, .ref q5, .ref q6, .ref q7, .ref q8, .ref q9, .ref q10])), (q2, .inl (cA 0, 9, .inl f2)), (q3, .inl (cA 0, 9, .inl f3)), (q4, .inl (cA 0, 9, .inl f4)), (q5, .inl (cA 0, 9, .inl f5))]) (wr := []) ⟨hx, hb, hml, hown, hts⟩ hE (kX7_extend_2 l D cA q0 q1 q2 q3 q4 q5 q6 q7 q8 q9 q10 x8 x9 x10 s0_3 s1_0 s1_1 s1_2 s1_3 s1_4 f2 f3 f4 f5 r19 v58 v60 v23 (rg_le s0_3l (by decide)) (rg_ge h50 (by decide)) (rg_le s1_0l (by decide)) (rg_ge s1_0u (by decide)) (rg_le s1_1l (by decide)) (rg_ge s1_1u (by decide)) (rg_le s1_2l (by decide)) (rg_ge s1_2u (by decide)) (rg_le h17 (by decide)) (rg_ge s1_3u (by decide)) (rg_le s1_4l (by decide)) (rg_ge s1_4u (by decide)) (rg_Smono f2_0 (by decide) (by decide) (by decide) (by decide)) (rg_Smono f3_0 (by decide) (by decide) (by decide) (by decide)) (rg_Smono f5_0 (by decide) (by decide) (by decide) (by decide)) (rg_le h51 (by decide)) (rg_ge r19u (by decide)) (rg_le lv58 (by decide)) (rg_ge uv58 (by decide)) (ms_pcU (rg_le a1l (by decide)) (rg_ge a1u (by decide)) h51 r19u ev52 ev53 c54 ev57 ev58 hpf)) (cwV 6 hts gX7_extend_X7_extend rfl rfl rfl (by decide +kernel) ⟨Nat.le_of_ble_eq_true rfl, Nat.le_of_ble_eq_true rfl⟩) hP hD hS hA [0, 3, 4, 5, 1, 2] [] rfl rfl rfl rfl (by decide) 0 7 rfl rfl rfl hl.1 rfl (Nat.le_of_ble_eq_true rfl) dX7_extend_125 ⟨Nat.le_of_ble_eq_true rfl, Nat.le_of_ble_eq_true rfl⟩ (fun u61 H locs hp hP hD hS => ?_)
                  have hP : va_P D vwCl [(q0, .inr (7, [.int (u61.1 0), .int (u61.1 1), .int (u61.1 2), .int s0_3])), (q1, .inr (2, [.int s1_0, .int s1_1, .int s1_2, .int s1_3, .int s1_4, .ref q2, .ref q3, .ref q5, .ref q6, .ref q7, .ref q8, .ref q9, .ref q10])), (q2, .inl (cA 0, 9, .inl f2)), (q3, .inl (cA 0, 9, .inl f3)), (q4, .inl (cA 0, 9, .inl f4)), (q5, .inl (cA 0, 9, .inl f5))] H := hP
                  have hD : va_D A [(q0, .inr (7, [.int (u61.1 0), .int (u61.1 1), .int (u61.1 2), .int s0_3])), (q1, .inr (2, [.int s1_0, .int s1_1, .int s1_2, .int s1_3, .int s1_4, .ref q2, .ref q3, .ref q5, .ref q6, .ref q7, .ref q8, .ref q9, .ref q10])), (q2, .inl (cA 0, 9, .inl f2)), (q3, .inl (cA 0, 9, .inl f3)), (q4, .inl (cA 0, 9, .inl f4)), (q5, .inl (cA 0, 9, .inl f5))] := hD
                  exact jn27 (u61.1 0) (u61.1 1) (u61.1 2) _ _ _   (hP.sub [0, 4, 5, 1, 2, 3] rfl) (hD.sub [0, 4, 5, 1, 2, 3] (by decide) rfl) hS (lv_sub hl [0, 1, 2, 3, 4, 5, 6, 7, 8, 9] rfl)
            · have h63 : 3 ≤ r46.toInt := rg_le_lo (rg_nlt c47) (by decide : (3 : Int) ≤ (3 : Int32).toInt)
              refine lv_aload_n hx hb dX7_extend_67 rfl (lv_at hl 3 rfl) ?_
              refine lv_iload hx hb dX7_extend_68 (lv_at hl 7 rfl) ?_
              refine lv_iload hx hb dX7_extend_70 (lv_at hl 8 rfl) ?_
              refine lv_iconst (v := 1) hx hb dX7_extend_72 (by decide) ?_
              refine lv_iload hx hb dX7_extend_73 (lv_at hl 2 rfl) ?_
              refine rg_shl1 (lo := 1) (hi := 256) hx hb dX7_extend_75 l6 h16 (by decide) (fun v64 ev64 lv64 uv64 => ?_)
              refine lv_ior hx hb dX7_extend_76 ?_
              refine lv_topi (fun v65 ev65 => ?_)
              refine lv_iload hx hb dX7_extend_77 (lv_at hl 0 rfl) ?_
              refine ms_cVv (qc := (RX7, TX7, 4)) (wc := [(q0, .inr (7, [.int x8, .int x9, .int x10, .int s0_3]))]) (wr := [(q4, .inl (cA 0, 9, .inl f4)), (q5, .inl (cA 0, 9, .inl f5)), (q1, .inr (2, [.int s1_0, .int s1_1, .int s1_2, .int s1_3, .int s1_4, .ref q2, .ref q3, .ref q5, .ref q6, .ref q7, .ref q8, .ref q9, .ref q10])), (q2, .inl (cA 0, 9, .inl f2)), (q3, .inl (cA 0, 9, .inl f3))]) ⟨hx, hb, hml, hown, hts⟩ hE (kX7_compare_1 l D cA q0 x8 x9 x10 s0_3 a1 v65 v23 (rg_le s0_3l (by decide)) (rg_ge s0_3u (by decide)) (rg_le a1l (by decide)) (rg_ge a1u (by decide))) (cwV 3 hts gX7_extend_X7_compare rfl rfl rfl (by decide +kernel) ⟨Nat.le_of_ble_eq_true rfl, Nat.le_of_ble_eq_true rfl⟩) hP hD hS hA [0] [1, 2, 3, 4, 5] rfl rfl rfl rfl (by decide) 0 7 rfl rfl rfl hl.1 rfl (Nat.le_of_ble_eq_true rfl) dX7_extend_79 ⟨Nat.le_of_ble_eq_true rfl, Nat.le_of_ble_eq_true rfl⟩ (fun u66 H locs hp hP hD hS => ?_)
              have hP : va_P D vwCl [(q4, .inl (cA 0, 9, .inl f4)), (q5, .inl (cA 0, 9, .inl f5)), (q1, .inr (2, [.int s1_0, .int s1_1, .int s1_2, .int s1_3, .int s1_4, .ref q2, .ref q3, .ref q5, .ref q6, .ref q7, .ref q8, .ref q9, .ref q10])), (q2, .inl (cA 0, 9, .inl f2)), (q3, .inl (cA 0, 9, .inl f3)), (q0, .inr (7, [.int (u66.1 0), .int (u66.1 1), .int (u66.1 2), .int s0_3]))] H := hP
              have hD : va_D A [(q4, .inl (cA 0, 9, .inl f4)), (q5, .inl (cA 0, 9, .inl f5)), (q1, .inr (2, [.int s1_0, .int s1_1, .int s1_2, .int s1_3, .int s1_4, .ref q2, .ref q3, .ref q5, .ref q6, .ref q7, .ref q8, .ref q9, .ref q10])), (q2, .inl (cA 0, 9, .inl f2)), (q3, .inl (cA 0, 9, .inl f3)), (q0, .inr (7, [.int (u66.1 0), .int (u66.1 1), .int (u66.1 2), .int s0_3]))] := hD
              refine lv_goto (tgt := 128) hx hb dX7_extend_82 (by decide) ?_
              exact jn27 (u66.1 0) (u66.1 1) (u66.1 2) _ _ _   (hP.sub [5, 0, 1, 2, 3, 4] rfl) (hD.sub [5, 0, 1, 2, 3, 4] (by decide) rfl) hS (lv_sub hl [0, 1, 2, 3, 4, 5, 6, 7, 8, 9] rfl)
    exact lp11 10 0 s0_0 s0_1 s0_2 _ _ _ (rg_le (by decide : (0 : Int) ≤ (0 : Int32).toInt) (by decide)) (rg_ge (by decide : (0 : Int32).toInt ≤ 0) (by decide))  (rg_mi (by decide : (0 : Int) ≤ (0 : Int32).toInt) (by decide)) hP hD hS (lv_sub hl [0, 1, 2, 3, 4, 5, 6, 7] rfl)
  · have h68 : 7 ≤ r2.toInt := rg_lt_lo (rg_nle c3) (by decide : (6 : Int) ≤ (6 : Int32).toInt) (by decide)
    exact ms_vret hx hb hr hlk (fun i => [s0_0, s0_1, s0_2].getD i 0, fun i => [].getD i ms_z, fun i => [].getD i 0) trivial hP hD hS (Nat.le_of_ble_eq_true rfl) (Nat.le_of_ble_eq_true rfl) dX7_extend_10
set_option maxHeartbeats 4000000 in
set_option maxRecDepth 100000 in
theorem kX7_extend_4 (l : Launch) (D : va_G) (cA : Nat → ClassId) (q0 q1 q2 q3 q4 q5 q6 q7 q8 q9 q10 : Nat) (s0_0 : Int32) (s0_1 : Int32) (s0_2 : Int32) (s0_3 : Int32) (s1_0 : Int32) (s1_1 : Int32) (s1_2 : Int32) (s1_3 : Int32) (s1_4 : Int32) (f2 : Nat → Int32) (f3 : Nat → Int32) (f4 : Nat → Int32) (f5 : Nat → Int32) (a0 : Int32) (a1 : Int32) (a2 : Int32) (a3 : Int32) (s0_3l : 0 ≤ s0_3.toInt) (s0_3u : s0_3.toInt ≤ 5) (s1_0l : 0 ≤ s1_0.toInt) (s1_0u : s1_0.toInt ≤ 6) (s1_1l : 0 ≤ s1_1.toInt) (s1_1u : s1_1.toInt ≤ 4) (s1_2l : 0 ≤ s1_2.toInt) (s1_2u : s1_2.toInt ≤ 9) (s1_3l : 0 ≤ s1_3.toInt) (s1_3u : s1_3.toInt ≤ 9) (s1_4l : 0 ≤ s1_4.toInt) (s1_4u : s1_4.toInt ≤ 6) (f2_0 : rg_S f2 0 9 0 5) (f3_0 : rg_S f3 0 9 0 5) (f5_0 : rg_S f5 0 9 0 99) (a0l : 0 ≤ a0.toInt) (a0u : a0.toInt ≤ 5) (a1l : 0 ≤ a1.toInt) (a1u : a1.toInt ≤ 63) (hpf : ms_pc a1 = 3) : ms_Mv l yX7_extend wsX7_extend ({ frames := 4, cells := 0, slots := 0, locals := 111 } : Room) D cA [.ref q0, .ref q1, .ref q4, .int a0, .int a1, .int a2, .int a3] [(q0, .inr (7, [.int s0_0, .int s0_1, .int s0_2, .int s0_3])), (q1, .inr (2, [.int s1_0, .int s1_1, .int s1_2, .int s1_3, .int s1_4, .ref q2, .ref q3, .ref q5, .ref q6, .ref q7, .ref q8, .ref q9, .ref q10])), (q2, .inl (cA 0, 9, .inl f2)), (q3, .inl (cA 0, 9, .inl f3)), (q4, .inl (cA 0, 9, .inl f4)), (q5, .inl (cA 0, 9, .inl f5))] (fun (u : ((Nat → Int32) × (Nat → Nat → Int32) × (Nat → Int64))) => True) (fun (u : ((Nat → Int32) × (Nat → Nat → Int32) × (Nat → Int64))) => [(q0, .inr (7, [.int (u.1 0), .int (u.1 1), .int (u.1 2), .int s0_3])), (q1, .inr (2, [.int s1_0, .int s1_1, .int s1_2, .int s1_3, .int s1_4, .ref q2, .ref q3, .ref q5, .ref q6, .ref q7, .ref q8, .ref q9, .ref q10])), (q2, .inl (cA 0, 9, .inl f2)), (q3, .inl (cA 0, 9, .inl f3)), (q4, .inl (cA 0, 9, .inl f4)), (q5, .inl (cA 0, 9, .inl f5))]) := by
  refine ms_Mv_of (cc := cX7_extend) (maxL := 10) (ret := none) (by decide) rfl (Nat.le_of_ble_eq_true rfl) ?_
  intro p e s m args below meth c A ls hB hE hA hP hD hS hl
  obtain ⟨hx, hb, hr, hml, hown, hts, hlk, hnm⟩ := hB
  have hown : s.vm.findClass RX7 = some m.cls := hown
  have hnX2 : ∀ w ∈ u_ws RX2 TX2 13, w ∈ wsX7_extend := fun _ h => List.mem_cons_of_mem _ (List.mem_append_left _ (List.mem_append_right _ (h)))
  have hnX7 : ∀ w ∈ u_ws RX7 TX7 4, w ∈ wsX7_extend := fun _ h => List.mem_cons_of_mem _ (List.mem_append_right _ (h))
  have hl : lv_has ls 10 [(0, .ref q0), (1, .ref q1), (2, .ref q4), (3, .int a0), (4, .int a1), (5, .int a2), (6, .int a3)] := hl
  refine lv_iload hx hb dX7_extend_0 (lv_at hl 4 rfl) ?_
  refine ms_cSi (wc := []) (wr := [(q0, .inr (7, [.int s0_0, .int s0_1, .int s0_2, .int s0_3])), (q1, .inr (2, [.int s1_0, .int s1_1, .int s1_2, .int s1_3, .int s1_4, .ref q2, .ref q3, .ref q5, .ref q6, .ref q7, .ref q8, .ref q9, .ref q10])), (q2, .inl (cA 0, 9, .inl f2)), (q3, .inl (cA 0, 9, .inl f3)), (q4, .inl (cA 0, 9, .inl f4)), (q5, .inl (cA 0, 9, .inl f5))]) ⟨hx, hb, hml, hown, hts⟩ hE (kJ6_bitCount_0f7a4_1 l D cA a1) (va_cwS 1 hts gX7_extend_J6_bitCount_0f7a4 rfl rfl rfl (by decide +kernel) ⟨Nat.le_of_ble_eq_true rfl, Nat.le_of_ble_eq_true rfl⟩) hP hD hS hA [] [0, 1, 2, 3, 4, 5] rfl rfl rfl rfl (by decide) rfl hl.1 rfl (Nat.le_of_ble_eq_true rfl) dX7_extend_2 ⟨Nat.le_of_ble_eq_true rfl, Nat.le_of_ble_eq_true rfl⟩ (fun r2 u1 H locs hp hP hD hS => ?_)
  obtain ⟨⟨r2l, r2u⟩, exu1, -⟩ := hp
  have hP : va_P D vwCl [(q0, .inr (7, [.int s0_0, .int s0_1, .int s0_2, .int s0_3])), (q1, .inr (2, [.int s1_0, .int s1_1, .int s1_2, .int s1_3, .int s1_4, .ref q2, .ref q3, .ref q5, .ref q6, .ref q7, .ref q8, .ref q9, .ref q10])), (q2, .inl (cA 0, 9, .inl f2)), (q3, .inl (cA 0, 9, .inl f3)), (q4, .inl (cA 0, 9, .inl f4)), (q5, .inl (cA 0, 9, .inl f5))] H := hP
  have hD : va_D A [(q0, .inr (7, [.int s0_0, .int s0_1, .int s0_2, .int s0_3])), (q1, .inr (2, [.int s1_0, .int s1_1, .int s1_2, .int s1_3, .int s1_4, .ref q2, .ref q3, .ref q5, .ref q6, .ref q7, .ref q8, .ref q9, .ref q10])), (q2, .inl (cA 0, 9, .inl f2)), (q3, .inl (cA 0, 9, .inl f3)), (q4, .inl (cA 0, 9, .inl f4)), (q5, .inl (cA 0, 9, .inl f5))] := hD
  refine lv_bipush (v := 6) hx hb dX7_extend_5 (by decide) ?_
  refine lv_icmp_le (tgt := 11) hx hb dX7_extend_7 (by decide) (fun c3 => ?_) (fun c3 => ?_)
  · have h4 : r2.toInt ≤ 6 := rg_le_hi c3 (by decide : (6 : Int32).toInt ≤ 6)
    refine lv_iconst (v := 0) hx hb dX7_extend_11 (by decide) ?_
    refine lv_istore (lv' := [(7, .int 0), (0, .ref q0), (1, .ref q1), (2, .ref q4), (3, .int a0), (4, .int a1), (5, .int a2), (6, .int a3)]) hx hb dX7_extend_12 hl (by decide) rfl (fun ls hl => ?_)
    have lp11 : ∀ (n12 : Nat) (x5 : Int32) (x8 : Int32) (x9 : Int32) (x10 : Int32) (H : Heap) (locs : List Loc) (ls : Array Slot), 0 ≤ x5.toInt → x5.toInt ≤ 9 → 9 + 1 ≤ x5.toInt + (n12 : Int) → va_P D vwCl [(q0, .inr (7, [.int x8, .int x9, .int x10, .int s0_3])), (q1, .inr (2, [.int s1_0, .int s1_1, .int s1_2, .int s1_3, .int s1_4, .ref q2, .ref q3, .ref q5, .ref q6, .ref q7, .ref q8, .ref q9, .ref q10])), (q2, .inl (cA 0, 9, .inl f2)), (q3, .inl (cA 0, 9, .inl f3)), (q4, .inl (cA 0, 9, .inl f4)), (q5, .inl (cA 0, 9, .inl f5))] H → va_D A [(q0, .inr (7, [.int x8, .int x9, .int x10, .int s0_3])), (q1, .inr (2, [.int s1_0, .int s1_1, .int s1_2, .int s1_3, .int s1_4, .ref q2, .ref q3, .ref q5, .ref q6, .ref q7, .ref q8, .ref q9, .ref q10])), (q2, .inl (cA 0, 9, .inl f2)), (q3, .inl (cA 0, 9, .inl f3)), (q4, .inl (cA 0, 9, .inl f4)), (q5, .inl (cA 0, 9, .inl f5))] → va_S A s.heap H locs → lv_has ls 10 [(7, .int x5), (0, .ref q0), (1, .ref q1), (2, .ref q4), (3, .int a0), (4, .int a1), (5, .int a2), (6, .int a3)] → W p l e ({ frames := 4, cells := 0, slots := 0, locals := 111 } : Room) s m args below meth c H locs 0 0 (MQ below (ms_Qv D A (fun (u : ((Nat → Int32) × (Nat → Nat → Int32) × (Nat → Int64))) => True) (fun (u : ((Nat → Int32) × (Nat → Nat → Int32) × (Nat → Int64))) => [(q0, .inr (7, [.int (u.1 0), .int (u.1 1), .int (u.1 2), .int s0_3])), (q1, .inr (2, [.int s1_0, .int s1_1, .int s1_2, .int s1_3, .int s1_4, .ref q2, .ref q3, .ref q5, .ref q6, .ref q7, .ref q8, .ref q9, .ref q10])), (q2, .inl (cA 0, 9, .inl f2)), (q3, .inl (cA 0, 9, .inl f3)), (q4, .inl (cA 0, 9, .inl f4)), (q5, .inl (cA 0, 9, .inl f5))])) args s 0 0 A) (F0 m 14 ls []) := by
      intro n12
      induction n12 with
      | zero => intro x5 x8 x9 x10 H locs ls l6 u7  hm14; exact (rg_m0 hm14 u7).elim
      | succ n12 ih13 =>
        intro x5 x8 x9 x10 H locs ls l6 u7  hm14 hP hD hS hl
        refine lv_iload hx hb dX7_extend_14 (lv_at hl 0 rfl) ?_
        refine lv_aload_n hx hb dX7_extend_16 rfl (lv_at hl 2 rfl) ?_
        refine va_get (D := D) (ci := 2) (v := .int s1_3) (C := RX2) (T := TX2) (N := 13) hx hb hts hnX2 hown hE.1 hP 1 rfl rfl 3 (by decide) (hts (.fieldLink RX7 39 "MovedStones$Land" "roads" "I") (List.mem_cons_of_mem _ (List.mem_append_left _ (List.mem_append_left _ (List.mem_append_left _ (List.mem_of_getElem? (i := 0) rfl)))))) (fun _ h9 => h9) rfl dX7_extend_17 ?_
        refine lv_icmp_ge (tgt := 134) hx hb dX7_extend_20 (by decide) (fun c15 => ?_) (fun c15 => ?_)
        · exact ms_vret hx hb hr hlk (fun i => [x8, x9, x10].getD i 0, fun i => [].getD i ms_z, fun i => [].getD i 0) trivial hP hD hS (Nat.le_of_ble_eq_true rfl) (Nat.le_of_ble_eq_true rfl) dX7_extend_134
        · have h16 : x5.toInt ≤ 8 := rg_lt_hi (rg_nle c15) s1_3u (by decide)
          have h17 : 1 ≤ s1_3.toInt := rg_lt_lo (rg_nle c15) l6 (by decide)
          refine lv_aload_n hx hb dX7_extend_23 rfl (lv_at hl 2 rfl) ?_
          refine lv_iload hx hb dX7_extend_24 (lv_at hl 0 rfl) ?_
          refine lv_iload_n hx hb dX7_extend_26 rfl (lv_at hl 4 rfl) ?_
          refine ms_cVi (qc := (RX2, TX2, 13)) (wc := [(q1, .inr (2, [.int s1_0, .int s1_1, .int s1_2, .int s1_3, .int s1_4, .ref q2, .ref q3, .ref q5, .ref q6, .ref q7, .ref q8, .ref q9, .ref q10])), (q2, .inl (cA 0, 9, .inl f2)), (q3, .inl (cA 0, 9, .inl f3))]) (wr := [(q0, .inr (7, [.int x8, .int x9, .int x10, .int s0_3])), (q4, .inl (cA 0, 9, .inl f4)), (q5, .inl (cA 0, 9, .inl f5))]) ⟨hx, hb, hml, hown, hts⟩ hE (kX2_otherEnd_1 l D cA q1 q2 q3 q5 q6 q7 q8 q9 q10 s1_0 s1_1 s1_2 s1_3 s1_4 f2 f3 x5 a0 (rg_le s1_0l (by decide)) (rg_ge s1_0u (by decide)) (rg_le s1_1l (by decide)) (rg_ge s1_1u (by decide)) (rg_le s1_2l (by decide)) (rg_ge s1_2u (by decide)) (rg_le h17 (by decide)) (rg_ge s1_3u (by decide)) (rg_le s1_4l (by decide)) (rg_ge s1_4u (by decide)) (rg_Smono f2_0 (by decide) (by decide) (by decide) (by decide)) (rg_Smono f3_0 (by decide) (by decide) (by decide) (by decide)) (rg_le l6 (by decide)) (rg_ge h16 (by decide))) (cwV 2 hts gX7_extend_X2_otherEnd rfl rfl rfl (by decide +kernel) ⟨Nat.le_of_ble_eq_true rfl, Nat.le_of_ble_eq_true rfl⟩) hP hD hS hA [1, 2, 3] [0, 4, 5] rfl rfl rfl rfl (by decide) 0 2 rfl rfl rfl hl.1 rfl (Nat.le_of_ble_eq_true rfl) dX7_extend_27 ⟨Nat.le_of_ble_eq_true rfl, Nat.le_of_ble_eq_true rfl⟩ (fun r19 u18 H locs hp hP hD hS => ?_)
          obtain ⟨⟨r19l, r19u⟩, exu18, -⟩ := hp
          have hP : va_P D vwCl [(q0, .inr (7, [.int x8, .int x9, .int x10, .int s0_3])), (q4, .inl (cA 0, 9, .inl f4)), (q5, .inl (cA 0, 9, .inl f5)), (q1, .inr (2, [.int s1_0, .int s1_1, .int s1_2, .int s1_3, .int s1_4, .ref q2, .ref q3, .ref q5, .ref q6, .ref q7, .ref q8, .ref q9, .ref q10])), (q2, .inl (cA 0, 9, .inl f2)), (q3, .inl (cA 0, 9, .inl f3))] H := hP
          have hD : va_D A [(q0, .inr (7, [.int x8, .int x9, .int x10, .int s0_3])), (q4, .inl (cA 0, 9, .inl f4)), (q5, .inl (cA 0, 9, .inl f5)), (q1, .inr (2, [.int s1_0, .int s1_1, .int s1_2, .int s1_3, .int s1_4, .ref q2, .ref q3, .ref q5, .ref q6, .ref q7, .ref q8, .ref q9, .ref q10])), (q2, .inl (cA 0, 9, .inl f2)), (q3, .inl (cA 0, 9, .inl f3))] := hD
          refine lv_istore (lv' := [(8, .int r19), (7, .int x5), (0, .ref q0), (1, .ref q1), (2, .ref q4), (3, .int a0), (4, .int a1), (5, .int a2), (6, .int a3)]) hx hb dX7_extend_30 hl (by decide) rfl (fun ls hl => ?_)
          refine lv_iload hx hb dX7_extend_32 (lv_at hl 8 rfl) ?_
          refine lv_aload_n hx hb dX7_extend_34 rfl (lv_at hl 4 rfl) ?_
          refine lv_iload hx hb dX7_extend_35 (lv_at hl 1 rfl) ?_
          refine rg_iald0 hx hb hE hP (q0 := 1) rfl l6 h16 (by decide) dX7_extend_37 (fun v20 ev20 => ?_)
          refine lv_iadd hx hb dX7_extend_38 ?_
          refine lv_topi (fun v21 ev21 => ?_)
          refine lv_aload_n hx hb dX7_extend_39 rfl (lv_at hl 3 rfl) ?_
          refine va_get (D := D) (ci := 2) (v := .ref q5) (C := RX2) (T := TX2) (N := 13) hx hb hts hnX2 hown hE.1 hP 3 rfl rfl 7 (by decide) (hts (.fieldLink RX7 46 "MovedStones$Land" "feet" "[I") (List.mem_cons_of_mem _ (List.mem_append_left _ (List.mem_append_left _ (List.mem_append_left _ (List.mem_of_getElem? (i := 1) rfl)))))) (fun _ h9 => h9) rfl dX7_extend_40 ?_
          refine lv_iload hx hb dX7_extend_43 (lv_at hl 1 rfl) ?_
          refine rg_iald hx hb hE hP (q0 := 2) rfl l6 h16 f5_0 (by decide) dX7_extend_45 (fun v22 ev22 lv22 uv22 => ?_)
          refine lv_isub hx hb dX7_extend_46 ?_
          refine lv_topi (fun v23 ev23 => ?_)
          refine lv_istore (lv' := [(9, .int v23), (8, .int r19), (7, .int x5), (0, .ref q0), (1, .ref q1), (2, .ref q4), (3, .int a0), (4, .int a1), (5, .int a2), (6, .int a3)]) hx hb dX7_extend_47 hl (by decide) rfl (fun ls hl => ?_)
          refine lv_iload hx hb dX7_extend_49 (lv_at hl 1 rfl) ?_
          refine lv_aload_n hx hb dX7_extend_51 rfl (lv_at hl 3 rfl) ?_
          refine va_get (D := D) (ci := 7) (v := .int s0_3) (C := RX7) (T := TX7) (N := 4) hx hb hts hnX7 hown hE.1 hP 0 rfl rfl 3 (by decide) (hts (.fieldLink RX7 26 "MovedStones$Rounds" "start" "I") (List.mem_cons_of_mem _ (List.mem_append_left _ (List.mem_append_left _ (List.mem_append_left _ (List.mem_of_getElem? (i := 2) rfl)))))) (fun _ h9 => h9) rfl dX7_extend_52 ?_
          have jn27 : ∀ (x24 : Int32) (x25 : Int32) (x26 : Int32) (H : Heap) (locs : List Loc) (ls : Array Slot), va_P D vwCl [(q0, .inr (7, [.int x24, .int x25, .int x26, .int s0_3])), (q4, .inl (cA 0, 9, .inl f4)), (q5, .inl (cA 0, 9, .inl f5)), (q1, .inr (2, [.int s1_0, .int s1_1, .int s1_2, .int s1_3, .int s1_4, .ref q2, .ref q3, .ref q5, .ref q6, .ref q7, .ref q8, .ref q9, .ref q10])), (q2, .inl (cA 0, 9, .inl f2)), (q3, .inl (cA 0, 9, .inl f3))] H → va_D A [(q0, .inr (7, [.int x24, .int x25, .int x26, .int s0_3])), (q4, .inl (cA 0, 9, .inl f4)), (q5, .inl (cA 0, 9, .inl f5)), (q1, .inr (2, [.int s1_0, .int s1_1, .int s1_2, .int s1_3, .int s1_4, .ref q2, .ref q3, .ref q5, .ref q6, .ref q7, .ref q8, .ref q9, .ref q10])), (q2, .inl (cA 0, 9, .inl f2)), (q3, .inl (cA 0, 9, .inl f3))] → va_S A s.heap H locs → lv_has ls 10 [(9, .int v23), (8, .int r19), (7, .int x5), (0, .ref q0), (1, .ref q1), (2, .ref q4), (3, .int a0), (4, .int a1), (5, .int a2), (6, .int a3)] → W p l e ({ frames := 4, cells := 0, slots := 0, locals := 111 } : Room) s m args below meth c H locs 0 0 (MQ below (ms_Qv D A (fun (u : ((Nat → Int32) × (Nat → Nat → Int32) × (Nat → Int64))) => True) (fun (u : ((Nat → Int32) × (Nat → Nat → Int32) × (Nat → Int64))) => [(q0, .inr (7, [.int (u.1 0), .int (u.1 1), .int (u.1 2), .int s0_3])), (q1, .inr (2, [.int s1_0, .int s1_1, .int s1_2, .int s1_3, .int s1_4, .ref q2, .ref q3, .ref q5, .ref q6, .ref q7, .ref q8, .ref q9, .ref q10])), (q2, .inl (cA 0, 9, .inl f2)), (q3, .inl (cA 0, 9, .inl f3)), (q4, .inl (cA 0, 9, .inl f4)), (q5, .inl (cA 0, 9, .inl f5))])) args s 0 0 A) (F0 m 128 ls []) := by
            intro x24 x25 x26 H locs ls   hP hD hS hl
            refine rg_iinc (lo := 1) (hi := 9) (fun z => [(7, .int z), (9, .int v23), (8, .int r19), (0, .ref q0), (1, .ref q1), (2, .ref q4), (3, .int a0), (4, .int a1), (5, .int a2), (6, .int a3)]) hx hb dX7_extend_128 hl (k := 2) rfl (by decide) l6 h16 (by decide) (fun _ => rfl) (fun v28 ev28 lv28 uv28 ls hl => ?_)
            have hl : lv_has ls 10 [(7, .int v28), (9, .int v23), (8, .int r19), (0, .ref q0), (1, .ref q1), (2, .ref q4), (3, .int a0), (4, .int a1), (5, .int a2), (6, .int a3)] := hl
            refine lv_goto (tgt := 14) hx hb dX7_extend_131 (by decide) ?_
            exact ih13 v28 x24 x25 x26 _ _ _ (rg_le lv28 (by decide)) (rg_ge uv28 (by decide))  (rg_ms hm14 ev28 (by decide)) (hP.sub [0, 3, 4, 5, 1, 2] rfl) (hD.sub [0, 3, 4, 5, 1, 2] (by decide) rfl) hS (lv_sub hl [0, 3, 4, 5, 6, 7, 8, 9] rfl)
          refine lv_icmp_ne (tgt := 85) hx hb dX7_extend_55 (by decide) (fun c29 => ?_) (fun c29 => ?_)
          · refine lv_iload hx hb dX7_extend_85 (lv_at hl 1 rfl) ?_
            refine lv_aload_n hx hb dX7_extend_87 rfl (lv_at hl 3 rfl) ?_
            refine va_get (D := D) (ci := 7) (v := .int s0_3) (C := RX7) (T := TX7) (N := 4) hx hb hts hnX7 hown hE.1 hP 0 rfl rfl 3 (by decide) (hts (.fieldLink RX7 26 "MovedStones$Rounds" "start" "I") (List.mem_cons_of_mem _ (List.mem_append_left _ (List.mem_append_left _ (List.mem_append_left _ (List.mem_of_getElem? (i := 2) rfl)))))) (fun _ h9 => h9) rfl dX7_extend_88 ?_
            refine lv_icmp_le (tgt := 128) hx hb dX7_extend_91 (by decide) (fun c30 => ?_) (fun c30 => ?_)
            · exact jn27 x8 x9 x10 _ _ _   hP hD hS (lv_sub hl [0, 1, 2, 3, 4, 5, 6, 7, 8, 9] rfl)
            · have h31 : s0_3.toInt ≤ 4 := rg_lt_hi (rg_nle c30) r19u (by decide)
              have h32 : 1 ≤ r19.toInt := rg_lt_lo (rg_nle c30) s0_3l (by decide)
              refine lv_iload hx hb dX7_extend_94 (lv_at hl 7 rfl) ?_
              refine lv_iload hx hb dX7_extend_96 (lv_at hl 1 rfl) ?_
              refine lv_ishr hx hb dX7_extend_98 ?_
              refine lv_topi (fun v33 ev33 => ?_)
              refine lv_iconst (v := 1) hx hb dX7_extend_99 (by decide) ?_
              refine rg_iand1 hx hb dX7_extend_100 (fun v34 ev34 lv34 uv34 => ?_)
              refine lv_if_ne (tgt := 128) hx hb dX7_extend_101 (by decide) (fun c35 => ?_) (fun c35 => ?_)
              · have h36 : 1 ≤ v34.toInt := rg_ne_lo c35 lv34 (by decide : (0 : Int) ≤ (0 : Int32).toInt) (by decide : (0 : Int32).toInt ≤ 0) (by decide)
                exact jn27 x8 x9 x10 _ _ _   hP hD hS (lv_sub hl [0, 1, 2, 3, 4, 5, 6, 7, 8, 9] rfl)
              · have h37 : v34.toInt ≤ 0 := rg_eq_hi c35 (by decide : (0 : Int32).toInt ≤ 0)
                refine lv_aload_n hx hb dX7_extend_104 rfl (lv_at hl 3 rfl) ?_
                refine lv_aload_n hx hb dX7_extend_105 rfl (lv_at hl 4 rfl) ?_
                refine lv_aload_n hx hb dX7_extend_106 rfl (lv_at hl 5 rfl) ?_
                refine lv_iload hx hb dX7_extend_107 (lv_at hl 1 rfl) ?_
                refine lv_iload hx hb dX7_extend_109 (lv_at hl 7 rfl) ?_
                refine lv_iconst (v := 1) hx hb dX7_extend_111 (by decide) ?_
                refine lv_iload hx hb dX7_extend_112 (lv_at hl 1 rfl) ?_
                refine rg_shl1 (lo := 2) (hi := 32) hx hb dX7_extend_114 h32 r19u (by decide) (fun v38 ev38 lv38 uv38 => ?_)
                refine rg_ior (k := 6) (hi := 63) hx hb dX7_extend_115 a1l a1u lv38 uv38 (by decide) (fun v39 ev39 lv39 uv39 => ?_)
                refine lv_iload hx hb dX7_extend_116 (lv_at hl 8 rfl) ?_
                refine lv_iconst (v := 1) hx hb dX7_extend_118 (by decide) ?_
                refine lv_iload hx hb dX7_extend_119 (lv_at hl 2 rfl) ?_
                refine rg_shl1 (lo := 1) (hi := 256) hx hb dX7_extend_121 l6 h16 (by decide) (fun v40 ev40 lv40 uv40 => ?_)
                refine lv_ior hx hb dX7_extend_122 ?_
                refine lv_topi (fun v41 ev41 => ?_)
                refine lv_iload hx hb dX7_extend_123 (lv_at hl 0 rfl) ?_
                refine ms_cVv (qc := (RX7, TX7, 4)) (wc := [(q0, .inr (7, [.int x8, .int x9, .int x10, .int s0_3])), (q1, .inr (2, [.int s1_0, .int s1_1, .int s1_2, .int s1_3, .int s1_4, .ref q2, .ref q3, .ref q5, .ref q6, .ref q7, .ref q8, .ref q9, .ref q10])), (q2, .inl (cA 0, 9, .inl f2)), (q3, .inl (cA 0, 9, .inl f3)), (q4, .inl (cA 0, 9, .inl f4)), (q5, .inl (cA 0, 9, .inl f5))]) (wr := []) ⟨hx, hb, hml, hown, hts⟩ hE (kX7_extend_3 l D cA q0 q1 q2 q3 q4 q5 q6 q7 q8 q9 q10 x8 x9 x10 s0_3 s1_0 s1_1 s1_2 s1_3 s1_4 f2 f3 f4 f5 r19 v39 v41 v23 (rg_le s0_3l (by decide)) (rg_ge h31 (by decide)) (rg_le s1_0l (by decide)) (rg_ge s1_0u (by decide)) (rg_le s1_1l (by decide)) (rg_ge s1_1u (by decide)) (rg_le s1_2l (by decide)) (rg_ge s1_2u (by decide)) (rg_le h17 (by decide)) (rg_ge s1_3u (by decide)) (rg_le s1_4l (by decide)) (rg_ge s1_4u (by decide)) (rg_Smono f2_0 (by decide) (by decide) (by decide) (by decide)) (rg_Smono f3_0 (by decide) (by decide) (by decide) (by decide)) (rg_Smono f5_0 (by decide) (by decide) (by decide) (by decide)) (rg_le h32 (by decide)) (rg_ge r19u (by decide)) (rg_le lv39 (by decide)) (rg_ge uv39 (by decide)) (ms_pcU (rg_le a1l (by decide)) (rg_ge a1u (by decide)) h32 r19u ev33 ev34 c35 ev38 ev39 hpf)) (cwV 6 hts gX7_extend_X7_extend rfl rfl rfl (by decide +kernel) ⟨Nat.le_of_ble_eq_true rfl, Nat.le_of_ble_eq_true rfl⟩) hP hD hS hA [0, 3, 4, 5, 1, 2] [] rfl rfl rfl rfl (by decide) 0 7 rfl rfl rfl hl.1 rfl (Nat.le_of_ble_eq_true rfl) dX7_extend_125 ⟨Nat.le_of_ble_eq_true rfl, Nat.le_of_ble_eq_true rfl⟩ (fun u42 H locs hp hP hD hS => ?_)
                have hP : va_P D vwCl [(q0, .inr (7, [.int (u42.1 0), .int (u42.1 1), .int (u42.1 2), .int s0_3])), (q1, .inr (2, [.int s1_0, .int s1_1, .int s1_2, .int s1_3, .int s1_4, .ref q2, .ref q3, .ref q5, .ref q6, .ref q7, .ref q8, .ref q9, .ref q10])), (q2, .inl (cA 0, 9, .inl f2)), (q3, .inl (cA 0, 9, .inl f3)), (q4, .inl (cA 0, 9, .inl f4)), (q5, .inl (cA 0, 9, .inl f5))] H := hP
                have hD : va_D A [(q0, .inr (7, [.int (u42.1 0), .int (u42.1 1), .int (u42.1 2), .int s0_3])), (q1, .inr (2, [.int s1_0, .int s1_1, .int s1_2, .int s1_3, .int s1_4, .ref q2, .ref q3, .ref q5, .ref q6, .ref q7, .ref q8, .ref q9, .ref q10])), (q2, .inl (cA 0, 9, .inl f2)), (q3, .inl (cA 0, 9, .inl f3)), (q4, .inl (cA 0, 9, .inl f4)), (q5, .inl (cA 0, 9, .inl f5))] := hD
                exact jn27 (u42.1 0) (u42.1 1) (u42.1 2) _ _ _   (hP.sub [0, 4, 5, 1, 2, 3] rfl) (hD.sub [0, 4, 5, 1, 2, 3] (by decide) rfl) hS (lv_sub hl [0, 1, 2, 3, 4, 5, 6, 7, 8, 9] rfl)
          · have h44 : 0 ≤ r19.toInt := rg_eq_lo c29 s0_3l
            refine lv_iload hx hb dX7_extend_58 (lv_at hl 7 rfl) ?_
            refine ms_cSi (wc := []) (wr := [(q0, .inr (7, [.int x8, .int x9, .int x10, .int s0_3])), (q4, .inl (cA 0, 9, .inl f4)), (q5, .inl (cA 0, 9, .inl f5)), (q1, .inr (2, [.int s1_0, .int s1_1, .int s1_2, .int s1_3, .int s1_4, .ref q2, .ref q3, .ref q5, .ref q6, .ref q7, .ref q8, .ref q9, .ref q10])), (q2, .inl (cA 0, 9, .inl f2)), (q3, .inl (cA 0, 9, .inl f3))]) ⟨hx, hb, hml, hown, hts⟩ hE (kJ6_bitCount_0f7a4_1 l D cA a1) (va_cwS 1 hts gX7_extend_J6_bitCount_0f7a4 rfl rfl rfl (by decide +kernel) ⟨Nat.le_of_ble_eq_true rfl, Nat.le_of_ble_eq_true rfl⟩) hP hD hS hA [] [0, 1, 2, 3, 4, 5] rfl rfl rfl rfl (by decide) rfl hl.1 rfl (Nat.le_of_ble_eq_true rfl) dX7_extend_60 ⟨Nat.le_of_ble_eq_true rfl, Nat.le_of_ble_eq_true rfl⟩ (fun r46 u45 H locs hp hP hD hS => ?_)
            obtain ⟨⟨r46l, r46u⟩, exu45, -⟩ := hp
            have hP : va_P D vwCl [(q0, .inr (7, [.int x8, .int x9, .int x10, .int s0_3])), (q4, .inl (cA 0, 9, .inl f4)), (q5, .inl (cA 0, 9, .inl f5)), (q1, .inr (2, [.int s1_0, .int s1_1, .int s1_2, .int s1_3, .int s1_4, .ref q2, .ref q3, .ref q5, .ref q6, .ref q7, .ref q8, .ref q9, .ref q10])), (q2, .inl (cA 0, 9, .inl f2)), (q3, .inl (cA 0, 9, .inl f3))] H := hP
            have hD : va_D A [(q0, .inr (7, [.int x8, .int x9, .int x10, .int s0_3])), (q4, .inl (cA 0, 9, .inl f4)), (q5, .inl (cA 0, 9, .inl f5)), (q1, .inr (2, [.int s1_0, .int s1_1, .int s1_2, .int s1_3, .int s1_4, .ref q2, .ref q3, .ref q5, .ref q6, .ref q7, .ref q8, .ref q9, .ref q10])), (q2, .inl (cA 0, 9, .inl f2)), (q3, .inl (cA 0, 9, .inl f3))] := hD
            refine lv_iconst (v := 3) hx hb dX7_extend_63 (by decide) ?_
            refine lv_icmp_lt (tgt := 85) hx hb dX7_extend_64 (by decide) (fun c47 => ?_) (fun c47 => ?_)
            · have h48 : r46.toInt ≤ 2 := rg_lt_hi c47 (by decide : (3 : Int32).toInt ≤ 3) (by decide)
              refine lv_iload hx hb dX7_extend_85 (lv_at hl 1 rfl) ?_
              refine lv_aload_n hx hb dX7_extend_87 rfl (lv_at hl 3 rfl) ?_
              refine va_get (D := D) (ci := 7) (v := .int s0_3) (C := RX7) (T := TX7) (N := 4) hx hb hts hnX7 hown hE.1 hP 0 rfl rfl 3 (by decide) (hts (.fieldLink RX7 26 "MovedStones$Rounds" "start" "I") (List.mem_cons_of_mem _ (List.mem_append_left _ (List.mem_append_left _ (List.mem_append_left _ (List.mem_of_getElem? (i := 2) rfl)))))) (fun _ h9 => h9) rfl dX7_extend_88 ?_
              refine lv_icmp_le (tgt := 128) hx hb dX7_extend_91 (by decide) (fun c49 => ?_) (fun c49 => ?_)
              · exact jn27 x8 x9 x10 _ _ _   hP hD hS (lv_sub hl [0, 1, 2, 3, 4, 5, 6, 7, 8, 9] rfl)
              · have h50 : s0_3.toInt ≤ 4 := rg_lt_hi (rg_nle c49) r19u (by decide)
                have h51 : 1 ≤ r19.toInt := rg_lt_lo (rg_nle c49) s0_3l (by decide)
                refine lv_iload hx hb dX7_extend_94 (lv_at hl 7 rfl) ?_
                refine lv_iload hx hb dX7_extend_96 (lv_at hl 1 rfl) ?_
                refine lv_ishr hx hb dX7_extend_98 ?_
                refine lv_topi (fun v52 ev52 => ?_)
                refine lv_iconst (v := 1) hx hb dX7_extend_99 (by decide) ?_
                refine rg_iand1 hx hb dX7_extend_100 (fun v53 ev53 lv53 uv53 => ?_)
                refine lv_if_ne (tgt := 128) hx hb dX7_extend_101 (by decide) (fun c54 => ?_) (fun c54 => ?_)
                · have h55 : 1 ≤ v53.toInt := rg_ne_lo c54 lv53 (by decide : (0 : Int) ≤ (0 : Int32).toInt) (by decide : (0 : Int32).toInt ≤ 0) (by decide)
                  exact jn27 x8 x9 x10 _ _ _   hP hD hS (lv_sub hl [0, 1, 2, 3, 4, 5, 6, 7, 8, 9] rfl)
                · have h56 : v53.toInt ≤ 0 := rg_eq_hi c54 (by decide : (0 : Int32).toInt ≤ 0)
                  refine lv_aload_n hx hb dX7_extend_104 rfl (lv_at hl 3 rfl) ?_
                  refine lv_aload_n hx hb dX7_extend_105 rfl (lv_at hl 4 rfl) ?_
                  refine lv_aload_n hx hb dX7_extend_106 rfl (lv_at hl 5 rfl) ?_
                  refine lv_iload hx hb dX7_extend_107 (lv_at hl 1 rfl) ?_
                  refine lv_iload hx hb dX7_extend_109 (lv_at hl 7 rfl) ?_
                  refine lv_iconst (v := 1) hx hb dX7_extend_111 (by decide) ?_
                  refine lv_iload hx hb dX7_extend_112 (lv_at hl 1 rfl) ?_
                  refine rg_shl1 (lo := 2) (hi := 32) hx hb dX7_extend_114 h51 r19u (by decide) (fun v57 ev57 lv57 uv57 => ?_)
                  refine rg_ior (k := 6) (hi := 63) hx hb dX7_extend_115 a1l a1u lv57 uv57 (by decide) (fun v58 ev58 lv58 uv58 => ?_)
                  refine lv_iload hx hb dX7_extend_116 (lv_at hl 8 rfl) ?_
                  refine lv_iconst (v := 1) hx hb dX7_extend_118 (by decide) ?_
                  refine lv_iload hx hb dX7_extend_119 (lv_at hl 2 rfl) ?_
                  refine rg_shl1 (lo := 1) (hi := 256) hx hb dX7_extend_121 l6 h16 (by decide) (fun v59 ev59 lv59 uv59 => ?_)
                  refine lv_ior hx hb dX7_extend_122 ?_
                  refine lv_topi (fun v60 ev60 => ?_)
                  refine lv_iload hx hb dX7_extend_123 (lv_at hl 0 rfl) ?_
                  refine ms_cVv (qc := (RX7, TX7, 4)) (wc := [(q0, .inr (7, [.int x8, .int x9, .int x10, .int s0_3])), (q1, .inr (2, [.int s1_0, .int s1_1, .int s1_2, .int s1_3, .int s1_4, .ref q2, .ref q3, .ref q5, .ref q6, .ref q7, .ref q8, .ref q9, .ref q10])), (q2, .inl (cA 0, 9, .inl f2)), (q3, .inl (cA 0, 9, .inl f3)), (q4, .inl (cA 0, 9, .inl f4)), (q5, .inl (cA 0, 9, .inl f5))]) (wr := []) ⟨hx, hb, hml, hown, hts⟩ hE (kX7_extend_3 l D cA q0 q1 q2 q3 q4 q5 q6 q7 q8 q9 q10 x8 x9 x10 s0_3 s1_0 s1_1 s1_2 s1_3 s1_4 f2 f3 f4 f5 r19 v58 v60 v23 (rg_le s0_3l (by decide)) (rg_ge h50 (by decide)) (rg_le s1_0l (by decide)) (rg_ge s1_0u (by decide)) (rg_le s1_1l (by decide)) (rg_ge s1_1u (by decide)) (rg_le s1_2l (by decide)) (rg_ge s1_2u (by decide)) (rg_le h17 (by decide)) (rg_ge s1_3u (by decide)) (rg_le s1_4l (by decide)) (rg_ge s1_4u (by decide)) (rg_Smono f2_0 (by decide) (by decide) (by decide) (by decide)) (rg_Smono f3_0 (by decide) (by decide) (by decide) (by decide)) (rg_Smono f5_0 (by decide) (by decide) (by decide) (by decide)) (rg_le h51 (by decide)) (rg_ge r19u (by decide)) (rg_le lv58 (by decide)) (rg_ge uv58 (by decide)) (ms_pcU (rg_le a1l (by decide)) (rg_ge a1u (by decide)) h51 r19u ev52 ev53 c54 ev57 ev58 hpf)) (cwV 6 hts gX7_extend_X7_extend rfl rfl rfl (by decide +kernel) ⟨Nat.le_of_ble_eq_true rfl, Nat.le_of_ble_eq_true rfl⟩) hP hD hS hA [0, 3, 4, 5, 1, 2] [] rfl rfl rfl rfl (by decide) 0 7 rfl rfl rfl hl.1 rfl (Nat.le_of_ble_eq_true rfl) dX7_extend_125 ⟨Nat.le_of_ble_eq_true rfl, Nat.le_of_ble_eq_true rfl⟩ (fun u61 H locs hp hP hD hS => ?_)
                  have hP : va_P D vwCl [(q0, .inr (7, [.int (u61.1 0), .int (u61.1 1), .int (u61.1 2), .int s0_3])), (q1, .inr (2, [.int s1_0, .int s1_1, .int s1_2, .int s1_3, .int s1_4, .ref q2, .ref q3, .ref q5, .ref q6, .ref q7, .ref q8, .ref q9, .ref q10])), (q2, .inl (cA 0, 9, .inl f2)), (q3, .inl (cA 0, 9, .inl f3)), (q4, .inl (cA 0, 9, .inl f4)), (q5, .inl (cA 0, 9, .inl f5))] H := hP
                  have hD : va_D A [(q0, .inr (7, [.int (u61.1 0), .int (u61.1 1), .int (u61.1 2), .int s0_3])), (q1, .inr (2, [.int s1_0, .int s1_1, .int s1_2, .int s1_3, .int s1_4, .ref q2, .ref q3, .ref q5, .ref q6, .ref q7, .ref q8, .ref q9, .ref q10])), (q2, .inl (cA 0, 9, .inl f2)), (q3, .inl (cA 0, 9, .inl f3)), (q4, .inl (cA 0, 9, .inl f4)), (q5, .inl (cA 0, 9, .inl f5))] := hD
                  exact jn27 (u61.1 0) (u61.1 1) (u61.1 2) _ _ _   (hP.sub [0, 4, 5, 1, 2, 3] rfl) (hD.sub [0, 4, 5, 1, 2, 3] (by decide) rfl) hS (lv_sub hl [0, 1, 2, 3, 4, 5, 6, 7, 8, 9] rfl)
            · have h63 : 3 ≤ r46.toInt := rg_le_lo (rg_nlt c47) (by decide : (3 : Int) ≤ (3 : Int32).toInt)
              refine lv_aload_n hx hb dX7_extend_67 rfl (lv_at hl 3 rfl) ?_
              refine lv_iload hx hb dX7_extend_68 (lv_at hl 7 rfl) ?_
              refine lv_iload hx hb dX7_extend_70 (lv_at hl 8 rfl) ?_
              refine lv_iconst (v := 1) hx hb dX7_extend_72 (by decide) ?_
              refine lv_iload hx hb dX7_extend_73 (lv_at hl 2 rfl) ?_
              refine rg_shl1 (lo := 1) (hi := 256) hx hb dX7_extend_75 l6 h16 (by decide) (fun v64 ev64 lv64 uv64 => ?_)
              refine lv_ior hx hb dX7_extend_76 ?_
              refine lv_topi (fun v65 ev65 => ?_)
              refine lv_iload hx hb dX7_extend_77 (lv_at hl 0 rfl) ?_
              refine ms_cVv (qc := (RX7, TX7, 4)) (wc := [(q0, .inr (7, [.int x8, .int x9, .int x10, .int s0_3]))]) (wr := [(q4, .inl (cA 0, 9, .inl f4)), (q5, .inl (cA 0, 9, .inl f5)), (q1, .inr (2, [.int s1_0, .int s1_1, .int s1_2, .int s1_3, .int s1_4, .ref q2, .ref q3, .ref q5, .ref q6, .ref q7, .ref q8, .ref q9, .ref q10])), (q2, .inl (cA 0, 9, .inl f2)), (q3, .inl (cA 0, 9, .inl f3))]) ⟨hx, hb, hml, hown, hts⟩ hE (kX7_compare_1 l D cA q0 x8 x9 x10 s0_3 a1 v65 v23 (rg_le s0_3l (by decide)) (rg_ge s0_3u (by decide)) (rg_le a1l (by decide)) (rg_ge a1u (by decide))) (cwV 3 hts gX7_extend_X7_compare rfl rfl rfl (by decide +kernel) ⟨Nat.le_of_ble_eq_true rfl, Nat.le_of_ble_eq_true rfl⟩) hP hD hS hA [0] [1, 2, 3, 4, 5] rfl rfl rfl rfl (by decide) 0 7 rfl rfl rfl hl.1 rfl (Nat.le_of_ble_eq_true rfl) dX7_extend_79 ⟨Nat.le_of_ble_eq_true rfl, Nat.le_of_ble_eq_true rfl⟩ (fun u66 H locs hp hP hD hS => ?_)
              have hP : va_P D vwCl [(q4, .inl (cA 0, 9, .inl f4)), (q5, .inl (cA 0, 9, .inl f5)), (q1, .inr (2, [.int s1_0, .int s1_1, .int s1_2, .int s1_3, .int s1_4, .ref q2, .ref q3, .ref q5, .ref q6, .ref q7, .ref q8, .ref q9, .ref q10])), (q2, .inl (cA 0, 9, .inl f2)), (q3, .inl (cA 0, 9, .inl f3)), (q0, .inr (7, [.int (u66.1 0), .int (u66.1 1), .int (u66.1 2), .int s0_3]))] H := hP
              have hD : va_D A [(q4, .inl (cA 0, 9, .inl f4)), (q5, .inl (cA 0, 9, .inl f5)), (q1, .inr (2, [.int s1_0, .int s1_1, .int s1_2, .int s1_3, .int s1_4, .ref q2, .ref q3, .ref q5, .ref q6, .ref q7, .ref q8, .ref q9, .ref q10])), (q2, .inl (cA 0, 9, .inl f2)), (q3, .inl (cA 0, 9, .inl f3)), (q0, .inr (7, [.int (u66.1 0), .int (u66.1 1), .int (u66.1 2), .int s0_3]))] := hD
              refine lv_goto (tgt := 128) hx hb dX7_extend_82 (by decide) ?_
              exact jn27 (u66.1 0) (u66.1 1) (u66.1 2) _ _ _   (hP.sub [5, 0, 1, 2, 3, 4] rfl) (hD.sub [5, 0, 1, 2, 3, 4] (by decide) rfl) hS (lv_sub hl [0, 1, 2, 3, 4, 5, 6, 7, 8, 9] rfl)
    exact lp11 10 0 s0_0 s0_1 s0_2 _ _ _ (rg_le (by decide : (0 : Int) ≤ (0 : Int32).toInt) (by decide)) (rg_ge (by decide : (0 : Int32).toInt ≤ 0) (by decide))  (rg_mi (by decide : (0 : Int) ≤ (0 : Int32).toInt) (by decide)) hP hD hS (lv_sub hl [0, 1, 2, 3, 4, 5, 6, 7] rfl)
  · have h68 : 7 ≤ r2.toInt := rg_lt_lo (rg_nle c3) (by decide : (6 : Int) ≤ (6 : Int32).toInt) (by decide)
    exact ms_vret hx hb hr hlk (fun i => [s0_0, s0_1, s0_2].getD i 0, fun i => [].getD i ms_z, fun i => [].getD i 0) trivial hP hD hS (Nat.le_of_ble_eq_true rfl) (Nat.le_of_ble_eq_true rfl) dX7_extend_10
set_option maxHeartbeats 4000000 in
set_option maxRecDepth 100000 in
theorem kX7_extend_5 (l : Launch) (D : va_G) (cA : Nat → ClassId) (q0 q1 q2 q3 q4 q5 q6 q7 q8 q9 q10 : Nat) (s0_0 : Int32) (s0_1 : Int32) (s0_2 : Int32) (s0_3 : Int32) (s1_0 : Int32) (s1_1 : Int32) (s1_2 : Int32) (s1_3 : Int32) (s1_4 : Int32) (f2 : Nat → Int32) (f3 : Nat → Int32) (f4 : Nat → Int32) (f5 : Nat → Int32) (a0 : Int32) (a1 : Int32) (a2 : Int32) (a3 : Int32) (s0_3l : 0 ≤ s0_3.toInt) (s0_3u : s0_3.toInt ≤ 5) (s1_0l : 0 ≤ s1_0.toInt) (s1_0u : s1_0.toInt ≤ 6) (s1_1l : 0 ≤ s1_1.toInt) (s1_1u : s1_1.toInt ≤ 4) (s1_2l : 0 ≤ s1_2.toInt) (s1_2u : s1_2.toInt ≤ 9) (s1_3l : 0 ≤ s1_3.toInt) (s1_3u : s1_3.toInt ≤ 9) (s1_4l : 0 ≤ s1_4.toInt) (s1_4u : s1_4.toInt ≤ 6) (f2_0 : rg_S f2 0 9 0 5) (f3_0 : rg_S f3 0 9 0 5) (f5_0 : rg_S f5 0 9 0 99) (a0l : 0 ≤ a0.toInt) (a0u : a0.toInt ≤ 5) (a1l : 0 ≤ a1.toInt) (a1u : a1.toInt ≤ 63) (hpf : ms_pc a1 = 2) : ms_Mv l yX7_extend wsX7_extend ({ frames := 5, cells := 0, slots := 0, locals := 140 } : Room) D cA [.ref q0, .ref q1, .ref q4, .int a0, .int a1, .int a2, .int a3] [(q0, .inr (7, [.int s0_0, .int s0_1, .int s0_2, .int s0_3])), (q1, .inr (2, [.int s1_0, .int s1_1, .int s1_2, .int s1_3, .int s1_4, .ref q2, .ref q3, .ref q5, .ref q6, .ref q7, .ref q8, .ref q9, .ref q10])), (q2, .inl (cA 0, 9, .inl f2)), (q3, .inl (cA 0, 9, .inl f3)), (q4, .inl (cA 0, 9, .inl f4)), (q5, .inl (cA 0, 9, .inl f5))] (fun (u : ((Nat → Int32) × (Nat → Nat → Int32) × (Nat → Int64))) => True) (fun (u : ((Nat → Int32) × (Nat → Nat → Int32) × (Nat → Int64))) => [(q0, .inr (7, [.int (u.1 0), .int (u.1 1), .int (u.1 2), .int s0_3])), (q1, .inr (2, [.int s1_0, .int s1_1, .int s1_2, .int s1_3, .int s1_4, .ref q2, .ref q3, .ref q5, .ref q6, .ref q7, .ref q8, .ref q9, .ref q10])), (q2, .inl (cA 0, 9, .inl f2)), (q3, .inl (cA 0, 9, .inl f3)), (q4, .inl (cA 0, 9, .inl f4)), (q5, .inl (cA 0, 9, .inl f5))]) := by
  refine ms_Mv_of (cc := cX7_extend) (maxL := 10) (ret := none) (by decide) rfl (Nat.le_of_ble_eq_true rfl) ?_
  intro p e s m args below meth c A ls hB hE hA hP hD hS hl
  obtain ⟨hx, hb, hr, hml, hown, hts, hlk, hnm⟩ := hB
  have hown : s.vm.findClass RX7 = some m.cls := hown
  have hnX2 : ∀ w ∈ u_ws RX2 TX2 13, w ∈ wsX7_extend := fun _ h => List.mem_cons_of_mem _ (List.mem_append_left _ (List.mem_append_right _ (h)))
  have hnX7 : ∀ w ∈ u_ws RX7 TX7 4, w ∈ wsX7_extend := fun _ h => List.mem_cons_of_mem _ (List.mem_append_right _ (h))
  have hl : lv_has ls 10 [(0, .ref q0), (1, .ref q1), (2, .ref q4), (3, .int a0), (4, .int a1), (5, .int a2), (6, .int a3)] := hl
  refine lv_iload hx hb dX7_extend_0 (lv_at hl 4 rfl) ?_
  refine ms_cSi (wc := []) (wr := [(q0, .inr (7, [.int s0_0, .int s0_1, .int s0_2, .int s0_3])), (q1, .inr (2, [.int s1_0, .int s1_1, .int s1_2, .int s1_3, .int s1_4, .ref q2, .ref q3, .ref q5, .ref q6, .ref q7, .ref q8, .ref q9, .ref q10])), (q2, .inl (cA 0, 9, .inl f2)), (q3, .inl (cA 0, 9, .inl f3)), (q4, .inl (cA 0, 9, .inl f4)), (q5, .inl (cA 0, 9, .inl f5))]) ⟨hx, hb, hml, hown, hts⟩ hE (kJ6_bitCount_0f7a4_1 l D cA a1) (va_cwS 1 hts gX7_extend_J6_bitCount_0f7a4 rfl rfl rfl (by decide +kernel) ⟨Nat.le_of_ble_eq_true rfl, Nat.le_of_ble_eq_true rfl⟩) hP hD hS hA [] [0, 1, 2, 3, 4, 5] rfl rfl rfl rfl (by decide) rfl hl.1 rfl (Nat.le_of_ble_eq_true rfl) dX7_extend_2 ⟨Nat.le_of_ble_eq_true rfl, Nat.le_of_ble_eq_true rfl⟩ (fun r2 u1 H locs hp hP hD hS => ?_)
  obtain ⟨⟨r2l, r2u⟩, exu1, -⟩ := hp
  have hP : va_P D vwCl [(q0, .inr (7, [.int s0_0, .int s0_1, .int s0_2, .int s0_3])), (q1, .inr (2, [.int s1_0, .int s1_1, .int s1_2, .int s1_3, .int s1_4, .ref q2, .ref q3, .ref q5, .ref q6, .ref q7, .ref q8, .ref q9, .ref q10])), (q2, .inl (cA 0, 9, .inl f2)), (q3, .inl (cA 0, 9, .inl f3)), (q4, .inl (cA 0, 9, .inl f4)), (q5, .inl (cA 0, 9, .inl f5))] H := hP
  have hD : va_D A [(q0, .inr (7, [.int s0_0, .int s0_1, .int s0_2, .int s0_3])), (q1, .inr (2, [.int s1_0, .int s1_1, .int s1_2, .int s1_3, .int s1_4, .ref q2, .ref q3, .ref q5, .ref q6, .ref q7, .ref q8, .ref q9, .ref q10])), (q2, .inl (cA 0, 9, .inl f2)), (q3, .inl (cA 0, 9, .inl f3)), (q4, .inl (cA 0, 9, .inl f4)), (q5, .inl (cA 0, 9, .inl f5))] := hD
  refine lv_bipush (v := 6) hx hb dX7_extend_5 (by decide) ?_
  refine lv_icmp_le (tgt := 11) hx hb dX7_extend_7 (by decide) (fun c3 => ?_) (fun c3 => ?_)
  · have h4 : r2.toInt ≤ 6 := rg_le_hi c3 (by decide : (6 : Int32).toInt ≤ 6)
    refine lv_iconst (v := 0) hx hb dX7_extend_11 (by decide) ?_
    refine lv_istore (lv' := [(7, .int 0), (0, .ref q0), (1, .ref q1), (2, .ref q4), (3, .int a0), (4, .int a1), (5, .int a2), (6, .int a3)]) hx hb dX7_extend_12 hl (by decide) rfl (fun ls hl => ?_)
    have lp11 : ∀ (n12 : Nat) (x5 : Int32) (x8 : Int32) (x9 : Int32) (x10 : Int32) (H : Heap) (locs : List Loc) (ls : Array Slot), 0 ≤ x5.toInt → x5.toInt ≤ 9 → 9 + 1 ≤ x5.toInt + (n12 : Int) → va_P D vwCl [(q0, .inr (7, [.int x8, .int x9, .int x10, .int s0_3])), (q1, .inr (2, [.int s1_0, .int s1_1, .int s1_2, .int s1_3, .int s1_4, .ref q2, .ref q3, .ref q5, .ref q6, .ref q7, .ref q8, .ref q9, .ref q10])), (q2, .inl (cA 0, 9, .inl f2)), (q3, .inl (cA 0, 9, .inl f3)), (q4, .inl (cA 0, 9, .inl f4)), (q5, .inl (cA 0, 9, .inl f5))] H → va_D A [(q0, .inr (7, [.int x8, .int x9, .int x10, .int s0_3])), (q1, .inr (2, [.int s1_0, .int s1_1, .int s1_2, .int s1_3, .int s1_4, .ref q2, .ref q3, .ref q5, .ref q6, .ref q7, .ref q8, .ref q9, .ref q10])), (q2, .inl (cA 0, 9, .inl f2)), (q3, .inl (cA 0, 9, .inl f3)), (q4, .inl (cA 0, 9, .inl f4)), (q5, .inl (cA 0, 9, .inl f5))] → va_S A s.heap H locs → lv_has ls 10 [(7, .int x5), (0, .ref q0), (1, .ref q1), (2, .ref q4), (3, .int a0), (4, .int a1), (5, .int a2), (6, .int a3)] → W p l e ({ frames := 5, cells := 0, slots := 0, locals := 140 } : Room) s m args below meth c H locs 0 0 (MQ below (ms_Qv D A (fun (u : ((Nat → Int32) × (Nat → Nat → Int32) × (Nat → Int64))) => True) (fun (u : ((Nat → Int32) × (Nat → Nat → Int32) × (Nat → Int64))) => [(q0, .inr (7, [.int (u.1 0), .int (u.1 1), .int (u.1 2), .int s0_3])), (q1, .inr (2, [.int s1_0, .int s1_1, .int s1_2, .int s1_3, .int s1_4, .ref q2, .ref q3, .ref q5, .ref q6, .ref q7, .ref q8, .ref q9, .ref q10])), (q2, .inl (cA 0, 9, .inl f2)), (q3, .inl (cA 0, 9, .inl f3)), (q4, .inl (cA 0, 9, .inl f4)), (q5, .inl (cA 0, 9, .inl f5))])) args s 0 0 A) (F0 m 14 ls []) := by
      intro n12
      induction n12 with
      | zero => intro x5 x8 x9 x10 H locs ls l6 u7  hm14; exact (rg_m0 hm14 u7).elim
      | succ n12 ih13 =>
        intro x5 x8 x9 x10 H locs ls l6 u7  hm14 hP hD hS hl
        refine lv_iload hx hb dX7_extend_14 (lv_at hl 0 rfl) ?_
        refine lv_aload_n hx hb dX7_extend_16 rfl (lv_at hl 2 rfl) ?_
        refine va_get (D := D) (ci := 2) (v := .int s1_3) (C := RX2) (T := TX2) (N := 13) hx hb hts hnX2 hown hE.1 hP 1 rfl rfl 3 (by decide) (hts (.fieldLink RX7 39 "MovedStones$Land" "roads" "I") (List.mem_cons_of_mem _ (List.mem_append_left _ (List.mem_append_left _ (List.mem_append_left _ (List.mem_of_getElem? (i := 0) rfl)))))) (fun _ h9 => h9) rfl dX7_extend_17 ?_
        refine lv_icmp_ge (tgt := 134) hx hb dX7_extend_20 (by decide) (fun c15 => ?_) (fun c15 => ?_)
        · exact ms_vret hx hb hr hlk (fun i => [x8, x9, x10].getD i 0, fun i => [].getD i ms_z, fun i => [].getD i 0) trivial hP hD hS (Nat.le_of_ble_eq_true rfl) (Nat.le_of_ble_eq_true rfl) dX7_extend_134
        · have h16 : x5.toInt ≤ 8 := rg_lt_hi (rg_nle c15) s1_3u (by decide)
          have h17 : 1 ≤ s1_3.toInt := rg_lt_lo (rg_nle c15) l6 (by decide)
          refine lv_aload_n hx hb dX7_extend_23 rfl (lv_at hl 2 rfl) ?_
          refine lv_iload hx hb dX7_extend_24 (lv_at hl 0 rfl) ?_
          refine lv_iload_n hx hb dX7_extend_26 rfl (lv_at hl 4 rfl) ?_
          refine ms_cVi (qc := (RX2, TX2, 13)) (wc := [(q1, .inr (2, [.int s1_0, .int s1_1, .int s1_2, .int s1_3, .int s1_4, .ref q2, .ref q3, .ref q5, .ref q6, .ref q7, .ref q8, .ref q9, .ref q10])), (q2, .inl (cA 0, 9, .inl f2)), (q3, .inl (cA 0, 9, .inl f3))]) (wr := [(q0, .inr (7, [.int x8, .int x9, .int x10, .int s0_3])), (q4, .inl (cA 0, 9, .inl f4)), (q5, .inl (cA 0, 9, .inl f5))]) ⟨hx, hb, hml, hown, hts⟩ hE (kX2_otherEnd_1 l D cA q1 q2 q3 q5 q6 q7 q8 q9 q10 s1_0 s1_1 s1_2 s1_3 s1_4 f2 f3 x5 a0 (rg_le s1_0l (by decide)) (rg_ge s1_0u (by decide)) (rg_le s1_1l (by decide)) (rg_ge s1_1u (by decide)) (rg_le s1_2l (by decide)) (rg_ge s1_2u (by decide)) (rg_le h17 (by decide)) (rg_ge s1_3u (by decide)) (rg_le s1_4l (by decide)) (rg_ge s1_4u (by decide)) (rg_Smono f2_0 (by decide) (by decide) (by decide) (by decide)) (rg_Smono f3_0 (by decide) (by decide) (by decide) (by decide)) (rg_le l6 (by decide)) (rg_ge h16 (by decide))) (cwV 2 hts gX7_extend_X2_otherEnd rfl rfl rfl (by decide +kernel) ⟨Nat.le_of_ble_eq_true rfl, Nat.le_of_ble_eq_true rfl⟩) hP hD hS hA [1, 2, 3] [0, 4, 5] rfl rfl rfl rfl (by decide) 0 2 rfl rfl rfl hl.1 rfl (Nat.le_of_ble_eq_true rfl) dX7_extend_27 ⟨Nat.le_of_ble_eq_true rfl, Nat.le_of_ble_eq_true rfl⟩ (fun r19 u18 H locs hp hP hD hS => ?_)
          obtain ⟨⟨r19l, r19u⟩, exu18, -⟩ := hp
          have hP : va_P D vwCl [(q0, .inr (7, [.int x8, .int x9, .int x10, .int s0_3])), (q4, .inl (cA 0, 9, .inl f4)), (q5, .inl (cA 0, 9, .inl f5)), (q1, .inr (2, [.int s1_0, .int s1_1, .int s1_2, .int s1_3, .int s1_4, .ref q2, .ref q3, .ref q5, .ref q6, .ref q7, .ref q8, .ref q9, .ref q10])), (q2, .inl (cA 0, 9, .inl f2)), (q3, .inl (cA 0, 9, .inl f3))] H := hP
          have hD : va_D A [(q0, .inr (7, [.int x8, .int x9, .int x10, .int s0_3])), (q4, .inl (cA 0, 9, .inl f4)), (q5, .inl (cA 0, 9, .inl f5)), (q1, .inr (2, [.int s1_0, .int s1_1, .int s1_2, .int s1_3, .int s1_4, .ref q2, .ref q3, .ref q5, .ref q6, .ref q7, .ref q8, .ref q9, .ref q10])), (q2, .inl (cA 0, 9, .inl f2)), (q3, .inl (cA 0, 9, .inl f3))] := hD
          refine lv_istore (lv' := [(8, .int r19), (7, .int x5), (0, .ref q0), (1, .ref q1), (2, .ref q4), (3, .int a0), (4, .int a1), (5, .int a2), (6, .int a3)]) hx hb dX7_extend_30 hl (by decide) rfl (fun ls hl => ?_)
          refine lv_iload hx hb dX7_extend_32 (lv_at hl 8 rfl) ?_
          refine lv_aload_n hx hb dX7_extend_34 rfl (lv_at hl 4 rfl) ?_
          refine lv_iload hx hb dX7_extend_35 (lv_at hl 1 rfl) ?_
          refine rg_iald0 hx hb hE hP (q0 := 1) rfl l6 h16 (by decide) dX7_extend_37 (fun v20 ev20 => ?_)
          refine lv_iadd hx hb dX7_extend_38 ?_
          refine lv_topi (fun v21 ev21 => ?_)
          refine lv_aload_n hx hb dX7_extend_39 rfl (lv_at hl 3 rfl) ?_
          refine va_get (D := D) (ci := 2) (v := .ref q5) (C := RX2) (T := TX2) (N := 13) hx hb hts hnX2 hown hE.1 hP 3 rfl rfl 7 (by decide) (hts (.fieldLink RX7 46 "MovedStones$Land" "feet" "[I") (List.mem_cons_of_mem _ (List.mem_append_left _ (List.mem_append_left _ (List.mem_append_left _ (List.mem_of_getElem? (i := 1) rfl)))))) (fun _ h9 => h9) rfl dX7_extend_40 ?_
          refine lv_iload hx hb dX7_extend_43 (lv_at hl 1 rfl) ?_
          refine rg_iald hx hb hE hP (q0 := 2) rfl l6 h16 f5_0 (by decide) dX7_extend_45 (fun v22 ev22 lv22 uv22 => ?_)
          refine lv_isub hx hb dX7_extend_46 ?_
          refine lv_topi (fun v23 ev23 => ?_)
          refine lv_istore (lv' := [(9, .int v23), (8, .int r19), (7, .int x5), (0, .ref q0), (1, .ref q1), (2, .ref q4), (3, .int a0), (4, .int a1), (5, .int a2), (6, .int a3)]) hx hb dX7_extend_47 hl (by decide) rfl (fun ls hl => ?_)
          refine lv_iload hx hb dX7_extend_49 (lv_at hl 1 rfl) ?_
          refine lv_aload_n hx hb dX7_extend_51 rfl (lv_at hl 3 rfl) ?_
          refine va_get (D := D) (ci := 7) (v := .int s0_3) (C := RX7) (T := TX7) (N := 4) hx hb hts hnX7 hown hE.1 hP 0 rfl rfl 3 (by decide) (hts (.fieldLink RX7 26 "MovedStones$Rounds" "start" "I") (List.mem_cons_of_mem _ (List.mem_append_left _ (List.mem_append_left _ (List.mem_append_left _ (List.mem_of_getElem? (i := 2) rfl)))))) (fun _ h9 => h9) rfl dX7_extend_52 ?_
          have jn27 : ∀ (x24 : Int32) (x25 : Int32) (x26 : Int32) (H : Heap) (locs : List Loc) (ls : Array Slot), va_P D vwCl [(q0, .inr (7, [.int x24, .int x25, .int x26, .int s0_3])), (q4, .inl (cA 0, 9, .inl f4)), (q5, .inl (cA 0, 9, .inl f5)), (q1, .inr (2, [.int s1_0, .int s1_1, .int s1_2, .int s1_3, .int s1_4, .ref q2, .ref q3, .ref q5, .ref q6, .ref q7, .ref q8, .ref q9, .ref q10])), (q2, .inl (cA 0, 9, .inl f2)), (q3, .inl (cA 0, 9, .inl f3))] H → va_D A [(q0, .inr (7, [.int x24, .int x25, .int x26, .int s0_3])), (q4, .inl (cA 0, 9, .inl f4)), (q5, .inl (cA 0, 9, .inl f5)), (q1, .inr (2, [.int s1_0, .int s1_1, .int s1_2, .int s1_3, .int s1_4, .ref q2, .ref q3, .ref q5, .ref q6, .ref q7, .ref q8, .ref q9, .ref q10])), (q2, .inl (cA 0, 9, .inl f2)), (q3, .inl (cA 0, 9, .inl f3))] → va_S A s.heap H locs → lv_has ls 10 [(9, .int v23), (8, .int r19), (7, .int x5), (0, .ref q0), (1, .ref q1), (2, .ref q4), (3, .int a0), (4, .int a1), (5, .int a2), (6, .int a3)] → W p l e ({ frames := 5, cells := 0, slots := 0, locals := 140 } : Room) s m args below meth c H locs 0 0 (MQ below (ms_Qv D A (fun (u : ((Nat → Int32) × (Nat → Nat → Int32) × (Nat → Int64))) => True) (fun (u : ((Nat → Int32) × (Nat → Nat → Int32) × (Nat → Int64))) => [(q0, .inr (7, [.int (u.1 0), .int (u.1 1), .int (u.1 2), .int s0_3])), (q1, .inr (2, [.int s1_0, .int s1_1, .int s1_2, .int s1_3, .int s1_4, .ref q2, .ref q3, .ref q5, .ref q6, .ref q7, .ref q8, .ref q9, .ref q10])), (q2, .inl (cA 0, 9, .inl f2)), (q3, .inl (cA 0, 9, .inl f3)), (q4, .inl (cA 0, 9, .inl f4)), (q5, .inl (cA 0, 9, .inl f5))])) args s 0 0 A) (F0 m 128 ls []) := by
            intro x24 x25 x26 H locs ls   hP hD hS hl
            refine rg_iinc (lo := 1) (hi := 9) (fun z => [(7, .int z), (9, .int v23), (8, .int r19), (0, .ref q0), (1, .ref q1), (2, .ref q4), (3, .int a0), (4, .int a1), (5, .int a2), (6, .int a3)]) hx hb dX7_extend_128 hl (k := 2) rfl (by decide) l6 h16 (by decide) (fun _ => rfl) (fun v28 ev28 lv28 uv28 ls hl => ?_)
            have hl : lv_has ls 10 [(7, .int v28), (9, .int v23), (8, .int r19), (0, .ref q0), (1, .ref q1), (2, .ref q4), (3, .int a0), (4, .int a1), (5, .int a2), (6, .int a3)] := hl
            refine lv_goto (tgt := 14) hx hb dX7_extend_131 (by decide) ?_
            exact ih13 v28 x24 x25 x26 _ _ _ (rg_le lv28 (by decide)) (rg_ge uv28 (by decide))  (rg_ms hm14 ev28 (by decide)) (hP.sub [0, 3, 4, 5, 1, 2] rfl) (hD.sub [0, 3, 4, 5, 1, 2] (by decide) rfl) hS (lv_sub hl [0, 3, 4, 5, 6, 7, 8, 9] rfl)
          refine lv_icmp_ne (tgt := 85) hx hb dX7_extend_55 (by decide) (fun c29 => ?_) (fun c29 => ?_)
          · refine lv_iload hx hb dX7_extend_85 (lv_at hl 1 rfl) ?_
            refine lv_aload_n hx hb dX7_extend_87 rfl (lv_at hl 3 rfl) ?_
            refine va_get (D := D) (ci := 7) (v := .int s0_3) (C := RX7) (T := TX7) (N := 4) hx hb hts hnX7 hown hE.1 hP 0 rfl rfl 3 (by decide) (hts (.fieldLink RX7 26 "MovedStones$Rounds" "start" "I") (List.mem_cons_of_mem _ (List.mem_append_left _ (List.mem_append_left _ (List.mem_append_left _ (List.mem_of_getElem? (i := 2) rfl)))))) (fun _ h9 => h9) rfl dX7_extend_88 ?_
            refine lv_icmp_le (tgt := 128) hx hb dX7_extend_91 (by decide) (fun c30 => ?_) (fun c30 => ?_)
            · exact jn27 x8 x9 x10 _ _ _   hP hD hS (lv_sub hl [0, 1, 2, 3, 4, 5, 6, 7, 8, 9] rfl)
            · have h31 : s0_3.toInt ≤ 4 := rg_lt_hi (rg_nle c30) r19u (by decide)
              have h32 : 1 ≤ r19.toInt := rg_lt_lo (rg_nle c30) s0_3l (by decide)
              refine lv_iload hx hb dX7_extend_94 (lv_at hl 7 rfl) ?_
              refine lv_iload hx hb dX7_extend_96 (lv_at hl 1 rfl) ?_
              refine lv_ishr hx hb dX7_extend_98 ?_
              refine lv_topi (fun v33 ev33 => ?_)
              refine lv_iconst (v := 1) hx hb dX7_extend_99 (by decide) ?_
              refine rg_iand1 hx hb dX7_extend_100 (fun v34 ev34 lv34 uv34 => ?_)
              refine lv_if_ne (tgt := 128) hx hb dX7_extend_101 (by decide) (fun c35 => ?_) (fun c35 => ?_)
              · have h36 : 1 ≤ v34.toInt := rg_ne_lo c35 lv34 (by decide : (0 : Int) ≤ (0 : Int32).toInt) (by decide : (0 : Int32).toInt ≤ 0) (by decide)
                exact jn27 x8 x9 x10 _ _ _   hP hD hS (lv_sub hl [0, 1, 2, 3, 4, 5, 6, 7, 8, 9] rfl)
              · have h37 : v34.toInt ≤ 0 := rg_eq_hi c35 (by decide : (0 : Int32).toInt ≤ 0)
                refine lv_aload_n hx hb dX7_extend_104 rfl (lv_at hl 3 rfl) ?_
                refine lv_aload_n hx hb dX7_extend_105 rfl (lv_at hl 4 rfl) ?_
                refine lv_aload_n hx hb dX7_extend_106 rfl (lv_at hl 5 rfl) ?_
                refine lv_iload hx hb dX7_extend_107 (lv_at hl 1 rfl) ?_
                refine lv_iload hx hb dX7_extend_109 (lv_at hl 7 rfl) ?_
                refine lv_iconst (v := 1) hx hb dX7_extend_111 (by decide) ?_
                refine lv_iload hx hb dX7_extend_112 (lv_at hl 1 rfl) ?_
                refine rg_shl1 (lo := 2) (hi := 32) hx hb dX7_extend_114 h32 r19u (by decide) (fun v38 ev38 lv38 uv38 => ?_)
                refine rg_ior (k := 6) (hi := 63) hx hb dX7_extend_115 a1l a1u lv38 uv38 (by decide) (fun v39 ev39 lv39 uv39 => ?_)
                refine lv_iload hx hb dX7_extend_116 (lv_at hl 8 rfl) ?_
                refine lv_iconst (v := 1) hx hb dX7_extend_118 (by decide) ?_
                refine lv_iload hx hb dX7_extend_119 (lv_at hl 2 rfl) ?_
                refine rg_shl1 (lo := 1) (hi := 256) hx hb dX7_extend_121 l6 h16 (by decide) (fun v40 ev40 lv40 uv40 => ?_)
                refine lv_ior hx hb dX7_extend_122 ?_
                refine lv_topi (fun v41 ev41 => ?_)
                refine lv_iload hx hb dX7_extend_123 (lv_at hl 0 rfl) ?_
                refine ms_cVv (qc := (RX7, TX7, 4)) (wc := [(q0, .inr (7, [.int x8, .int x9, .int x10, .int s0_3])), (q1, .inr (2, [.int s1_0, .int s1_1, .int s1_2, .int s1_3, .int s1_4, .ref q2, .ref q3, .ref q5, .ref q6, .ref q7, .ref q8, .ref q9, .ref q10])), (q2, .inl (cA 0, 9, .inl f2)), (q3, .inl (cA 0, 9, .inl f3)), (q4, .inl (cA 0, 9, .inl f4)), (q5, .inl (cA 0, 9, .inl f5))]) (wr := []) ⟨hx, hb, hml, hown, hts⟩ hE (kX7_extend_4 l D cA q0 q1 q2 q3 q4 q5 q6 q7 q8 q9 q10 x8 x9 x10 s0_3 s1_0 s1_1 s1_2 s1_3 s1_4 f2 f3 f4 f5 r19 v39 v41 v23 (rg_le s0_3l (by decide)) (rg_ge h31 (by decide)) (rg_le s1_0l (by decide)) (rg_ge s1_0u (by decide)) (rg_le s1_1l (by decide)) (rg_ge s1_1u (by decide)) (rg_le s1_2l (by decide)) (rg_ge s1_2u (by decide)) (rg_le h17 (by decide)) (rg_ge s1_3u (by decide)) (rg_le s1_4l (by decide)) (rg_ge s1_4u (by decide)) (rg_Smono f2_0 (by decide) (by decide) (by decide) (by decide)) (rg_Smono f3_0 (by decide) (by decide) (by decide) (by decide)) (rg_Smono f5_0 (by decide) (by decide) (by decide) (by decide)) (rg_le h32 (by decide)) (rg_ge r19u (by decide)) (rg_le lv39 (by decide)) (rg_ge uv39 (by decide)) (ms_pcU (rg_le a1l (by decide)) (rg_ge a1u (by decide)) h32 r19u ev33 ev34 c35 ev38 ev39 hpf)) (cwV 6 hts gX7_extend_X7_extend rfl rfl rfl (by decide +kernel) ⟨Nat.le_of_ble_eq_true rfl, Nat.le_of_ble_eq_true rfl⟩) hP hD hS hA [0, 3, 4, 5, 1, 2] [] rfl rfl rfl rfl (by decide) 0 7 rfl rfl rfl hl.1 rfl (Nat.le_of_ble_eq_true rfl) dX7_extend_125 ⟨Nat.le_of_ble_eq_true rfl, Nat.le_of_ble_eq_true rfl⟩ (fun u42 H locs hp hP hD hS => ?_)
                have hP : va_P D vwCl [(q0, .inr (7, [.int (u42.1 0), .int (u42.1 1), .int (u42.1 2), .int s0_3])), (q1, .inr (2, [.int s1_0, .int s1_1, .int s1_2, .int s1_3, .int s1_4, .ref q2, .ref q3, .ref q5, .ref q6, .ref q7, .ref q8, .ref q9, .ref q10])), (q2, .inl (cA 0, 9, .inl f2)), (q3, .inl (cA 0, 9, .inl f3)), (q4, .inl (cA 0, 9, .inl f4)), (q5, .inl (cA 0, 9, .inl f5))] H := hP
                have hD : va_D A [(q0, .inr (7, [.int (u42.1 0), .int (u42.1 1), .int (u42.1 2), .int s0_3])), (q1, .inr (2, [.int s1_0, .int s1_1, .int s1_2, .int s1_3, .int s1_4, .ref q2, .ref q3, .ref q5, .ref q6, .ref q7, .ref q8, .ref q9, .ref q10])), (q2, .inl (cA 0, 9, .inl f2)), (q3, .inl (cA 0, 9, .inl f3)), (q4, .inl (cA 0, 9, .inl f4)), (q5, .inl (cA 0, 9, .inl f5))] := hD
                exact jn27 (u42.1 0) (u42.1 1) (u42.1 2) _ _ _   (hP.sub [0, 4, 5, 1, 2, 3] rfl) (hD.sub [0, 4, 5, 1, 2, 3] (by decide) rfl) hS (lv_sub hl [0, 1, 2, 3, 4, 5, 6, 7, 8, 9] rfl)
          · have h44 : 0 ≤ r19.toInt := rg_eq_lo c29 s0_3l
            refine lv_iload hx hb dX7_extend_58 (lv_at hl 7 rfl) ?_
            refine ms_cSi (wc := []) (wr := [(q0, .inr (7, [.int x8, .int x9, .int x10, .int s0_3])), (q4, .inl (cA 0, 9, .inl f4)), (q5, .inl (cA 0, 9, .inl f5)), (q1, .inr (2, [.int s1_0, .int s1_1, .int s1_2, .int s1_3, .int s1_4, .ref q2, .ref q3, .ref q5, .ref q6, .ref q7, .ref q8, .ref q9, .ref q10])), (q2, .inl (cA 0, 9, .inl f2)), (q3, .inl (cA 0, 9, .inl f3))]) ⟨hx, hb, hml, hown, hts⟩ hE (kJ6_bitCount_0f7a4_1 l D cA a1) (va_cwS 1 hts gX7_extend_J6_bitCount_0f7a4 rfl rfl rfl (by decide +kernel) ⟨Nat.le_of_ble_eq_true rfl, Nat.le_of_ble_eq_true rfl⟩) hP hD hS hA [] [0, 1, 2, 3, 4, 5] rfl rfl rfl rfl (by decide) rfl hl.1 rfl (Nat.le_of_ble_eq_true rfl) dX7_extend_60 ⟨Nat.le_of_ble_eq_true rfl, Nat.le_of_ble_eq_true rfl⟩ (fun r46 u45 H locs hp hP hD hS => ?_)
            obtain ⟨⟨r46l, r46u⟩, exu45, -⟩ := hp
            have hP : va_P D vwCl [(q0, .inr (7, [.int x8, .int x9, .int x10, .int s0_3])), (q4, .inl (cA 0, 9, .inl f4)), (q5, .inl (cA 0, 9, .inl f5)), (q1, .inr (2, [.int s1_0, .int s1_1, .int s1_2, .int s1_3, .int s1_4, .ref q2, .ref q3, .ref q5, .ref q6, .ref q7, .ref q8, .ref q9, .ref q10])), (q2, .inl (cA 0, 9, .inl f2)), (q3, .inl (cA 0, 9, .inl f3))] H := hP
            have hD : va_D A [(q0, .inr (7, [.int x8, .int x9, .int x10, .int s0_3])), (q4, .inl (cA 0, 9, .inl f4)), (q5, .inl (cA 0, 9, .inl f5)), (q1, .inr (2, [.int s1_0, .int s1_1, .int s1_2, .int s1_3, .int s1_4, .ref q2, .ref q3, .ref q5, .ref q6, .ref q7, .ref q8, .ref q9, .ref q10])), (q2, .inl (cA 0, 9, .inl f2)), (q3, .inl (cA 0, 9, .inl f3))] := hD
            refine lv_iconst (v := 3) hx hb dX7_extend_63 (by decide) ?_
            refine lv_icmp_lt (tgt := 85) hx hb dX7_extend_64 (by decide) (fun c47 => ?_) (fun c47 => ?_)
            · have h48 : r46.toInt ≤ 2 := rg_lt_hi c47 (by decide : (3 : Int32).toInt ≤ 3) (by decide)
              refine lv_iload hx hb dX7_extend_85 (lv_at hl 1 rfl) ?_
              refine lv_aload_n hx hb dX7_extend_87 rfl (lv_at hl 3 rfl) ?_
              refine va_get (D := D) (ci := 7) (v := .int s0_3) (C := RX7) (T := TX7) (N := 4) hx hb hts hnX7 hown hE.1 hP 0 rfl rfl 3 (by decide) (hts (.fieldLink RX7 26 "MovedStones$Rounds" "start" "I") (List.mem_cons_of_mem _ (List.mem_append_left _ (List.mem_append_left _ (List.mem_append_left _ (List.mem_of_getElem? (i := 2) rfl)))))) (fun _ h9 => h9) rfl dX7_extend_88 ?_
              refine lv_icmp_le (tgt := 128) hx hb dX7_extend_91 (by decide) (fun c49 => ?_) (fun c49 => ?_)
              · exact jn27 x8 x9 x10 _ _ _   hP hD hS (lv_sub hl [0, 1, 2, 3, 4, 5, 6, 7, 8, 9] rfl)
              · have h50 : s0_3.toInt ≤ 4 := rg_lt_hi (rg_nle c49) r19u (by decide)
                have h51 : 1 ≤ r19.toInt := rg_lt_lo (rg_nle c49) s0_3l (by decide)
                refine lv_iload hx hb dX7_extend_94 (lv_at hl 7 rfl) ?_
                refine lv_iload hx hb dX7_extend_96 (lv_at hl 1 rfl) ?_
                refine lv_ishr hx hb dX7_extend_98 ?_
                refine lv_topi (fun v52 ev52 => ?_)
                refine lv_iconst (v := 1) hx hb dX7_extend_99 (by decide) ?_
                refine rg_iand1 hx hb dX7_extend_100 (fun v53 ev53 lv53 uv53 => ?_)
                refine lv_if_ne (tgt := 128) hx hb dX7_extend_101 (by decide) (fun c54 => ?_) (fun c54 => ?_)
                · have h55 : 1 ≤ v53.toInt := rg_ne_lo c54 lv53 (by decide : (0 : Int) ≤ (0 : Int32).toInt) (by decide : (0 : Int32).toInt ≤ 0) (by decide)
                  exact jn27 x8 x9 x10 _ _ _   hP hD hS (lv_sub hl [0, 1, 2, 3, 4, 5, 6, 7, 8, 9] rfl)
                · have h56 : v53.toInt ≤ 0 := rg_eq_hi c54 (by decide : (0 : Int32).toInt ≤ 0)
                  refine lv_aload_n hx hb dX7_extend_104 rfl (lv_at hl 3 rfl) ?_
                  refine lv_aload_n hx hb dX7_extend_105 rfl (lv_at hl 4 rfl) ?_
                  refine lv_aload_n hx hb dX7_extend_106 rfl (lv_at hl 5 rfl) ?_
                  refine lv_iload hx hb dX7_extend_107 (lv_at hl 1 rfl) ?_
                  refine lv_iload hx hb dX7_extend_109 (lv_at hl 7 rfl) ?_
                  refine lv_iconst (v := 1) hx hb dX7_extend_111 (by decide) ?_
                  refine lv_iload hx hb dX7_extend_112 (lv_at hl 1 rfl) ?_
                  refine rg_shl1 (lo := 2) (hi := 32) hx hb dX7_extend_114 h51 r19u (by decide) (fun v57 ev57 lv57 uv57 => ?_)
                  refine rg_ior (k := 6) (hi := 63) hx hb dX7_extend_115 a1l a1u lv57 uv57 (by decide) (fun v58 ev58 lv58 uv58 => ?_)
                  refine lv_iload hx hb dX7_extend_116 (lv_at hl 8 rfl) ?_
                  refine lv_iconst (v := 1) hx hb dX7_extend_118 (by decide) ?_
                  refine lv_iload hx hb dX7_extend_119 (lv_at hl 2 rfl) ?_
                  refine rg_shl1 (lo := 1) (hi := 256) hx hb dX7_extend_121 l6 h16 (by decide) (fun v59 ev59 lv59 uv59 => ?_)
                  refine lv_ior hx hb dX7_extend_122 ?_
                  refine lv_topi (fun v60 ev60 => ?_)
                  refine lv_iload hx hb dX7_extend_123 (lv_at hl 0 rfl) ?_
                  refine ms_cVv (qc := (RX7, TX7, 4)) (wc := [(q0, .inr (7, [.int x8, .int x9, .int x10, .int s0_3])), (q1, .inr (2, [.int s1_0, .int s1_1, .int s1_2, .int s1_3, .int s1_4, .ref q2, .ref q3, .ref q5, .ref q6, .ref q7, .ref q8, .ref q9, .ref q10])), (q2, .inl (cA 0, 9, .inl f2)), (q3, .inl (cA 0, 9, .inl f3)), (q4, .inl (cA 0, 9, .inl f4)), (q5, .inl (cA 0, 9, .inl f5))]) (wr := []) ⟨hx, hb, hml, hown, hts⟩ hE (kX7_extend_4 l D cA q0 q1 q2 q3 q4 q5 q6 q7 q8 q9 q10 x8 x9 x10 s0_3 s1_0 s1_1 s1_2 s1_3 s1_4 f2 f3 f4 f5 r19 v58 v60 v23 (rg_le s0_3l (by decide)) (rg_ge h50 (by decide)) (rg_le s1_0l (by decide)) (rg_ge s1_0u (by decide)) (rg_le s1_1l (by decide)) (rg_ge s1_1u (by decide)) (rg_le s1_2l (by decide)) (rg_ge s1_2u (by decide)) (rg_le h17 (by decide)) (rg_ge s1_3u (by decide)) (rg_le s1_4l (by decide)) (rg_ge s1_4u (by decide)) (rg_Smono f2_0 (by decide) (by decide) (by decide) (by decide)) (rg_Smono f3_0 (by decide) (by decide) (by decide) (by decide)) (rg_Smono f5_0 (by decide) (by decide) (by decide) (by decide)) (rg_le h51 (by decide)) (rg_ge r19u (by decide)) (rg_le lv58 (by decide)) (rg_ge uv58 (by decide)) (ms_pcU (rg_le a1l (by decide)) (rg_ge a1u (by decide)) h51 r19u ev52 ev53 c54 ev57 ev58 hpf)) (cwV 6 hts gX7_extend_X7_extend rfl rfl rfl (by decide +kernel) ⟨Nat.le_of_ble_eq_true rfl, Nat.le_of_ble_eq_true rfl⟩) hP hD hS hA [0, 3, 4, 5, 1, 2] [] rfl rfl rfl rfl (by decide) 0 7 rfl rfl rfl hl.1 rfl (Nat.le_of_ble_eq_true rfl) dX7_extend_125 ⟨Nat.le_of_ble_eq_true rfl, Nat.le_of_ble_eq_true rfl⟩ (fun u61 H locs hp hP hD hS => ?_)
                  have hP : va_P D vwCl [(q0, .inr (7, [.int (u61.1 0), .int (u61.1 1), .int (u61.1 2), .int s0_3])), (q1, .inr (2, [.int s1_0, .int s1_1, .int s1_2, .int s1_3, .int s1_4, .ref q2, .ref q3, .ref q5, .ref q6, .ref q7, .ref q8, .ref q9, .ref q10])), (q2, .inl (cA 0, 9, .inl f2)), (q3, .inl (cA 0, 9, .inl f3)), (q4, .inl (cA 0, 9, .inl f4)), (q5, .inl (cA 0, 9, .inl f5))] H := hP
                  have hD : va_D A [(q0, .inr (7, [.int (u61.1 0), .int (u61.1 1), .int (u61.1 2), .int s0_3])), (q1, .inr (2, [.int s1_0, .int s1_1, .int s1_2, .int s1_3, .int s1_4, .ref q2, .ref q3, .ref q5, .ref q6, .ref q7, .ref q8, .ref q9, .ref q10])), (q2, .inl (cA 0, 9, .inl f2)), (q3, .inl (cA 0, 9, .inl f3)), (q4, .inl (cA 0, 9, .inl f4)), (q5, .inl (cA 0, 9, .inl f5))] := hD
                  exact jn27 (u61.1 0) (u61.1 1) (u61.1 2) _ _ _   (hP.sub [0, 4, 5, 1, 2, 3] rfl) (hD.sub [0, 4, 5, 1, 2, 3] (by decide) rfl) hS (lv_sub hl [0, 1, 2, 3, 4, 5, 6, 7, 8, 9] rfl)
            · have h63 : 3 ≤ r46.toInt := rg_le_lo (rg_nlt c47) (by decide : (3 : Int) ≤ (3 : Int32).toInt)
              refine lv_aload_n hx hb dX7_extend_67 rfl (lv_at hl 3 rfl) ?_
              refine lv_iload hx hb dX7_extend_68 (lv_at hl 7 rfl) ?_
              refine lv_iload hx hb dX7_extend_70 (lv_at hl 8 rfl) ?_
              refine lv_iconst (v := 1) hx hb dX7_extend_72 (by decide) ?_
              refine lv_iload hx hb dX7_extend_73 (lv_at hl 2 rfl) ?_
              refine rg_shl1 (lo := 1) (hi := 256) hx hb dX7_extend_75 l6 h16 (by decide) (fun v64 ev64 lv64 uv64 => ?_)
              refine lv_ior hx hb dX7_extend_76 ?_
              refine lv_topi (fun v65 ev65 => ?_)
              refine lv_iload hx hb dX7_extend_77 (lv_at hl 0 rfl) ?_
              refine ms_cVv (qc := (RX7, TX7, 4)) (wc := [(q0, .inr (7, [.int x8, .int x9, .int x10, .int s0_3]))]) (wr := [(q4, .inl (cA 0, 9, .inl f4)), (q5, .inl (cA 0, 9, .inl f5)), (q1, .inr (2, [.int s1_0, .int s1_1, .int s1_2, .int s1_3, .int s1_4, .ref q2, .ref q3, .ref q5, .ref q6, .ref q7, .ref q8, .ref q9, .ref q10])), (q2, .inl (cA 0, 9, .inl f2)), (q3, .inl (cA 0, 9, .inl f3))]) ⟨hx, hb, hml, hown, hts⟩ hE (kX7_compare_1 l D cA q0 x8 x9 x10 s0_3 a1 v65 v23 (rg_le s0_3l (by decide)) (rg_ge s0_3u (by decide)) (rg_le a1l (by decide)) (rg_ge a1u (by decide))) (cwV 3 hts gX7_extend_X7_compare rfl rfl rfl (by decide +kernel) ⟨Nat.le_of_ble_eq_true rfl, Nat.le_of_ble_eq_true rfl⟩) hP hD hS hA [0] [1, 2, 3, 4, 5] rfl rfl rfl rfl (by decide) 0 7 rfl rfl rfl hl.1 rfl (Nat.le_of_ble_eq_true rfl) dX7_extend_79 ⟨Nat.le_of_ble_eq_true rfl, Nat.le_of_ble_eq_true rfl⟩ (fun u66 H locs hp hP hD hS => ?_)
              have hP : va_P D vwCl [(q4, .inl (cA 0, 9, .inl f4)), (q5, .inl (cA 0, 9, .inl f5)), (q1, .inr (2, [.int s1_0, .int s1_1, .int s1_2, .int s1_3, .int s1_4, .ref q2, .ref q3, .ref q5, .ref q6, .ref q7, .ref q8, .ref q9, .ref q10])), (q2, .inl (cA 0, 9, .inl f2)), (q3, .inl (cA 0, 9, .inl f3)), (q0, .inr (7, [.int (u66.1 0), .int (u66.1 1), .int (u66.1 2), .int s0_3]))] H := hP
              have hD : va_D A [(q4, .inl (cA 0, 9, .inl f4)), (q5, .inl (cA 0, 9, .inl f5)), (q1, .inr (2, [.int s1_0, .int s1_1, .int s1_2, .int s1_3, .int s1_4, .ref q2, .ref q3, .ref q5, .ref q6, .ref q7, .ref q8, .ref q9, .ref q10])), (q2, .inl (cA 0, 9, .inl f2)), (q3, .inl (cA 0, 9, .inl f3)), (q0, .inr (7, [.int (u66.1 0), .int (u66.1 1), .int (u66.1 2), .int s0_3]))] := hD
              refine lv_goto (tgt := 128) hx hb dX7_extend_82 (by decide) ?_
              exact jn27 (u66.1 0) (u66.1 1) (u66.1 2) _ _ _   (hP.sub [5, 0, 1, 2, 3, 4] rfl) (hD.sub [5, 0, 1, 2, 3, 4] (by decide) rfl) hS (lv_sub hl [0, 1, 2, 3, 4, 5, 6, 7, 8, 9] rfl)
    exact lp11 10 0 s0_0 s0_1 s0_2 _ _ _ (rg_le (by decide : (0 : Int) ≤ (0 : Int32).toInt) (by decide)) (rg_ge (by decide : (0 : Int32).toInt ≤ 0) (by decide))  (rg_mi (by decide : (0 : Int) ≤ (0 : Int32).toInt) (by decide)) hP hD hS (lv_sub hl [0, 1, 2, 3, 4, 5, 6, 7] rfl)
  · have h68 : 7 ≤ r2.toInt := rg_lt_lo (rg_nle c3) (by decide : (6 : Int) ≤ (6 : Int32).toInt) (by decide)
    exact ms_vret hx hb hr hlk (fun i => [s0_0, s0_1, s0_2].getD i 0, fun i => [].getD i ms_z, fun i => [].getD i 0) trivial hP hD hS (Nat.le_of_ble_eq_true rfl) (Nat.le_of_ble_eq_true rfl) dX7_extend_10
set_option maxHeartbeats 4000000 in
set_option maxRecDepth 100000 in
theorem kX7_extend_6 (l : Launch) (D : va_G) (cA : Nat → ClassId) (q0 q1 q2 q3 q4 q5 q6 q7 q8 q9 q10 : Nat) (s0_0 : Int32) (s0_1 : Int32) (s0_2 : Int32) (s0_3 : Int32) (s1_0 : Int32) (s1_1 : Int32) (s1_2 : Int32) (s1_3 : Int32) (s1_4 : Int32) (f2 : Nat → Int32) (f3 : Nat → Int32) (f4 : Nat → Int32) (f5 : Nat → Int32) (a0 : Int32) (a1 : Int32) (a2 : Int32) (a3 : Int32) (s0_3l : 0 ≤ s0_3.toInt) (s0_3u : s0_3.toInt ≤ 5) (s1_0l : 0 ≤ s1_0.toInt) (s1_0u : s1_0.toInt ≤ 6) (s1_1l : 0 ≤ s1_1.toInt) (s1_1u : s1_1.toInt ≤ 4) (s1_2l : 0 ≤ s1_2.toInt) (s1_2u : s1_2.toInt ≤ 9) (s1_3l : 0 ≤ s1_3.toInt) (s1_3u : s1_3.toInt ≤ 9) (s1_4l : 0 ≤ s1_4.toInt) (s1_4u : s1_4.toInt ≤ 6) (f2_0 : rg_S f2 0 9 0 5) (f3_0 : rg_S f3 0 9 0 5) (f5_0 : rg_S f5 0 9 0 99) (a0l : 0 ≤ a0.toInt) (a0u : a0.toInt ≤ 5) (a1l : 0 ≤ a1.toInt) (a1u : a1.toInt ≤ 63) (hpf : ms_pc a1 = 1) : ms_Mv l yX7_extend wsX7_extend ({ frames := 6, cells := 0, slots := 0, locals := 169 } : Room) D cA [.ref q0, .ref q1, .ref q4, .int a0, .int a1, .int a2, .int a3] [(q0, .inr (7, [.int s0_0, .int s0_1, .int s0_2, .int s0_3])), (q1, .inr (2, [.int s1_0, .int s1_1, .int s1_2, .int s1_3, .int s1_4, .ref q2, .ref q3, .ref q5, .ref q6, .ref q7, .ref q8, .ref q9, .ref q10])), (q2, .inl (cA 0, 9, .inl f2)), (q3, .inl (cA 0, 9, .inl f3)), (q4, .inl (cA 0, 9, .inl f4)), (q5, .inl (cA 0, 9, .inl f5))] (fun (u : ((Nat → Int32) × (Nat → Nat → Int32) × (Nat → Int64))) => True) (fun (u : ((Nat → Int32) × (Nat → Nat → Int32) × (Nat → Int64))) => [(q0, .inr (7, [.int (u.1 0), .int (u.1 1), .int (u.1 2), .int s0_3])), (q1, .inr (2, [.int s1_0, .int s1_1, .int s1_2, .int s1_3, .int s1_4, .ref q2, .ref q3, .ref q5, .ref q6, .ref q7, .ref q8, .ref q9, .ref q10])), (q2, .inl (cA 0, 9, .inl f2)), (q3, .inl (cA 0, 9, .inl f3)), (q4, .inl (cA 0, 9, .inl f4)), (q5, .inl (cA 0, 9, .inl f5))]) := by
  refine ms_Mv_of (cc := cX7_extend) (maxL := 10) (ret := none) (by decide) rfl (Nat.le_of_ble_eq_true rfl) ?_
  intro p e s m args below meth c A ls hB hE hA hP hD hS hl
  obtain ⟨hx, hb, hr, hml, hown, hts, hlk, hnm⟩ := hB
  have hown : s.vm.findClass RX7 = some m.cls := hown
  have hnX2 : ∀ w ∈ u_ws RX2 TX2 13, w ∈ wsX7_extend := fun _ h => List.mem_cons_of_mem _ (List.mem_append_left _ (List.mem_append_right _ (h)))
  have hnX7 : ∀ w ∈ u_ws RX7 TX7 4, w ∈ wsX7_extend := fun _ h => List.mem_cons_of_mem _ (List.mem_append_right _ (h))
  have hl : lv_has ls 10 [(0, .ref q0), (1, .ref q1), (2, .ref q4), (3, .int a0), (4, .int a1), (5, .int a2), (6, .int a3)] := hl
  refine lv_iload hx hb dX7_extend_0 (lv_at hl 4 rfl) ?_
  refine ms_cSi (wc := []) (wr := [(q0, .inr (7, [.int s0_0, .int s0_1, .int s0_2, .int s0_3])), (q1, .inr (2, [.int s1_0, .int s1_1, .int s1_2, .int s1_3, .int s1_4, .ref q2, .ref q3, .ref q5, .ref q6, .ref q7, .ref q8, .ref q9, .ref q10])), (q2, .inl (cA 0, 9, .inl f2)), (q3, .inl (cA 0, 9, .inl f3)), (q4, .inl (cA 0, 9, .inl f4)), (q5, .inl (cA 0, 9, .inl f5))]) ⟨hx, hb, hml, hown, hts⟩ hE (kJ6_bitCount_0f7a4_1 l D cA a1) (va_cwS 1 hts gX7_extend_J6_bitCount_0f7a4 rfl rfl rfl (by decide +kernel) ⟨Nat.le_of_ble_eq_true rfl, Nat.le_of_ble_eq_true rfl⟩) hP hD hS hA [] [0, 1, 2, 3, 4, 5] rfl rfl rfl rfl (by decide) rfl hl.1 rfl (Nat.le_of_ble_eq_true rfl) dX7_extend_2 ⟨Nat.le_of_ble_eq_true rfl, Nat.le_of_ble_eq_true rfl⟩ (fun r2 u1 H locs hp hP hD hS => ?_)
  obtain ⟨⟨r2l, r2u⟩, exu1, -⟩ := hp
  have hP : va_P D vwCl [(q0, .inr (7, [.int s0_0, .int s0_1, .int s0_2, .int s0_3])), (q1, .inr (2, [.int s1_0, .int s1_1, .int s1_2, .int s1_3, .int s1_4, .ref q2, .ref q3, .ref q5, .ref q6, .ref q7, .ref q8, .ref q9, .ref q10])), (q2, .inl (cA 0, 9, .inl f2)), (q3, .inl (cA 0, 9, .inl f3)), (q4, .inl (cA 0, 9, .inl f4)), (q5, .inl (cA 0, 9, .inl f5))] H := hP
  have hD : va_D A [(q0, .inr (7, [.int s0_0, .int s0_1, .int s0_2, .int s0_3])), (q1, .inr (2, [.int s1_0, .int s1_1, .int s1_2, .int s1_3, .int s1_4, .ref q2, .ref q3, .ref q5, .ref q6, .ref q7, .ref q8, .ref q9, .ref q10])), (q2, .inl (cA 0, 9, .inl f2)), (q3, .inl (cA 0, 9, .inl f3)), (q4, .inl (cA 0, 9, .inl f4)), (q5, .inl (cA 0, 9, .inl f5))] := hD
  refine lv_bipush (v := 6) hx hb dX7_extend_5 (by decide) ?_
  refine lv_icmp_le (tgt := 11) hx hb dX7_extend_7 (by decide) (fun c3 => ?_) (fun c3 => ?_)
  · have h4 : r2.toInt ≤ 6 := rg_le_hi c3 (by decide : (6 : Int32).toInt ≤ 6)
    refine lv_iconst (v := 0) hx hb dX7_extend_11 (by decide) ?_
    refine lv_istore (lv' := [(7, .int 0), (0, .ref q0), (1, .ref q1), (2, .ref q4), (3, .int a0), (4, .int a1), (5, .int a2), (6, .int a3)]) hx hb dX7_extend_12 hl (by decide) rfl (fun ls hl => ?_)
    have lp11 : ∀ (n12 : Nat) (x5 : Int32) (x8 : Int32) (x9 : Int32) (x10 : Int32) (H : Heap) (locs : List Loc) (ls : Array Slot), 0 ≤ x5.toInt → x5.toInt ≤ 9 → 9 + 1 ≤ x5.toInt + (n12 : Int) → va_P D vwCl [(q0, .inr (7, [.int x8, .int x9, .int x10, .int s0_3])), (q1, .inr (2, [.int s1_0, .int s1_1, .int s1_2, .int s1_3, .int s1_4, .ref q2, .ref q3, .ref q5, .ref q6, .ref q7, .ref q8, .ref q9, .ref q10])), (q2, .inl (cA 0, 9, .inl f2)), (q3, .inl (cA 0, 9, .inl f3)), (q4, .inl (cA 0, 9, .inl f4)), (q5, .inl (cA 0, 9, .inl f5))] H → va_D A [(q0, .inr (7, [.int x8, .int x9, .int x10, .int s0_3])), (q1, .inr (2, [.int s1_0, .int s1_1, .int s1_2, .int s1_3, .int s1_4, .ref q2, .ref q3, .ref q5, .ref q6, .ref q7, .ref q8, .ref q9, .ref q10])), (q2, .inl (cA 0, 9, .inl f2)), (q3, .inl (cA 0, 9, .inl f3)), (q4, .inl (cA 0, 9, .inl f4)), (q5, .inl (cA 0, 9, .inl f5))] → va_S A s.heap H locs → lv_has ls 10 [(7, .int x5), (0, .ref q0), (1, .ref q1), (2, .ref q4), (3, .int a0), (4, .int a1), (5, .int a2), (6, .int a3)] → W p l e ({ frames := 6, cells := 0, slots := 0, locals := 169 } : Room) s m args below meth c H locs 0 0 (MQ below (ms_Qv D A (fun (u : ((Nat → Int32) × (Nat → Nat → Int32) × (Nat → Int64))) => True) (fun (u : ((Nat → Int32) × (Nat → Nat → Int32) × (Nat → Int64))) => [(q0, .inr (7, [.int (u.1 0), .int (u.1 1), .int (u.1 2), .int s0_3])), (q1, .inr (2, [.int s1_0, .int s1_1, .int s1_2, .int s1_3, .int s1_4, .ref q2, .ref q3, .ref q5, .ref q6, .ref q7, .ref q8, .ref q9, .ref q10])), (q2, .inl (cA 0, 9, .inl f2)), (q3, .inl (cA 0, 9, .inl f3)), (q4, .inl (cA 0, 9, .inl f4)), (q5, .inl (cA 0, 9, .inl f5))])) args s 0 0 A) (F0 m 14 ls []) := by
      intro n12
      induction n12 with
      | zero => intro x5 x8 x9 x10 H locs ls l6 u7  hm14; exact (rg_m0 hm14 u7).elim
      | succ n12 ih13 =>
        intro x5 x8 x9 x10 H locs ls l6 u7  hm14 hP hD hS hl
        refine lv_iload hx hb dX7_extend_14 (lv_at hl 0 rfl) ?_
        refine lv_aload_n hx hb dX7_extend_16 rfl (lv_at hl 2 rfl) ?_
        refine va_get (D := D) (ci := 2) (v := .int s1_3) (C := RX2) (T := TX2) (N := 13) hx hb hts hnX2 hown hE.1 hP 1 rfl rfl 3 (by decide) (hts (.fieldLink RX7 39 "MovedStones$Land" "roads" "I") (List.mem_cons_of_mem _ (List.mem_append_left _ (List.mem_append_left _ (List.mem_append_left _ (List.mem_of_getElem? (i := 0) rfl)))))) (fun _ h9 => h9) rfl dX7_extend_17 ?_
        refine lv_icmp_ge (tgt := 134) hx hb dX7_extend_20 (by decide) (fun c15 => ?_) (fun c15 => ?_)
        · exact ms_vret hx hb hr hlk (fun i => [x8, x9, x10].getD i 0, fun i => [].getD i ms_z, fun i => [].getD i 0) trivial hP hD hS (Nat.le_of_ble_eq_true rfl) (Nat.le_of_ble_eq_true rfl) dX7_extend_134
        · have h16 : x5.toInt ≤ 8 := rg_lt_hi (rg_nle c15) s1_3u (by decide)
          have h17 : 1 ≤ s1_3.toInt := rg_lt_lo (rg_nle c15) l6 (by decide)
          refine lv_aload_n hx hb dX7_extend_23 rfl (lv_at hl 2 rfl) ?_
          refine lv_iload hx hb dX7_extend_24 (lv_at hl 0 rfl) ?_
          refine lv_iload_n hx hb dX7_extend_26 rfl (lv_at hl 4 rfl) ?_
          refine ms_cVi (qc := (RX2, TX2, 13)) (wc := [(q1, .inr (2, [.int s1_0, .int s1_1, .int s1_2, .int s1_3, .int s1_4, .ref q2, .ref q3, .ref q5, .ref q6, .ref q7, .ref q8, .ref q9, .ref q10])), (q2, .inl (cA 0, 9, .inl f2)), (q3, .inl (cA 0, 9, .inl f3))]) (wr := [(q0, .inr (7, [.int x8, .int x9, .int x10, .int s0_3])), (q4, .inl (cA 0, 9, .inl f4)), (q5, .inl (cA 0, 9, .inl f5))]) ⟨hx, hb, hml, hown, hts⟩ hE (kX2_otherEnd_1 l D cA q1 q2 q3 q5 q6 q7 q8 q9 q10 s1_0 s1_1 s1_2 s1_3 s1_4 f2 f3 x5 a0 (rg_le s1_0l (by decide)) (rg_ge s1_0u (by decide)) (rg_le s1_1l (by decide)) (rg_ge s1_1u (by decide)) (rg_le s1_2l (by decide)) (rg_ge s1_2u (by decide)) (rg_le h17 (by decide)) (rg_ge s1_3u (by decide)) (rg_le s1_4l (by decide)) (rg_ge s1_4u (by decide)) (rg_Smono f2_0 (by decide) (by decide) (by decide) (by decide)) (rg_Smono f3_0 (by decide) (by decide) (by decide) (by decide)) (rg_le l6 (by decide)) (rg_ge h16 (by decide))) (cwV 2 hts gX7_extend_X2_otherEnd rfl rfl rfl (by decide +kernel) ⟨Nat.le_of_ble_eq_true rfl, Nat.le_of_ble_eq_true rfl⟩) hP hD hS hA [1, 2, 3] [0, 4, 5] rfl rfl rfl rfl (by decide) 0 2 rfl rfl rfl hl.1 rfl (Nat.le_of_ble_eq_true rfl) dX7_extend_27 ⟨Nat.le_of_ble_eq_true rfl, Nat.le_of_ble_eq_true rfl⟩ (fun r19 u18 H locs hp hP hD hS => ?_)
          obtain ⟨⟨r19l, r19u⟩, exu18, -⟩ := hp
          have hP : va_P D vwCl [(q0, .inr (7, [.int x8, .int x9, .int x10, .int s0_3])), (q4, .inl (cA 0, 9, .inl f4)), (q5, .inl (cA 0, 9, .inl f5)), (q1, .inr (2, [.int s1_0, .int s1_1, .int s1_2, .int s1_3, .int s1_4, .ref q2, .ref q3, .ref q5, .ref q6, .ref q7, .ref q8, .ref q9, .ref q10])), (q2, .inl (cA 0, 9, .inl f2)), (q3, .inl (cA 0, 9, .inl f3))] H := hP
          have hD : va_D A [(q0, .inr (7, [.int x8, .int x9, .int x10, .int s0_3])), (q4, .inl (cA 0, 9, .inl f4)), (q5, .inl (cA 0, 9, .inl f5)), (q1, .inr (2, [.int s1_0, .int s1_1, .int s1_2, .int s1_3, .int s1_4, .ref q2, .ref q3, .ref q5, .ref q6, .ref q7, .ref q8, .ref q9, .ref q10])), (q2, .inl (cA 0, 9, .inl f2)), (q3, .inl (cA 0, 9, .inl f3))] := hD
          refine lv_istore (lv' := [(8, .int r19), (7, .int x5), (0, .ref q0), (1, .ref q1), (2, .ref q4), (3, .int a0), (4, .int a1), (5, .int a2), (6, .int a3)]) hx hb dX7_extend_30 hl (by decide) rfl (fun ls hl => ?_)
          refine lv_iload hx hb dX7_extend_32 (lv_at hl 8 rfl) ?_
          refine lv_aload_n hx hb dX7_extend_34 rfl (lv_at hl 4 rfl) ?_
          refine lv_iload hx hb dX7_extend_35 (lv_at hl 1 rfl) ?_
          refine rg_iald0 hx hb hE hP (q0 := 1) rfl l6 h16 (by decide) dX7_extend_37 (fun v20 ev20 => ?_)
          refine lv_iadd hx hb dX7_extend_38 ?_
          refine lv_topi (fun v21 ev21 => ?_)
          refine lv_aload_n hx hb dX7_extend_39 rfl (lv_at hl 3 rfl) ?_
          refine va_get (D := D) (ci := 2) (v := .ref q5) (C := RX2) (T := TX2) (N := 13) hx hb hts hnX2 hown hE.1 hP 3 rfl rfl 7 (by decide) (hts (.fieldLink RX7 46 "MovedStones$Land" "feet" "[I") (List.mem_cons_of_mem _ (List.mem_append_left _ (List.mem_append_left _ (List.mem_append_left _ (List.mem_of_getElem? (i := 1) rfl)))))) (fun _ h9 => h9) rfl dX7_extend_40 ?_
          refine lv_iload hx hb dX7_extend_43 (lv_at hl 1 rfl) ?_
          refine rg_iald hx hb hE hP (q0 := 2) rfl l6 h16 f5_0 (by decide) dX7_extend_45 (fun v22 ev22 lv22 uv22 => ?_)
          refine lv_isub hx hb dX7_extend_46 ?_
          refine lv_topi (fun v23 ev23 => ?_)
          refine lv_istore (lv' := [(9, .int v23), (8, .int r19), (7, .int x5), (0, .ref q0), (1, .ref q1), (2, .ref q4), (3, .int a0), (4, .int a1), (5, .int a2), (6, .int a3)]) hx hb dX7_extend_47 hl (by decide) rfl (fun ls hl => ?_)
          refine lv_iload hx hb dX7_extend_49 (lv_at hl 1 rfl) ?_
          refine lv_aload_n hx hb dX7_extend_51 rfl (lv_at hl 3 rfl) ?_
          refine va_get (D := D) (ci := 7) (v := .int s0_3) (C := RX7) (T := TX7) (N := 4) hx hb hts hnX7 hown hE.1 hP 0 rfl rfl 3 (by decide) (hts (.fieldLink RX7 26 "MovedStones$Rounds" "start" "I") (List.mem_cons_of_mem _ (List.mem_append_left _ (List.mem_append_left _ (List.mem_append_left _ (List.mem_of_getElem? (i := 2) rfl)))))) (fun _ h9 => h9) rfl dX7_extend_52 ?_
          have jn27 : ∀ (x24 : Int32) (x25 : Int32) (x26 : Int32) (H : Heap) (locs : List Loc) (ls : Array Slot), va_P D vwCl [(q0, .inr (7, [.int x24, .int x25, .int x26, .int s0_3])), (q4, .inl (cA 0, 9, .inl f4)), (q5, .inl (cA 0, 9, .inl f5)), (q1, .inr (2, [.int s1_0, .int s1_1, .int s1_2, .int s1_3, .int s1_4, .ref q2, .ref q3, .ref q5, .ref q6, .ref q7, .ref q8, .ref q9, .ref q10])), (q2, .inl (cA 0, 9, .inl f2)), (q3, .inl (cA 0, 9, .inl f3))] H → va_D A [(q0, .inr (7, [.int x24, .int x25, .int x26, .int s0_3])), (q4, .inl (cA 0, 9, .inl f4)), (q5, .inl (cA 0, 9, .inl f5)), (q1, .inr (2, [.int s1_0, .int s1_1, .int s1_2, .int s1_3, .int s1_4, .ref q2, .ref q3, .ref q5, .ref q6, .ref q7, .ref q8, .ref q9, .ref q10])), (q2, .inl (cA 0, 9, .inl f2)), (q3, .inl (cA 0, 9, .inl f3))] → va_S A s.heap H locs → lv_has ls 10 [(9, .int v23), (8, .int r19), (7, .int x5), (0, .ref q0), (1, .ref q1), (2, .ref q4), (3, .int a0), (4, .int a1), (5, .int a2), (6, .int a3)] → W p l e ({ frames := 6, cells := 0, slots := 0, locals := 169 } : Room) s m args below meth c H locs 0 0 (MQ below (ms_Qv D A (fun (u : ((Nat → Int32) × (Nat → Nat → Int32) × (Nat → Int64))) => True) (fun (u : ((Nat → Int32) × (Nat → Nat → Int32) × (Nat → Int64))) => [(q0, .inr (7, [.int (u.1 0), .int (u.1 1), .int (u.1 2), .int s0_3])), (q1, .inr (2, [.int s1_0, .int s1_1, .int s1_2, .int s1_3, .int s1_4, .ref q2, .ref q3, .ref q5, .ref q6, .ref q7, .ref q8, .ref q9, .ref q10])), (q2, .inl (cA 0, 9, .inl f2)), (q3, .inl (cA 0, 9, .inl f3)), (q4, .inl (cA 0, 9, .inl f4)), (q5, .inl (cA 0, 9, .inl f5))])) args s 0 0 A) (F0 m 128 ls []) := by
            intro x24 x25 x26 H locs ls   hP hD hS hl
            refine rg_iinc (lo := 1) (hi := 9) (fun z => [(7, .int z), (9, .int v23), (8, .int r19), (0, .ref q0), (1, .ref q1), (2, .ref q4), (3, .int a0), (4, .int a1), (5, .int a2), (6, .int a3)]) hx hb dX7_extend_128 hl (k := 2) rfl (by decide) l6 h16 (by decide) (fun _ => rfl) (fun v28 ev28 lv28 uv28 ls hl => ?_)
            have hl : lv_has ls 10 [(7, .int v28), (9, .int v23), (8, .int r19), (0, .ref q0), (1, .ref q1), (2, .ref q4), (3, .int a0), (4, .int a1), (5, .int a2), (6, .int a3)] := hl
            refine lv_goto (tgt := 14) hx hb dX7_extend_131 (by decide) ?_
            exact ih13 v28 x24 x25 x26 _ _ _ (rg_le lv28 (by decide)) (rg_ge uv28 (by decide))  (rg_ms hm14 ev28 (by decide)) (hP.sub [0, 3, 4, 5, 1, 2] rfl) (hD.sub [0, 3, 4, 5, 1, 2] (by decide) rfl) hS (lv_sub hl [0, 3, 4, 5, 6, 7, 8, 9] rfl)
          refine lv_icmp_ne (tgt := 85) hx hb dX7_extend_55 (by decide) (fun c29 => ?_) (fun c29 => ?_)
          · refine lv_iload hx hb dX7_extend_85 (lv_at hl 1 rfl) ?_
            refine lv_aload_n hx hb dX7_extend_87 rfl (lv_at hl 3 rfl) ?_
            refine va_get (D := D) (ci := 7) (v := .int s0_3) (C := RX7) (T := TX7) (N := 4) hx hb hts hnX7 hown hE.1 hP 0 rfl rfl 3 (by decide) (hts (.fieldLink RX7 26 "MovedStones$Rounds" "start" "I") (List.mem_cons_of_mem _ (List.mem_append_left _ (List.mem_append_left _ (List.mem_append_left _ (List.mem_of_getElem? (i := 2) rfl)))))) (fun _ h9 => h9) rfl dX7_extend_88 ?_
            refine lv_icmp_le (tgt := 128) hx hb dX7_extend_91 (by decide) (fun c30 => ?_) (fun c30 => ?_)
            · exact jn27 x8 x9 x10 _ _ _   hP hD hS (lv_sub hl [0, 1, 2, 3, 4, 5, 6, 7, 8, 9] rfl)
            · have h31 : s0_3.toInt ≤ 4 := rg_lt_hi (rg_nle c30) r19u (by decide)
              have h32 : 1 ≤ r19.toInt := rg_lt_lo (rg_nle c30) s0_3l (by decide)
              refine lv_iload hx hb dX7_extend_94 (lv_at hl 7 rfl) ?_
              refine lv_iload hx hb dX7_extend_96 (lv_at hl 1 rfl) ?_
              refine lv_ishr hx hb dX7_extend_98 ?_
              refine lv_topi (fun v33 ev33 => ?_)
              refine lv_iconst (v := 1) hx hb dX7_extend_99 (by decide) ?_
              refine rg_iand1 hx hb dX7_extend_100 (fun v34 ev34 lv34 uv34 => ?_)
              refine lv_if_ne (tgt := 128) hx hb dX7_extend_101 (by decide) (fun c35 => ?_) (fun c35 => ?_)
              · have h36 : 1 ≤ v34.toInt := rg_ne_lo c35 lv34 (by decide : (0 : Int) ≤ (0 : Int32).toInt) (by decide : (0 : Int32).toInt ≤ 0) (by decide)
                exact jn27 x8 x9 x10 _ _ _   hP hD hS (lv_sub hl [0, 1, 2, 3, 4, 5, 6, 7, 8, 9] rfl)
              · have h37 : v34.toInt ≤ 0 := rg_eq_hi c35 (by decide : (0 : Int32).toInt ≤ 0)
                refine lv_aload_n hx hb dX7_extend_104 rfl (lv_at hl 3 rfl) ?_
                refine lv_aload_n hx hb dX7_extend_105 rfl (lv_at hl 4 rfl) ?_
                refine lv_aload_n hx hb dX7_extend_106 rfl (lv_at hl 5 rfl) ?_
                refine lv_iload hx hb dX7_extend_107 (lv_at hl 1 rfl) ?_
                refine lv_iload hx hb dX7_extend_109 (lv_at hl 7 rfl) ?_
                refine lv_iconst (v := 1) hx hb dX7_extend_111 (by decide) ?_
                refine lv_iload hx hb dX7_extend_112 (lv_at hl 1 rfl) ?_
                refine rg_shl1 (lo := 2) (hi := 32) hx hb dX7_extend_114 h32 r19u (by decide) (fun v38 ev38 lv38 uv38 => ?_)
                refine rg_ior (k := 6) (hi := 63) hx hb dX7_extend_115 a1l a1u lv38 uv38 (by decide) (fun v39 ev39 lv39 uv39 => ?_)
                refine lv_iload hx hb dX7_extend_116 (lv_at hl 8 rfl) ?_
                refine lv_iconst (v := 1) hx hb dX7_extend_118 (by decide) ?_
                refine lv_iload hx hb dX7_extend_119 (lv_at hl 2 rfl) ?_
                refine rg_shl1 (lo := 1) (hi := 256) hx hb dX7_extend_121 l6 h16 (by decide) (fun v40 ev40 lv40 uv40 => ?_)
                refine lv_ior hx hb dX7_extend_122 ?_
                refine lv_topi (fun v41 ev41 => ?_)
                refine lv_iload hx hb dX7_extend_123 (lv_at hl 0 rfl) ?_
                refine ms_cVv (qc := (RX7, TX7, 4)) (wc := [(q0, .inr (7, [.int x8, .int x9, .int x10, .int s0_3])), (q1, .inr (2, [.int s1_0, .int s1_1, .int s1_2, .int s1_3, .int s1_4, .ref q2, .ref q3, .ref q5, .ref q6, .ref q7, .ref q8, .ref q9, .ref q10])), (q2, .inl (cA 0, 9, .inl f2)), (q3, .inl (cA 0, 9, .inl f3)), (q4, .inl (cA 0, 9, .inl f4)), (q5, .inl (cA 0, 9, .inl f5))]) (wr := []) ⟨hx, hb, hml, hown, hts⟩ hE (kX7_extend_5 l D cA q0 q1 q2 q3 q4 q5 q6 q7 q8 q9 q10 x8 x9 x10 s0_3 s1_0 s1_1 s1_2 s1_3 s1_4 f2 f3 f4 f5 r19 v39 v41 v23 (rg_le s0_3l (by decide)) (rg_ge h31 (by decide)) (rg_le s1_0l (by decide)) (rg_ge s1_0u (by decide)) (rg_le s1_1l (by decide)) (rg_ge s1_1u (by decide)) (rg_le s1_2l (by decide)) (rg_ge s1_2u (by decide)) (rg_le h17 (by decide)) (rg_ge s1_3u (by decide)) (rg_le s1_4l (by decide)) (rg_ge s1_4u (by decide)) (rg_Smono f2_0 (by decide) (by decide) (by decide) (by decide)) (rg_Smono f3_0 (by decide) (by decide) (by decide) (by decide)) (rg_Smono f5_0 (by decide) (by decide) (by decide) (by decide)) (rg_le h32 (by decide)) (rg_ge r19u (by decide)) (rg_le lv39 (by decide)) (rg_ge uv39 (by decide)) (ms_pcU (rg_le a1l (by decide)) (rg_ge a1u (by decide)) h32 r19u ev33 ev34 c35 ev38 ev39 hpf)) (cwV 6 hts gX7_extend_X7_extend rfl rfl rfl (by decide +kernel) ⟨Nat.le_of_ble_eq_true rfl, Nat.le_of_ble_eq_true rfl⟩) hP hD hS hA [0, 3, 4, 5, 1, 2] [] rfl rfl rfl rfl (by decide) 0 7 rfl rfl rfl hl.1 rfl (Nat.le_of_ble_eq_true rfl) dX7_extend_125 ⟨Nat.le_of_ble_eq_true rfl, Nat.le_of_ble_eq_true rfl⟩ (fun u42 H locs hp hP hD hS => ?_)
                have hP : va_P D vwCl [(q0, .inr (7, [.int (u42.1 0), .int (u42.1 1), .int (u42.1 2), .int s0_3])), (q1, .inr (2, [.int s1_0, .int s1_1, .int s1_2, .int s1_3, .int s1_4, .ref q2, .ref q3, .ref q5, .ref q6, .ref q7, .ref q8, .ref q9, .ref q10])), (q2, .inl (cA 0, 9, .inl f2)), (q3, .inl (cA 0, 9, .inl f3)), (q4, .inl (cA 0, 9, .inl f4)), (q5, .inl (cA 0, 9, .inl f5))] H := hP
                have hD : va_D A [(q0, .inr (7, [.int (u42.1 0), .int (u42.1 1), .int (u42.1 2), .int s0_3])), (q1, .inr (2, [.int s1_0, .int s1_1, .int s1_2, .int s1_3, .int s1_4, .ref q2, .ref q3, .ref q5, .ref q6, .ref q7, .ref q8, .ref q9, .ref q10])), (q2, .inl (cA 0, 9, .inl f2)), (q3, .inl (cA 0, 9, .inl f3)), (q4, .inl (cA 0, 9, .inl f4)), (q5, .inl (cA 0, 9, .inl f5))] := hD
                exact jn27 (u42.1 0) (u42.1 1) (u42.1 2) _ _ _   (hP.sub [0, 4, 5, 1, 2, 3] rfl) (hD.sub [0, 4, 5, 1, 2, 3] (by decide) rfl) hS (lv_sub hl [0, 1, 2, 3, 4, 5, 6, 7, 8, 9] rfl)
          · have h44 : 0 ≤ r19.toInt := rg_eq_lo c29 s0_3l
            refine lv_iload hx hb dX7_extend_58 (lv_at hl 7 rfl) ?_
            refine ms_cSi (wc := []) (wr := [(q0, .inr (7, [.int x8, .int x9, .int x10, .int s0_3])), (q4, .inl (cA 0, 9, .inl f4)), (q5, .inl (cA 0, 9, .inl f5)), (q1, .inr (2, [.int s1_0, .int s1_1, .int s1_2, .int s1_3, .int s1_4, .ref q2, .ref q3, .ref q5, .ref q6, .ref q7, .ref q8, .ref q9, .ref q10])), (q2, .inl (cA 0, 9, .inl f2)), (q3, .inl (cA 0, 9, .inl f3))]) ⟨hx, hb, hml, hown, hts⟩ hE (kJ6_bitCount_0f7a4_1 l D cA a1) (va_cwS 1 hts gX7_extend_J6_bitCount_0f7a4 rfl rfl rfl (by decide +kernel) ⟨Nat.le_of_ble_eq_true rfl, Nat.le_of_ble_eq_true rfl⟩) hP hD hS hA [] [0, 1, 2, 3, 4, 5] rfl rfl rfl rfl (by decide) rfl hl.1 rfl (Nat.le_of_ble_eq_true rfl) dX7_extend_60 ⟨Nat.le_of_ble_eq_true rfl, Nat.le_of_ble_eq_true rfl⟩ (fun r46 u45 H locs hp hP hD hS => ?_)
            obtain ⟨⟨r46l, r46u⟩, exu45, -⟩ := hp
            have hP : va_P D vwCl [(q0, .inr (7, [.int x8, .int x9, .int x10, .int s0_3])), (q4, .inl (cA 0, 9, .inl f4)), (q5, .inl (cA 0, 9, .inl f5)), (q1, .inr (2, [.int s1_0, .int s1_1, .int s1_2, .int s1_3, .int s1_4, .ref q2, .ref q3, .ref q5, .ref q6, .ref q7, .ref q8, .ref q9, .ref q10])), (q2, .inl (cA 0, 9, .inl f2)), (q3, .inl (cA 0, 9, .inl f3))] H := hP
            have hD : va_D A [(q0, .inr (7, [.int x8, .int x9, .int x10, .int s0_3])), (q4, .inl (cA 0, 9, .inl f4)), (q5, .inl (cA 0, 9, .inl f5)), (q1, .inr (2, [.int s1_0, .int s1_1, .int s1_2, .int s1_3, .int s1_4, .ref q2, .ref q3, .ref q5, .ref q6, .ref q7, .ref q8, .ref q9, .ref q10])), (q2, .inl (cA 0, 9, .inl f2)), (q3, .inl (cA 0, 9, .inl f3))] := hD
            refine lv_iconst (v := 3) hx hb dX7_extend_63 (by decide) ?_
            refine lv_icmp_lt (tgt := 85) hx hb dX7_extend_64 (by decide) (fun c47 => ?_) (fun c47 => ?_)
            · have h48 : r46.toInt ≤ 2 := rg_lt_hi c47 (by decide : (3 : Int32).toInt ≤ 3) (by decide)
              refine lv_iload hx hb dX7_extend_85 (lv_at hl 1 rfl) ?_
              refine lv_aload_n hx hb dX7_extend_87 rfl (lv_at hl 3 rfl) ?_
              refine va_get (D := D) (ci := 7) (v := .int s0_3) (C := RX7) (T := TX7) (N := 4) hx hb hts hnX7 hown hE.1 hP 0 rfl rfl 3 (by decide) (hts (.fieldLink RX7 26 "MovedStones$Rounds" "start" "I") (List.mem_cons_of_mem _ (List.mem_append_left _ (List.mem_append_left _ (List.mem_append_left _ (List.mem_of_getElem? (i := 2) rfl)))))) (fun _ h9 => h9) rfl dX7_extend_88 ?_
              refine lv_icmp_le (tgt := 128) hx hb dX7_extend_91 (by decide) (fun c49 => ?_) (fun c49 => ?_)
              · exact jn27 x8 x9 x10 _ _ _   hP hD hS (lv_sub hl [0, 1, 2, 3, 4, 5, 6, 7, 8, 9] rfl)
              · have h50 : s0_3.toInt ≤ 4 := rg_lt_hi (rg_nle c49) r19u (by decide)
                have h51 : 1 ≤ r19.toInt := rg_lt_lo (rg_nle c49) s0_3l (by decide)
                refine lv_iload hx hb dX7_extend_94 (lv_at hl 7 rfl) ?_
                refine lv_iload hx hb dX7_extend_96 (lv_at hl 1 rfl) ?_
                refine lv_ishr hx hb dX7_extend_98 ?_
                refine lv_topi (fun v52 ev52 => ?_)
                refine lv_iconst (v := 1) hx hb dX7_extend_99 (by decide) ?_
                refine rg_iand1 hx hb dX7_extend_100 (fun v53 ev53 lv53 uv53 => ?_)
                refine lv_if_ne (tgt := 128) hx hb dX7_extend_101 (by decide) (fun c54 => ?_) (fun c54 => ?_)
                · have h55 : 1 ≤ v53.toInt := rg_ne_lo c54 lv53 (by decide : (0 : Int) ≤ (0 : Int32).toInt) (by decide : (0 : Int32).toInt ≤ 0) (by decide)
                  exact jn27 x8 x9 x10 _ _ _   hP hD hS (lv_sub hl [0, 1, 2, 3, 4, 5, 6, 7, 8, 9] rfl)
                · have h56 : v53.toInt ≤ 0 := rg_eq_hi c54 (by decide : (0 : Int32).toInt ≤ 0)
                  refine lv_aload_n hx hb dX7_extend_104 rfl (lv_at hl 3 rfl) ?_
                  refine lv_aload_n hx hb dX7_extend_105 rfl (lv_at hl 4 rfl) ?_
                  refine lv_aload_n hx hb dX7_extend_106 rfl (lv_at hl 5 rfl) ?_
                  refine lv_iload hx hb dX7_extend_107 (lv_at hl 1 rfl) ?_
                  refine lv_iload hx hb dX7_extend_109 (lv_at hl 7 rfl) ?_
                  refine lv_iconst (v := 1) hx hb dX7_extend_111 (by decide) ?_
                  refine lv_iload hx hb dX7_extend_112 (lv_at hl 1 rfl) ?_
                  refine rg_shl1 (lo := 2) (hi := 32) hx hb dX7_extend_114 h51 r19u (by decide) (fun v57 ev57 lv57 uv57 => ?_)
                  refine rg_ior (k := 6) (hi := 63) hx hb dX7_extend_115 a1l a1u lv57 uv57 (by decide) (fun v58 ev58 lv58 uv58 => ?_)
                  refine lv_iload hx hb dX7_extend_116 (lv_at hl 8 rfl) ?_
                  refine lv_iconst (v := 1) hx hb dX7_extend_118 (by decide) ?_
                  refine lv_iload hx hb dX7_extend_119 (lv_at hl 2 rfl) ?_
                  refine rg_shl1 (lo := 1) (hi := 256) hx hb dX7_extend_121 l6 h16 (by decide) (fun v59 ev59 lv59 uv59 => ?_)
                  refine lv_ior hx hb dX7_extend_122 ?_
                  refine lv_topi (fun v60 ev60 => ?_)
                  refine lv_iload hx hb dX7_extend_123 (lv_at hl 0 rfl) ?_
                  refine ms_cVv (qc := (RX7, TX7, 4)) (wc := [(q0, .inr (7, [.int x8, .int x9, .int x10, .int s0_3])), (q1, .inr (2, [.int s1_0, .int s1_1, .int s1_2, .int s1_3, .int s1_4, .ref q2, .ref q3, .ref q5, .ref q6, .ref q7, .ref q8, .ref q9, .ref q10])), (q2, .inl (cA 0, 9, .inl f2)), (q3, .inl (cA 0, 9, .inl f3)), (q4, .inl (cA 0, 9, .inl f4)), (q5, .inl (cA 0, 9, .inl f5))]) (wr := []) ⟨hx, hb, hml, hown, hts⟩ hE (kX7_extend_5 l D cA q0 q1 q2 q3 q4 q5 q6 q7 q8 q9 q10 x8 x9 x10 s0_3 s1_0 s1_1 s1_2 s1_3 s1_4 f2 f3 f4 f5 r19 v58 v60 v23 (rg_le s0_3l (by decide)) (rg_ge h50 (by decide)) (rg_le s1_0l (by decide)) (rg_ge s1_0u (by decide)) (rg_le s1_1l (by decide)) (rg_ge s1_1u (by decide)) (rg_le s1_2l (by decide)) (rg_ge s1_2u (by decide)) (rg_le h17 (by decide)) (rg_ge s1_3u (by decide)) (rg_le s1_4l (by decide)) (rg_ge s1_4u (by decide)) (rg_Smono f2_0 (by decide) (by decide) (by decide) (by decide)) (rg_Smono f3_0 (by decide) (by decide) (by decide) (by decide)) (rg_Smono f5_0 (by decide) (by decide) (by decide) (by decide)) (rg_le h51 (by decide)) (rg_ge r19u (by decide)) (rg_le lv58 (by decide)) (rg_ge uv58 (by decide)) (ms_pcU (rg_le a1l (by decide)) (rg_ge a1u (by decide)) h51 r19u ev52 ev53 c54 ev57 ev58 hpf)) (cwV 6 hts gX7_extend_X7_extend rfl rfl rfl (by decide +kernel) ⟨Nat.le_of_ble_eq_true rfl, Nat.le_of_ble_eq_true rfl⟩) hP hD hS hA [0, 3, 4, 5, 1, 2] [] rfl rfl rfl rfl (by decide) 0 7 rfl rfl rfl hl.1 rfl (Nat.le_of_ble_eq_true rfl) dX7_extend_125 ⟨Nat.le_of_ble_eq_true rfl, Nat.le_of_ble_eq_true rfl⟩ (fun u61 H locs hp hP hD hS => ?_)
                  have hP : va_P D vwCl [(q0, .inr (7, [.int (u61.1 0), .int (u61.1 1), .int (u61.1 2), .int s0_3])), (q1, .inr (2, [.int s1_0, .int s1_1, .int s1_2, .int s1_3, .int s1_4, .ref q2, .ref q3, .ref q5, .ref q6, .ref q7, .ref q8, .ref q9, .ref q10])), (q2, .inl (cA 0, 9, .inl f2)), (q3, .inl (cA 0, 9, .inl f3)), (q4, .inl (cA 0, 9, .inl f4)), (q5, .inl (cA 0, 9, .inl f5))] H := hP
                  have hD : va_D A [(q0, .inr (7, [.int (u61.1 0), .int (u61.1 1), .int (u61.1 2), .int s0_3])), (q1, .inr (2, [.int s1_0, .int s1_1, .int s1_2, .int s1_3, .int s1_4, .ref q2, .ref q3, .ref q5, .ref q6, .ref q7, .ref q8, .ref q9, .ref q10])), (q2, .inl (cA 0, 9, .inl f2)), (q3, .inl (cA 0, 9, .inl f3)), (q4, .inl (cA 0, 9, .inl f4)), (q5, .inl (cA 0, 9, .inl f5))] := hD
                  exact jn27 (u61.1 0) (u61.1 1) (u61.1 2) _ _ _   (hP.sub [0, 4, 5, 1, 2, 3] rfl) (hD.sub [0, 4, 5, 1, 2, 3] (by decide) rfl) hS (lv_sub hl [0, 1, 2, 3, 4, 5, 6, 7, 8, 9] rfl)
            · have h63 : 3 ≤ r46.toInt := rg_le_lo (rg_nlt c47) (by decide : (3 : Int) ≤ (3 : Int32).toInt)
              refine lv_aload_n hx hb dX7_extend_67 rfl (lv_at hl 3 rfl) ?_
              refine lv_iload hx hb dX7_extend_68 (lv_at hl 7 rfl) ?_
              refine lv_iload hx hb dX7_extend_70 (lv_at hl 8 rfl) ?_
              refine lv_iconst (v := 1) hx hb dX7_extend_72 (by decide) ?_
              refine lv_iload hx hb dX7_extend_73 (lv_at hl 2 rfl) ?_
              refine rg_shl1 (lo := 1) (hi := 256) hx hb dX7_extend_75 l6 h16 (by decide) (fun v64 ev64 lv64 uv64 => ?_)
              refine lv_ior hx hb dX7_extend_76 ?_
              refine lv_topi (fun v65 ev65 => ?_)
              refine lv_iload hx hb dX7_extend_77 (lv_at hl 0 rfl) ?_
              refine ms_cVv (qc := (RX7, TX7, 4)) (wc := [(q0, .inr (7, [.int x8, .int x9, .int x10, .int s0_3]))]) (wr := [(q4, .inl (cA 0, 9, .inl f4)), (q5, .inl (cA 0, 9, .inl f5)), (q1, .inr (2, [.int s1_0, .int s1_1, .int s1_2, .int s1_3, .int s1_4, .ref q2, .ref q3, .ref q5, .ref q6, .ref q7, .ref q8, .ref q9, .ref q10])), (q2, .inl (cA 0, 9, .inl f2)), (q3, .inl (cA 0, 9, .inl f3))]) ⟨hx, hb, hml, hown, hts⟩ hE (kX7_compare_1 l D cA q0 x8 x9 x10 s0_3 a1 v65 v23 (rg_le s0_3l (by decide)) (rg_ge s0_3u (by decide)) (rg_le a1l (by decide)) (rg_ge a1u (by decide))) (cwV 3 hts gX7_extend_X7_compare rfl rfl rfl (by decide +kernel) ⟨Nat.le_of_ble_eq_true rfl, Nat.le_of_ble_eq_true rfl⟩) hP hD hS hA [0] [1, 2, 3, 4, 5] rfl rfl rfl rfl (by decide) 0 7 rfl rfl rfl hl.1 rfl (Nat.le_of_ble_eq_true rfl) dX7_extend_79 ⟨Nat.le_of_ble_eq_true rfl, Nat.le_of_ble_eq_true rfl⟩ (fun u66 H locs hp hP hD hS => ?_)
              have hP : va_P D vwCl [(q4, .inl (cA 0, 9, .inl f4)), (q5, .inl (cA 0, 9, .inl f5)), (q1, .inr (2, [.int s1_0, .int s1_1, .int s1_2, .int s1_3, .int s1_4, .ref q2, .ref q3, .ref q5, .ref q6, .ref q7, .ref q8, .ref q9, .ref q10])), (q2, .inl (cA 0, 9, .inl f2)), (q3, .inl (cA 0, 9, .inl f3)), (q0, .inr (7, [.int (u66.1 0), .int (u66.1 1), .int (u66.1 2), .int s0_3]))] H := hP
              have hD : va_D A [(q4, .inl (cA 0, 9, .inl f4)), (q5, .inl (cA 0, 9, .inl f5)), (q1, .inr (2, [.int s1_0, .int s1_1, .int s1_2, .int s1_3, .int s1_4, .ref q2, .ref q3, .ref q5, .ref q6, .ref q7, .ref q8, .ref q9, .ref q10])), (q2, .inl (cA 0, 9, .inl f2)), (q3, .inl (cA 0, 9, .inl f3)), (q0, .inr (7, [.int (u66.1 0), .int (u66.1 1), .int (u66.1 2), .int s0_3]))] := hD
              refine lv_goto (tgt := 128) hx hb dX7_extend_82 (by decide) ?_
              exact jn27 (u66.1 0) (u66.1 1) (u66.1 2) _ _ _   (hP.sub [5, 0, 1, 2, 3, 4] rfl) (hD.sub [5, 0, 1, 2, 3, 4] (by decide) rfl) hS (lv_sub hl [0, 1, 2, 3, 4, 5, 6, 7, 8, 9] rfl)
    exact lp11 10 0 s0_0 s0_1 s0_2 _ _ _ (rg_le (by decide : (0 : Int) ≤ (0 : Int32).toInt) (by decide)) (rg_ge (by decide : (0 : Int32).toInt ≤ 0) (by decide))  (rg_mi (by decide : (0 : Int) ≤ (0 : Int32).toInt) (by decide)) hP hD hS (lv_sub hl [0, 1, 2, 3, 4, 5, 6, 7] rfl)
  · have h68 : 7 ≤ r2.toInt := rg_lt_lo (rg_nle c3) (by decide : (6 : Int) ≤ (6 : Int32).toInt) (by decide)
    exact ms_vret hx hb hr hlk (fun i => [s0_0, s0_1, s0_2].getD i 0, fun i => [].getD i ms_z, fun i => [].getD i 0) trivial hP hD hS (Nat.le_of_ble_eq_true rfl) (Nat.le_of_ble_eq_true rfl) dX7_extend_10
