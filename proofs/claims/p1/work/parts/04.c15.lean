set_option maxHeartbeats 4000000 in
set_option maxRecDepth 100000 in
theorem cX11_copies_2 (l : Launch) (D : va_G) (cA : Nat → ClassId) (q0 q1 : Nat) : ms_Mv l yX11_copies wsX11_copies ({ frames := 0, cells := 0, slots := 0, locals := 0 } : Room) D cA [.ref q0, .int 0, .ref q1, .int 15] [(q0, .inl (cA 0, 14, .inl ms_n)), (q1, .inl (cA 0, 30, .inl ms_z))] (fun (_ : Nat → Nat → Int32) => True) (fun (u : Nat → Nat → Int32) => [(q0, .inl (cA 0, 14, .inl ms_n)), (q1, .inl (cA 0, 30, .inl ((u 0))))]) := by
  refine ms_Mv_of (cc := cX11_copies) (maxL := 5) (ret := none) (by decide) rfl (Nat.le_of_ble_eq_true rfl) ?_
  intro p e s m args below meth c A ls hB hE hA hP hD hS hl
  obtain ⟨hx, hb, hr, hml, hown, hts, hlk, hnm⟩ := hB
  have hown : s.vm.findClass RX11 = some m.cls := hown
  have hl : lv_has ls 5 [(0, .ref q0), (1, .int 0), (2, .ref q1), (3, .int 15)] := hl
  refine lv_iconst (v := 0) hx hb dX11_copies_0 (by decide) ?_
  refine lv_istore (lv' := [(4, .int 0), (0, .ref q0), (1, .int 0), (2, .ref q1), (3, .int 15)]) hx hb dX11_copies_1 hl (by decide) rfl (fun ls hl => ?_)
  have lp3 : ∀ (n2 i1 : Nat) (f5 : Nat → Int32) (H : Heap) (locs : List Loc) (ls : Array Slot), 0 ≤ i1 → i1 ≤ 14 → 15 ≤ i1 + n2 → va_P D vwCl [(q0, .inl (cA 0, 14, .inl ms_n)), (q1, .inl (cA 0, 30, .inl f5))] H → va_D A [(q0, .inl (cA 0, 14, .inl ms_n)), (q1, .inl (cA 0, 30, .inl f5))] → va_S A s.heap H locs → lv_has ls 5 [(4, .int (nI i1)), (0, .ref q0), (1, .int 0), (2, .ref q1), (3, .int 15)] → W p l e ({ frames := 0, cells := 0, slots := 0, locals := 0 } : Room) s m args below meth c H locs 0 0 (MQ below (ms_Qv D A (fun (_ : Nat → Nat → Int32) => True) (fun (u : Nat → Nat → Int32) => [(q0, .inl (cA 0, 14, .inl ms_n)), (q1, .inl (cA 0, 30, .inl ((u 0))))])) args s 0 0 A) (F0 m 3 ls []) := by
    intro n2
    induction n2 with
    | zero => intro i1 f5 H locs ls h1 h2 h3; exact absurd h3 (by omega)
    | succ n2 ih4 =>
      intro i1 f5 H locs ls h1 h2 h3 hP hD hS hl
      refine lv_iload hx hb dX11_copies_3 (lv_at hl 0 rfl) ?_
      refine lv_bipush (v := 14) hx hb dX11_copies_5 (by decide) ?_
      refine lv_icmp_ge (tgt := 28) hx hb dX11_copies_7 (by decide) (fun c6 => ?_) (fun c6 => ?_)
      · have hc7 := Int32.le_iff_toInt_le.mp c6
        have z8 : (nI i1).toInt = ((i1 : Nat) : Int) := nI_toInt (by omega)
        have z9 : (14 : Int32).toInt = 14 := (by decide)
        exact ms_vret hx hb hr hlk (fun i => [f5].getD i ms_z) trivial hP hD hS (Nat.le_of_ble_eq_true rfl) (Nat.le_of_ble_eq_true rfl) dX11_copies_28
      · have hc10 := mt Int32.le_iff_toInt_le.mpr c6
        have z11 : (nI i1).toInt = ((i1 : Nat) : Int) := nI_toInt (by omega)
        have z12 : (14 : Int32).toInt = 14 := (by decide)
        refine lv_aload_n hx hb dX11_copies_10 rfl (lv_at hl 3 rfl) ?_
        refine lv_iload_n hx hb dX11_copies_11 rfl (lv_at hl 4 rfl) ?_
        refine lv_iload hx hb dX11_copies_12 (lv_at hl 0 rfl) ?_
        refine lv_iadd hx hb dX11_copies_14 ?_
        refine ms_eqi (y := nI (15 + i1)) (nI_add 15 i1) ?_
        refine lv_aload_n hx hb dX11_copies_15 rfl (lv_at hl 1 rfl) ?_
        refine lv_iload_n hx hb dX11_copies_16 rfl (lv_at hl 2 rfl) ?_
        refine lv_iload hx hb dX11_copies_17 (lv_at hl 0 rfl) ?_
        refine lv_iadd hx hb dX11_copies_19 ?_
        refine ms_eqi (y := nI (0 + i1)) (nI_add 0 i1) ?_
        refine ms_iald (x := ((ms_n) (0 + i1))) hx hb hE hP 0 rfl (0 + i1) rfl (by omega) (by decide) (rfl) dX11_copies_20 ?_
        refine ms_iast (g := upd f5 (15 + i1) (((ms_n) (0 + i1)))) hx hb hE hP hD hS 1 rfl (15 + i1) rfl (by omega) (by decide) (rfl) dX11_copies_21 (fun H locs hP hD hS => ?_)
        have hP : va_P D vwCl [(q0, .inl (cA 0, 14, .inl ms_n)), (q1, .inl (cA 0, 30, .inl (upd f5 (15 + i1) (((ms_n) (0 + i1))))))] H := hP
        have hD : va_D A [(q0, .inl (cA 0, 14, .inl ms_n)), (q1, .inl (cA 0, 30, .inl (upd f5 (15 + i1) (((ms_n) (0 + i1))))))] := hD
        refine lv_iinc (v := nI (i1 + 1)) (lv' := [(4, .int (nI (i1 + 1))), (0, .ref q0), (1, .int 0), (2, .ref q1), (3, .int 15)]) hx hb dX11_copies_22 hl (k := 0) rfl ((nI_succ i1).symm) (by decide) rfl (fun ls hl => ?_)
        refine lv_goto (tgt := 3) hx hb dX11_copies_25 (by decide) ?_
        exact ih4 (i1 + 1) _ _ _ _ (by omega) (by omega) (by omega) hP hD hS (lv_sub hl [0, 1, 2, 3, 4] rfl)
  exact lp3 15 0 _ _ _ _ (by omega) (by omega) (by omega) hP hD hS (lv_sub hl [0, 1, 2, 3, 4] rfl)
set_option maxHeartbeats 4000000 in
set_option maxRecDepth 100000 in
theorem cX11_keep_3 (l : Launch) (D : va_G) (cA : Nat → ClassId) (q0 q1 q2 q3 q4 q5 q6 q7 q8 q9 q10 q11 q12 q13 q14 q15 q16 q17 q18 : Nat) : ms_Mi l yX11_keep wsX11_keep ({ frames := 1, cells := 0, slots := 0, locals := 25 } : Room) D cA [.ref q0, .int 1] [(q0, .inr (11, [.ref q4, .ref q5, .ref q1, .ref q6, .int 0, .ref q2, .ref q3, .long 0, .ref q7, .int 0, .int (-1), .ref q8, .ref q9, .int 0, .ref q10, .int 0, .int 0, .int 0, .int 0, .int 0, .int 0, .int 0, .ref q11, .ref q12, .ref q13, .int 0, .ref q14, .ref q15, .ref q16, .ref q17, .int 0, .ref q18])), (q1, .inl (cA 0, 14, .inl ms_n)), (q2, .inl (cA 0, 30, .inl ms_z)), (q3, .inl (cA 1, 2, .inl ms_z))] (fun (r : Int32) (_ : Nat → Nat → Int32) => r = 1) (fun (u : Nat → Nat → Int32) => [(q0, .inr (11, [.ref q4, .ref q5, .ref q1, .ref q6, .int 0, .ref q2, .ref q3, .long 0, .ref q7, .int 0, .int (-1), .ref q8, .ref q9, .int 0, .ref q10, .int 0, .int 0, .int 0, .int 0, .int 0, .int 0, .int 0, .ref q11, .ref q12, .ref q13, .int 0, .ref q14, .ref q15, .ref q16, .ref q17, .int 0, .ref q18])), (q1, .inl (cA 0, 14, .inl ms_n)), (q2, .inl (cA 0, 30, .inl ((u 0)))), (q3, .inl (cA 1, 2, .inl (upd ms_z 1 1)))]) := by
  refine ms_Mi_of (cc := cX11_keep) (maxL := 2) (ret := (some .int)) (by decide) rfl (Nat.le_of_ble_eq_true rfl) ?_
  intro p e s m args below meth c A ls hB hE hA hP hD hS hl
  obtain ⟨hx, hb, hr, hml, hown, hts, hlk, hnm⟩ := hB
  have hown : s.vm.findClass RX11 = some m.cls := hown
  have hnX11 : ∀ w ∈ u_ws RX11 TX11 32, w ∈ wsX11_keep := fun _ h => List.mem_cons_of_mem _ (List.mem_append_right _ (h))
  have hl : lv_has ls 2 [(0, .ref q0), (1, .int 1)] := hl
  refine lv_iload_n hx hb dX11_keep_0 rfl (lv_at hl 1 rfl) ?_
  refine lv_i2l (v := 1) hx hb dX11_keep_1 (by decide) ?_
  refine lv_lconst (v := 0) hx hb dX11_keep_2 (by decide) ?_
  refine lv_lconst (v := 1) hx hb dX11_keep_3 (by decide) ?_
  refine ms_cSi (wc := []) (wr := [(q0, .inr (11, [.ref q4, .ref q5, .ref q1, .ref q6, .int 0, .ref q2, .ref q3, .long 0, .ref q7, .int 0, .int (-1), .ref q8, .ref q9, .int 0, .ref q10, .int 0, .int 0, .int 0, .int 0, .int 0, .int 0, .int 0, .ref q11, .ref q12, .ref q13, .int 0, .ref q14, .ref q15, .ref q16, .ref q17, .int 0, .ref q18])), (q1, .inl (cA 0, 14, .inl ms_n)), (q2, .inl (cA 0, 30, .inl ms_z)), (q3, .inl (cA 1, 2, .inl ms_z))]) ⟨hx, hb, hml, hown, hts⟩ hE (c_in l D cA 1 0 1) (va_cwS 3 hts gX11_keep_X11_in rfl rfl rfl (by decide +kernel) ⟨Nat.le_of_ble_eq_true rfl, Nat.le_of_ble_eq_true rfl⟩) hP hD hS hA [] [0, 1, 2, 3] rfl rfl rfl rfl (by decide) rfl hl.1 rfl (Nat.le_of_ble_eq_true rfl) dX11_keep_4 ⟨Nat.le_of_ble_eq_true rfl, Nat.le_of_ble_eq_true rfl⟩ (fun r1 u2 H locs hp hP hD hS => ?_)
  have hp : r1 = 1 := by rw [hp]; have z3 : (0 : Int64).toInt = 0 := (by decide); have z4 : (1 : Int64).toInt = 1 := (by decide); have z5 : (1 : Int64).toInt = 1 := (by decide); exact if_pos (by omega)
  subst hp
  have hP : va_P D vwCl [(q0, .inr (11, [.ref q4, .ref q5, .ref q1, .ref q6, .int 0, .ref q2, .ref q3, .long 0, .ref q7, .int 0, .int (-1), .ref q8, .ref q9, .int 0, .ref q10, .int 0, .int 0, .int 0, .int 0, .int 0, .int 0, .int 0, .ref q11, .ref q12, .ref q13, .int 0, .ref q14, .ref q15, .ref q16, .ref q17, .int 0, .ref q18])), (q1, .inl (cA 0, 14, .inl ms_n)), (q2, .inl (cA 0, 30, .inl ms_z)), (q3, .inl (cA 1, 2, .inl ms_z))] H := hP
  have hD : va_D A [(q0, .inr (11, [.ref q4, .ref q5, .ref q1, .ref q6, .int 0, .ref q2, .ref q3, .long 0, .ref q7, .int 0, .int (-1), .ref q8, .ref q9, .int 0, .ref q10, .int 0, .int 0, .int 0, .int 0, .int 0, .int 0, .int 0, .ref q11, .ref q12, .ref q13, .int 0, .ref q14, .ref q15, .ref q16, .ref q17, .int 0, .ref q18])), (q1, .inl (cA 0, 14, .inl ms_n)), (q2, .inl (cA 0, 30, .inl ms_z)), (q3, .inl (cA 1, 2, .inl ms_z))] := hD
  refine lv_if_ne (tgt := 13) hx hb dX11_keep_7 (by decide) (fun _ => ?_) (fun c => absurd c (by decide))
  refine lv_aload_n hx hb dX11_keep_13 rfl (lv_at hl 0 rfl) ?_
  refine va_get (D := D) (ci := 11) (v := .ref q1) (C := RX11) (T := TX11) (N := 32) hx hb hts hnX11 hown hE.1 hP 0 rfl rfl 2 (by decide) (hts (.fieldLink RX11 16 "MovedStonesModel" "now" "[I") (List.mem_cons_of_mem _ (List.mem_append_left _ (List.mem_of_getElem? (i := 1) rfl)))) (fun _ h9 => h9) rfl dX11_keep_14 ?_
  refine lv_iconst (v := 0) hx hb dX11_keep_17 (by decide) ?_
  refine lv_aload_n hx hb dX11_keep_18 rfl (lv_at hl 0 rfl) ?_
  refine va_get (D := D) (ci := 11) (v := .ref q2) (C := RX11) (T := TX11) (N := 32) hx hb hts hnX11 hown hE.1 hP 0 rfl rfl 5 (by decide) (hts (.fieldLink RX11 22 "MovedStonesModel" "images" "[I") (List.mem_cons_of_mem _ (List.mem_append_left _ (List.mem_of_getElem? (i := 2) rfl)))) (fun _ h9 => h9) rfl dX11_keep_19 ?_
  refine lv_bipush (v := 15) hx hb dX11_keep_22 (by decide) ?_
  refine lv_iload_n hx hb dX11_keep_24 rfl (lv_at hl 1 rfl) ?_
  refine lv_imul hx hb dX11_keep_25 ?_
  refine ms_eqi (y := 15) (by decide) ?_
  refine ms_cSv (wc := [(q1, .inl (cA 0, 14, .inl ms_n)), (q2, .inl (cA 0, 30, .inl ms_z))]) (wr := [(q0, .inr (11, [.ref q4, .ref q5, .ref q1, .ref q6, .int 0, .ref q2, .ref q3, .long 0, .ref q7, .int 0, .int (-1), .ref q8, .ref q9, .int 0, .ref q10, .int 0, .int 0, .int 0, .int 0, .int 0, .int 0, .int 0, .ref q11, .ref q12, .ref q13, .int 0, .ref q14, .ref q15, .ref q16, .ref q17, .int 0, .ref q18])), (q3, .inl (cA 1, 2, .inl ms_z))]) ⟨hx, hb, hml, hown, hts⟩ hE (cX11_copies_2 l D cA q1 q2) (va_cwS 4 hts gX11_keep_X11_copies rfl rfl rfl (by decide +kernel) ⟨Nat.le_of_ble_eq_true rfl, Nat.le_of_ble_eq_true rfl⟩) hP hD hS hA [1, 2] [0, 3] rfl rfl rfl rfl (by decide) rfl hl.1 rfl (Nat.le_of_ble_eq_true rfl) dX11_keep_26 ⟨Nat.le_of_ble_eq_true rfl, Nat.le_of_ble_eq_true rfl⟩ (fun u6 H locs hp hP hD hS => ?_)
  have hP : va_P D vwCl [(q0, .inr (11, [.ref q4, .ref q5, .ref q1, .ref q6, .int 0, .ref q2, .ref q3, .long 0, .ref q7, .int 0, .int (-1), .ref q8, .ref q9, .int 0, .ref q10, .int 0, .int 0, .int 0, .int 0, .int 0, .int 0, .int 0, .ref q11, .ref q12, .ref q13, .int 0, .ref q14, .ref q15, .ref q16, .ref q17, .int 0, .ref q18])), (q3, .inl (cA 1, 2, .inl ms_z)), (q1, .inl (cA 0, 14, .inl ms_n)), (q2, .inl (cA 0, 30, .inl ((u6 0))))] H := hP
  have hD : va_D A [(q0, .inr (11, [.ref q4, .ref q5, .ref q1, .ref q6, .int 0, .ref q2, .ref q3, .long 0, .ref q7, .int 0, .int (-1), .ref q8, .ref q9, .int 0, .ref q10, .int 0, .int 0, .int 0, .int 0, .int 0, .int 0, .int 0, .ref q11, .ref q12, .ref q13, .int 0, .ref q14, .ref q15, .ref q16, .ref q17, .int 0, .ref q18])), (q3, .inl (cA 1, 2, .inl ms_z)), (q1, .inl (cA 0, 14, .inl ms_n)), (q2, .inl (cA 0, 30, .inl ((u6 0))))] := hD
  refine lv_aload_n hx hb dX11_keep_29 rfl (lv_at hl 0 rfl) ?_
  refine va_get (D := D) (ci := 11) (v := .ref q2) (C := RX11) (T := TX11) (N := 32) hx hb hts hnX11 hown hE.1 hP 0 rfl rfl 5 (by decide) (hts (.fieldLink RX11 22 "MovedStonesModel" "images" "[I") (List.mem_cons_of_mem _ (List.mem_append_left _ (List.mem_of_getElem? (i := 2) rfl)))) (fun _ h9 => h9) rfl dX11_keep_30 ?_
  refine lv_bipush (v := 15) hx hb dX11_keep_33 (by decide) ?_
  refine lv_iload_n hx hb dX11_keep_35 rfl (lv_at hl 1 rfl) ?_
  refine lv_imul hx hb dX11_keep_36 ?_
  refine ms_eqi (y := 15) (by decide) ?_
  refine lv_bipush (v := 14) hx hb dX11_keep_37 (by decide) ?_
  refine lv_iadd hx hb dX11_keep_39 ?_
  refine ms_eqi (y := 29) (by decide) ?_
  refine lv_aload_n hx hb dX11_keep_40 rfl (lv_at hl 0 rfl) ?_
  refine va_get (D := D) (ci := 11) (v := .long 0) (C := RX11) (T := TX11) (N := 32) hx hb hts hnX11 hown hE.1 hP 0 rfl rfl 7 (by decide) (hts (.fieldLink RX11 212 "MovedStonesModel" "seed" "J") (List.mem_cons_of_mem _ (List.mem_append_left _ (List.mem_of_getElem? (i := 3) rfl)))) (fun _ h9 => h9) rfl dX11_keep_41 ?_
  refine lv_l2i (v := 0) hx hb dX11_keep_44 (by decide) ?_
  refine ms_iast (g := upd ((u6 0)) 29 0) hx hb hE hP hD hS 3 rfl 29 rfl (by omega) (by decide) (rfl) dX11_keep_45 (fun H locs hP hD hS => ?_)
  have hP : va_P D vwCl [(q0, .inr (11, [.ref q4, .ref q5, .ref q1, .ref q6, .int 0, .ref q2, .ref q3, .long 0, .ref q7, .int 0, .int (-1), .ref q8, .ref q9, .int 0, .ref q10, .int 0, .int 0, .int 0, .int 0, .int 0, .int 0, .int 0, .ref q11, .ref q12, .ref q13, .int 0, .ref q14, .ref q15, .ref q16, .ref q17, .int 0, .ref q18])), (q3, .inl (cA 1, 2, .inl ms_z)), (q1, .inl (cA 0, 14, .inl ms_n)), (q2, .inl (cA 0, 30, .inl (upd ((u6 0)) 29 0)))] H := hP
  have hD : va_D A [(q0, .inr (11, [.ref q4, .ref q5, .ref q1, .ref q6, .int 0, .ref q2, .ref q3, .long 0, .ref q7, .int 0, .int (-1), .ref q8, .ref q9, .int 0, .ref q10, .int 0, .int 0, .int 0, .int 0, .int 0, .int 0, .int 0, .ref q11, .ref q12, .ref q13, .int 0, .ref q14, .ref q15, .ref q16, .ref q17, .int 0, .ref q18])), (q3, .inl (cA 1, 2, .inl ms_z)), (q1, .inl (cA 0, 14, .inl ms_n)), (q2, .inl (cA 0, 30, .inl (upd ((u6 0)) 29 0)))] := hD
  refine lv_aload_n hx hb dX11_keep_46 rfl (lv_at hl 0 rfl) ?_
  refine va_get (D := D) (ci := 11) (v := .ref q3) (C := RX11) (T := TX11) (N := 32) hx hb hts hnX11 hown hE.1 hP 0 rfl rfl 6 (by decide) (hts (.fieldLink RX11 25 "MovedStonesModel" "kept" "[Z") (List.mem_cons_of_mem _ (List.mem_append_left _ (List.mem_of_getElem? (i := 4) rfl)))) (fun _ h9 => h9) rfl dX11_keep_47 ?_
  refine lv_iload_n hx hb dX11_keep_50 rfl (lv_at hl 1 rfl) ?_
  refine lv_iconst (v := 1) hx hb dX11_keep_51 (by decide) ?_
  refine ms_zast (g := upd ms_z 1 1) hx hb hE hP hD hS 1 rfl 1 rfl (by omega) (by decide) (by rw [show vp_nar .boolean 1 = 1 from by decide]) dX11_keep_52 (fun H locs hP hD hS => ?_)
  have hP : va_P D vwCl [(q0, .inr (11, [.ref q4, .ref q5, .ref q1, .ref q6, .int 0, .ref q2, .ref q3, .long 0, .ref q7, .int 0, .int (-1), .ref q8, .ref q9, .int 0, .ref q10, .int 0, .int 0, .int 0, .int 0, .int 0, .int 0, .int 0, .ref q11, .ref q12, .ref q13, .int 0, .ref q14, .ref q15, .ref q16, .ref q17, .int 0, .ref q18])), (q3, .inl (cA 1, 2, .inl (upd ms_z 1 1))), (q1, .inl (cA 0, 14, .inl ms_n)), (q2, .inl (cA 0, 30, .inl (upd ((u6 0)) 29 0)))] H := hP
  have hD : va_D A [(q0, .inr (11, [.ref q4, .ref q5, .ref q1, .ref q6, .int 0, .ref q2, .ref q3, .long 0, .ref q7, .int 0, .int (-1), .ref q8, .ref q9, .int 0, .ref q10, .int 0, .int 0, .int 0, .int 0, .int 0, .int 0, .int 0, .ref q11, .ref q12, .ref q13, .int 0, .ref q14, .ref q15, .ref q16, .ref q17, .int 0, .ref q18])), (q3, .inl (cA 1, 2, .inl (upd ms_z 1 1))), (q1, .inl (cA 0, 14, .inl ms_n)), (q2, .inl (cA 0, 30, .inl (upd ((u6 0)) 29 0)))] := hD
  refine lv_aload_n hx hb dX11_keep_53 rfl (lv_at hl 0 rfl) ?_
  refine lv_iconst (v := 0) hx hb dX11_keep_54 (by decide) ?_
  refine va_put (D := D) (ci := 11) (v := .int 0) (ty := tyX11 4) (C := RX11) (T := TX11) (N := 32) hx hb hts hnX11 tyX11 tyX11_ok nmX11 hown hE.1 hP hD hS 0 rfl rfl 4 (by decide) (hts (.fieldLink RX11 72 "MovedStonesModel" "undos" "I") (List.mem_cons_of_mem _ (List.mem_append_left _ (List.mem_of_getElem? (i := 5) rfl)))) (fun _ h9 => h9) rfl (tyX11_ok 4 (by decide)) rfl rfl (Nat.le_of_ble_eq_true rfl) dX11_keep_55 (fun H locs hP hD hS => ?_)
  have hP : va_P D vwCl [(q0, .inr (11, [.ref q4, .ref q5, .ref q1, .ref q6, .int 0, .ref q2, .ref q3, .long 0, .ref q7, .int 0, .int (-1), .ref q8, .ref q9, .int 0, .ref q10, .int 0, .int 0, .int 0, .int 0, .int 0, .int 0, .int 0, .ref q11, .ref q12, .ref q13, .int 0, .ref q14, .ref q15, .ref q16, .ref q17, .int 0, .ref q18])), (q3, .inl (cA 1, 2, .inl (upd ms_z 1 1))), (q1, .inl (cA 0, 14, .inl ms_n)), (q2, .inl (cA 0, 30, .inl (upd ((u6 0)) 29 0)))] H := hP
  have hD : va_D A [(q0, .inr (11, [.ref q4, .ref q5, .ref q1, .ref q6, .int 0, .ref q2, .ref q3, .long 0, .ref q7, .int 0, .int (-1), .ref q8, .ref q9, .int 0, .ref q10, .int 0, .int 0, .int 0, .int 0, .int 0, .int 0, .int 0, .ref q11, .ref q12, .ref q13, .int 0, .ref q14, .ref q15, .ref q16, .ref q17, .int 0, .ref q18])), (q3, .inl (cA 1, 2, .inl (upd ms_z 1 1))), (q1, .inl (cA 0, 14, .inl ms_n)), (q2, .inl (cA 0, 30, .inl (upd ((u6 0)) 29 0)))] := hD
  refine lv_iconst (v := 1) hx hb dX11_keep_58 (by decide) ?_
  exact ms_iret hx hb hr hlk (fun i => [upd ((u6 0)) 29 0].getD i ms_z) rfl (hP.sub [0, 2, 3, 1] rfl) (hD.sub [0, 2, 3, 1] (by decide) rfl) hS (Nat.le_of_ble_eq_true rfl) (Nat.le_of_ble_eq_true rfl) dX11_keep_59
set_option maxHeartbeats 4000000 in
set_option maxRecDepth 100000 in
theorem cX10_keep_4 (l : Launch) (D : va_G) (cA : Nat → ClassId) (q0 q1 q2 q3 q4 q5 q6 q7 q8 q9 q10 q11 : Nat) (a0 : Int32) (g0 : 2 ≤ a0.toInt) : ms_Mi l yX10_keep wsX10_keep ({ frames := 0, cells := 0, slots := 0, locals := 0 } : Room) D cA [.ref q0, .int a0] [(q0, .inr (10, [.ref q1, .ref q2, .ref q3, .ref q4, .ref q5, .int 0, .ref q6, .ref q7, .ref q8, .ref q9, .ref q10, .ref q11]))] (fun (r : Int32) (_ : Unit) => r = (-1000000001)) (fun (_ : Unit) => [(q0, .inr (10, [.ref q1, .ref q2, .ref q3, .ref q4, .ref q5, .int 0, .ref q6, .ref q7, .ref q8, .ref q9, .ref q10, .ref q11]))]) := by
  refine ms_Mi_of (cc := cX10_keep) (maxL := 2) (ret := (some .int)) (by decide) rfl (Nat.le_of_ble_eq_true rfl) ?_
  intro p e s m args below meth c A ls hB hE hA hP hD hS hl
  obtain ⟨hx, hb, hr, hml, hown, hts, hlk, hnm⟩ := hB
  have hown : s.vm.findClass RX10 = some m.cls := hown
  have hl : lv_has ls 2 [(0, .ref q0), (1, .int a0)] := hl
  refine lv_iload_n hx hb dX10_keep_0 rfl (lv_at hl 1 rfl) ?_
  refine lv_if_lt (tgt := 9) hx hb dX10_keep_1 (by decide) (fun c => by exfalso; have hc1 := Int32.lt_iff_toInt_lt.mp c; have z2 : (0 : Int32).toInt = 0 := (by decide); omega) (fun _ => ?_)
  refine lv_iload_n hx hb dX10_keep_4 rfl (lv_at hl 1 rfl) ?_
  refine lv_iconst (v := 2) hx hb dX10_keep_5 (by decide) ?_
  refine lv_icmp_lt (tgt := 12) hx hb dX10_keep_6 (by decide) (fun c => by exfalso; have hc3 := Int32.lt_iff_toInt_lt.mp c; have z4 : (2 : Int32).toInt = 2 := (by decide); omega) (fun _ => ?_)
  refine lv_ldc (v := (-1000000001)) hx hb hown (hts (.constant RX10 178 (-1000000001)) (List.mem_cons_of_mem _ (List.mem_append_left _ (List.mem_append_left _ (List.mem_append_left _ (List.mem_append_left _ (List.mem_append_left _ (List.mem_of_getElem? (i := 0) rfl)))))))) dX10_keep_9 ?_
  exact ms_iret hx hb hr hlk () rfl hP hD hS (Nat.le_of_ble_eq_true rfl) (Nat.le_of_ble_eq_true rfl) dX10_keep_11
set_option maxHeartbeats 4000000 in
set_option maxRecDepth 100000 in
theorem cX11_keep_4 (l : Launch) (D : va_G) (cA : Nat → ClassId) (q0 q1 q2 q3 q4 q5 q6 q7 q8 q9 q10 q11 q12 q13 q14 q15 q16 q17 q18 : Nat) (a0 : Int32) (g0 : 2 ≤ a0.toInt) : ms_Mi l yX11_keep wsX11_keep ({ frames := 1, cells := 0, slots := 0, locals := 25 } : Room) D cA [.ref q0, .int a0] [(q0, .inr (11, [.ref q1, .ref q2, .ref q3, .ref q4, .int 0, .ref q5, .ref q6, .long 0, .ref q7, .int 0, .int (-1), .ref q8, .ref q9, .int 0, .ref q10, .int 0, .int 0, .int 0, .int 0, .int 0, .int 0, .int 0, .ref q11, .ref q12, .ref q13, .int 0, .ref q14, .ref q15, .ref q16, .ref q17, .int 0, .ref q18]))] (fun (r : Int32) (_ : Unit) => r = (-1000000001)) (fun (_ : Unit) => [(q0, .inr (11, [.ref q1, .ref q2, .ref q3, .ref q4, .int 0, .ref q5, .ref q6, .long 0, .ref q7, .int 0, .int (-1), .ref q8, .ref q9, .int 0, .ref q10, .int 0, .int 0, .int 0, .int 0, .int 0, .int 0, .int 0, .ref q11, .ref q12, .ref q13, .int 0, .ref q14, .ref q15, .ref q16, .ref q17, .int 0, .ref q18]))]) := by
  refine ms_Mi_of (cc := cX11_keep) (maxL := 2) (ret := (some .int)) (by decide) rfl (Nat.le_of_ble_eq_true rfl) ?_
  intro p e s m args below meth c A ls hB hE hA hP hD hS hl
  obtain ⟨hx, hb, hr, hml, hown, hts, hlk, hnm⟩ := hB
  have hown : s.vm.findClass RX11 = some m.cls := hown
  have hl : lv_has ls 2 [(0, .ref q0), (1, .int a0)] := hl
  refine lv_iload_n hx hb dX11_keep_0 rfl (lv_at hl 1 rfl) ?_
  refine lv_i2l (v := a0.toInt64) hx hb dX11_keep_1 rfl ?_
  refine lv_lconst (v := 0) hx hb dX11_keep_2 (by decide) ?_
  refine lv_lconst (v := 1) hx hb dX11_keep_3 (by decide) ?_
  refine ms_cSi (wc := []) (wr := [(q0, .inr (11, [.ref q1, .ref q2, .ref q3, .ref q4, .int 0, .ref q5, .ref q6, .long 0, .ref q7, .int 0, .int (-1), .ref q8, .ref q9, .int 0, .ref q10, .int 0, .int 0, .int 0, .int 0, .int 0, .int 0, .int 0, .ref q11, .ref q12, .ref q13, .int 0, .ref q14, .ref q15, .ref q16, .ref q17, .int 0, .ref q18]))]) ⟨hx, hb, hml, hown, hts⟩ hE (c_in l D cA a0.toInt64 0 1) (va_cwS 3 hts gX11_keep_X11_in rfl rfl rfl (by decide +kernel) ⟨Nat.le_of_ble_eq_true rfl, Nat.le_of_ble_eq_true rfl⟩) hP hD hS hA [] [0] rfl rfl rfl rfl (by decide) rfl hl.1 rfl (Nat.le_of_ble_eq_true rfl) dX11_keep_4 ⟨Nat.le_of_ble_eq_true rfl, Nat.le_of_ble_eq_true rfl⟩ (fun r1 u2 H locs hp hP hD hS => ?_)
  have hp : r1 = 0 := by rw [hp]; have z3 : (0 : Int64).toInt = 0 := (by decide); have z4 : (1 : Int64).toInt = 1 := (by decide); have z5 : (a0.toInt64).toInt = a0.toInt := Int32.toInt_toInt64 _; exact if_neg (by omega)
  subst hp
  have hP : va_P D vwCl [(q0, .inr (11, [.ref q1, .ref q2, .ref q3, .ref q4, .int 0, .ref q5, .ref q6, .long 0, .ref q7, .int 0, .int (-1), .ref q8, .ref q9, .int 0, .ref q10, .int 0, .int 0, .int 0, .int 0, .int 0, .int 0, .int 0, .ref q11, .ref q12, .ref q13, .int 0, .ref q14, .ref q15, .ref q16, .ref q17, .int 0, .ref q18]))] H := hP
  have hD : va_D A [(q0, .inr (11, [.ref q1, .ref q2, .ref q3, .ref q4, .int 0, .ref q5, .ref q6, .long 0, .ref q7, .int 0, .int (-1), .ref q8, .ref q9, .int 0, .ref q10, .int 0, .int 0, .int 0, .int 0, .int 0, .int 0, .int 0, .ref q11, .ref q12, .ref q13, .int 0, .ref q14, .ref q15, .ref q16, .ref q17, .int 0, .ref q18]))] := hD
  refine lv_if_ne (tgt := 13) hx hb dX11_keep_7 (by decide) (fun c => absurd (by decide) c) (fun _ => ?_)
  refine lv_ldc (v := (-1000000001)) hx hb hown (hts (.constant RX11 173 (-1000000001)) (List.mem_cons_of_mem _ (List.mem_append_left _ (List.mem_of_getElem? (i := 0) rfl)))) dX11_keep_10 ?_
  exact ms_iret hx hb hr hlk () rfl hP hD hS (Nat.le_of_ble_eq_true rfl) (Nat.le_of_ble_eq_true rfl) dX11_keep_12
set_option maxHeartbeats 4000000 in
set_option maxRecDepth 100000 in
theorem cX10_goBack_1 (l : Launch) (D : va_G) (cA : Nat → ClassId) (q0 q1 q2 q3 q4 q5 q6 q7 q8 q9 q10 q11 : Nat) (a0 : Int32) (g0 : a0.toInt ≤ -1) : ms_Mi l yX10_goBack wsX10_goBack ({ frames := 0, cells := 0, slots := 0, locals := 0 } : Room) D cA [.ref q0, .int a0] [(q0, .inr (10, [.ref q1, .ref q2, .ref q3, .ref q4, .ref q5, .int 0, .ref q6, .ref q7, .ref q8, .ref q9, .ref q10, .ref q11]))] (fun (r : Int32) (_ : Unit) => r = (-1000000001)) (fun (_ : Unit) => [(q0, .inr (10, [.ref q1, .ref q2, .ref q3, .ref q4, .ref q5, .int 0, .ref q6, .ref q7, .ref q8, .ref q9, .ref q10, .ref q11]))]) := by
  refine ms_Mi_of (cc := cX10_goBack) (maxL := 2) (ret := (some .int)) (by decide) rfl (Nat.le_of_ble_eq_true rfl) ?_
  intro p e s m args below meth c A ls hB hE hA hP hD hS hl
  obtain ⟨hx, hb, hr, hml, hown, hts, hlk, hnm⟩ := hB
  have hown : s.vm.findClass RX10 = some m.cls := hown
  have hl : lv_has ls 2 [(0, .ref q0), (1, .int a0)] := hl
  refine lv_iload_n hx hb dX10_goBack_0 rfl (lv_at hl 1 rfl) ?_
  refine lv_if_lt (tgt := 9) hx hb dX10_goBack_1 (by decide) (fun _ => ?_) (fun c => by exfalso; have hc1 := mt Int32.lt_iff_toInt_lt.mpr c; have z2 : (0 : Int32).toInt = 0 := (by decide); omega)
  refine lv_ldc (v := (-1000000001)) hx hb hown (hts (.constant RX10 178 (-1000000001)) (List.mem_cons_of_mem _ (List.mem_append_left _ (List.mem_append_left _ (List.mem_append_left _ (List.mem_append_left _ (List.mem_append_left _ (List.mem_of_getElem? (i := 0) rfl)))))))) dX10_goBack_9 ?_
  exact ms_iret hx hb hr hlk () rfl hP hD hS (Nat.le_of_ble_eq_true rfl) (Nat.le_of_ble_eq_true rfl) dX10_goBack_11
set_option maxHeartbeats 4000000 in
set_option maxRecDepth 100000 in
theorem cX11_goBack_1 (l : Launch) (D : va_G) (cA : Nat → ClassId) (q0 q1 q2 q3 q4 q5 q6 q7 q8 q9 q10 q11 q12 q13 q14 q15 q16 q17 q18 : Nat) (a0 : Int32) (g0 : a0.toInt ≤ -1) : ms_Mi l yX11_goBack wsX11_goBack ({ frames := 1, cells := 0, slots := 0, locals := 25 } : Room) D cA [.ref q0, .int a0] [(q0, .inr (11, [.ref q1, .ref q2, .ref q3, .ref q4, .int 0, .ref q5, .ref q6, .long 0, .ref q7, .int 0, .int (-1), .ref q8, .ref q9, .int 0, .ref q10, .int 0, .int 0, .int 0, .int 0, .int 0, .int 0, .int 0, .ref q11, .ref q12, .ref q13, .int 0, .ref q14, .ref q15, .ref q16, .ref q17, .int 0, .ref q18]))] (fun (r : Int32) (_ : Unit) => r = (-1000000001)) (fun (_ : Unit) => [(q0, .inr (11, [.ref q1, .ref q2, .ref q3, .ref q4, .int 0, .ref q5, .ref q6, .long 0, .ref q7, .int 0, .int (-1), .ref q8, .ref q9, .int 0, .ref q10, .int 0, .int 0, .int 0, .int 0, .int 0, .int 0, .int 0, .ref q11, .ref q12, .ref q13, .int 0, .ref q14, .ref q15, .ref q16, .ref q17, .int 0, .ref q18]))]) := by
  refine ms_Mi_of (cc := cX11_goBack) (maxL := 2) (ret := (some .int)) (by decide) rfl (Nat.le_of_ble_eq_true rfl) ?_
  intro p e s m args below meth c A ls hB hE hA hP hD hS hl
  obtain ⟨hx, hb, hr, hml, hown, hts, hlk, hnm⟩ := hB
  have hown : s.vm.findClass RX11 = some m.cls := hown
  have hl : lv_has ls 2 [(0, .ref q0), (1, .int a0)] := hl
  refine lv_iload_n hx hb dX11_goBack_0 rfl (lv_at hl 1 rfl) ?_
  refine lv_i2l (v := a0.toInt64) hx hb dX11_goBack_1 rfl ?_
  refine lv_lconst (v := 0) hx hb dX11_goBack_2 (by decide) ?_
  refine lv_lconst (v := 1) hx hb dX11_goBack_3 (by decide) ?_
  refine ms_cSi (wc := []) (wr := [(q0, .inr (11, [.ref q1, .ref q2, .ref q3, .ref q4, .int 0, .ref q5, .ref q6, .long 0, .ref q7, .int 0, .int (-1), .ref q8, .ref q9, .int 0, .ref q10, .int 0, .int 0, .int 0, .int 0, .int 0, .int 0, .int 0, .ref q11, .ref q12, .ref q13, .int 0, .ref q14, .ref q15, .ref q16, .ref q17, .int 0, .ref q18]))]) ⟨hx, hb, hml, hown, hts⟩ hE (c_in l D cA a0.toInt64 0 1) (va_cwS 3 hts gX11_goBack_X11_in rfl rfl rfl (by decide +kernel) ⟨Nat.le_of_ble_eq_true rfl, Nat.le_of_ble_eq_true rfl⟩) hP hD hS hA [] [0] rfl rfl rfl rfl (by decide) rfl hl.1 rfl (Nat.le_of_ble_eq_true rfl) dX11_goBack_4 ⟨Nat.le_of_ble_eq_true rfl, Nat.le_of_ble_eq_true rfl⟩ (fun r1 u2 H locs hp hP hD hS => ?_)
  have hp : r1 = 0 := by rw [hp]; have z3 : (0 : Int64).toInt = 0 := (by decide); have z4 : (1 : Int64).toInt = 1 := (by decide); have z5 : (a0.toInt64).toInt = a0.toInt := Int32.toInt_toInt64 _; exact if_neg (by omega)
  subst hp
  have hP : va_P D vwCl [(q0, .inr (11, [.ref q1, .ref q2, .ref q3, .ref q4, .int 0, .ref q5, .ref q6, .long 0, .ref q7, .int 0, .int (-1), .ref q8, .ref q9, .int 0, .ref q10, .int 0, .int 0, .int 0, .int 0, .int 0, .int 0, .int 0, .ref q11, .ref q12, .ref q13, .int 0, .ref q14, .ref q15, .ref q16, .ref q17, .int 0, .ref q18]))] H := hP
  have hD : va_D A [(q0, .inr (11, [.ref q1, .ref q2, .ref q3, .ref q4, .int 0, .ref q5, .ref q6, .long 0, .ref q7, .int 0, .int (-1), .ref q8, .ref q9, .int 0, .ref q10, .int 0, .int 0, .int 0, .int 0, .int 0, .int 0, .int 0, .ref q11, .ref q12, .ref q13, .int 0, .ref q14, .ref q15, .ref q16, .ref q17, .int 0, .ref q18]))] := hD
  refine lv_if_ne (tgt := 13) hx hb dX11_goBack_7 (by decide) (fun c => absurd (by decide) c) (fun _ => ?_)
  refine lv_ldc (v := (-1000000001)) hx hb hown (hts (.constant RX11 173 (-1000000001)) (List.mem_cons_of_mem _ (List.mem_append_left _ (List.mem_of_getElem? (i := 0) rfl)))) dX11_goBack_10 ?_
  exact ms_iret hx hb hr hlk () rfl hP hD hS (Nat.le_of_ble_eq_true rfl) (Nat.le_of_ble_eq_true rfl) dX11_goBack_12
set_option maxHeartbeats 4000000 in
set_option maxRecDepth 100000 in
theorem cX10_goBack_2 (l : Launch) (D : va_G) (cA : Nat → ClassId) (q0 q1 q2 q3 q4 q5 q6 q7 q8 q9 q10 q11 q12 q13 q14 : Nat) : ms_Mi l yX10_goBack wsX10_goBack ({ frames := 0, cells := 0, slots := 0, locals := 0 } : Room) D cA [.ref q0, .int 0] [(q0, .inr (10, [.ref q3, .ref q4, .ref q5, .ref q6, .ref q1, .int 0, .ref q7, .ref q8, .ref q9, .ref q10, .ref q11, .ref q12])), (q1, .inl (cA 2, 2, .inr (.inr (.inr (.inr (va_up (va_up (fun _ => none) 0 (some q2)) 1 (some q13))))))), (q2, .inr (1, [.ref q14, .int 0, .int 0]))] (fun (r : Int32) (_ : Unit) => r = (-1000000003)) (fun (_ : Unit) => [(q0, .inr (10, [.ref q3, .ref q4, .ref q5, .ref q6, .ref q1, .int 0, .ref q7, .ref q8, .ref q9, .ref q10, .ref q11, .ref q12])), (q1, .inl (cA 2, 2, .inr (.inr (.inr (.inr (va_up (va_up (fun _ => none) 0 (some q2)) 1 (some q13))))))), (q2, .inr (1, [.ref q14, .int 0, .int 0]))]) := by
  refine ms_Mi_of (cc := cX10_goBack) (maxL := 2) (ret := (some .int)) (by decide) rfl (Nat.le_of_ble_eq_true rfl) ?_
  intro p e s m args below meth c A ls hB hE hA hP hD hS hl
  obtain ⟨hx, hb, hr, hml, hown, hts, hlk, hnm⟩ := hB
  have hown : s.vm.findClass RX10 = some m.cls := hown
  have hnX1 : ∀ w ∈ u_ws RX1 TX1 3, w ∈ wsX10_goBack := fun _ h => List.mem_cons_of_mem _ (List.mem_append_left _ (List.mem_append_left _ (List.mem_append_right _ (h))))
  have hnX10 : ∀ w ∈ u_ws RX10 TX10 12, w ∈ wsX10_goBack := fun _ h => List.mem_cons_of_mem _ (List.mem_append_left _ (List.mem_append_left _ (List.mem_append_left _ (List.mem_append_right _ (h)))))
  have hl : lv_has ls 2 [(0, .ref q0), (1, .int 0)] := hl
  refine lv_iload_n hx hb dX10_goBack_0 rfl (lv_at hl 1 rfl) ?_
  refine lv_if_lt (tgt := 9) hx hb dX10_goBack_1 (by decide) (fun c => absurd c (by decide)) (fun _ => ?_)
  refine lv_iload_n hx hb dX10_goBack_4 rfl (lv_at hl 1 rfl) ?_
  refine lv_iconst (v := 2) hx hb dX10_goBack_5 (by decide) ?_
  refine lv_icmp_lt (tgt := 12) hx hb dX10_goBack_6 (by decide) (fun _ => ?_) (fun c => absurd (by decide) c)
  refine lv_aload_n hx hb dX10_goBack_12 rfl (lv_at hl 0 rfl) ?_
  refine va_get (D := D) (ci := 10) (v := .ref q1) (C := RX10) (T := TX10) (N := 12) hx hb hts hnX10 hown hE.1 hP 0 rfl rfl 4 (by decide) (hts (.fieldLink RX10 40 "MovedStones" "images" "[LMovedStones$Image;") (List.mem_cons_of_mem _ (List.mem_append_left _ (List.mem_append_left _ (List.mem_append_left _ (List.mem_append_left _ (List.mem_append_left _ (List.mem_of_getElem? (i := 1) rfl)))))))) (fun _ h9 => h9) rfl dX10_goBack_13 ?_
  refine lv_iload_n hx hb dX10_goBack_16 rfl (lv_at hl 1 rfl) ?_
  refine ms_aald (o := some q2) (t0 := 2) hx hb hE hP 1 rfl rfl 0 rfl (by omega) (by decide) rfl dX10_goBack_17 ?_
  refine ms_eqv (y := .ref q2) rfl ?_
  refine va_get (D := D) (ci := 1) (v := .int 0) (C := RX1) (T := TX1) (N := 3) hx hb hts hnX1 hown hE.1 hP 2 rfl rfl 2 (by decide) (hts (.fieldLink RX10 109 "MovedStones$Image" "kept" "Z") (List.mem_cons_of_mem _ (List.mem_append_left _ (List.mem_append_left _ (List.mem_append_left _ (List.mem_append_left _ (List.mem_append_left _ (List.mem_of_getElem? (i := 2) rfl)))))))) (fun _ h9 => h9) rfl dX10_goBack_18 ?_
  refine lv_if_ne (tgt := 27) hx hb dX10_goBack_21 (by decide) (fun c => absurd (by decide) c) (fun _ => ?_)
  refine lv_ldc (v := (-1000000003)) hx hb hown (hts (.constant RX10 215 (-1000000003)) (List.mem_cons_of_mem _ (List.mem_append_left _ (List.mem_append_left _ (List.mem_append_left _ (List.mem_append_left _ (List.mem_append_left _ (List.mem_of_getElem? (i := 3) rfl)))))))) dX10_goBack_24 ?_
  exact ms_iret hx hb hr hlk () rfl hP hD hS (Nat.le_of_ble_eq_true rfl) (Nat.le_of_ble_eq_true rfl) dX10_goBack_26
set_option maxHeartbeats 4000000 in
set_option maxRecDepth 100000 in
theorem cX11_goBack_2 (l : Launch) (D : va_G) (cA : Nat → ClassId) (q0 q1 q2 q3 q4 q5 q6 q7 q8 q9 q10 q11 q12 q13 q14 q15 q16 q17 q18 : Nat) : ms_Mi l yX11_goBack wsX11_goBack ({ frames := 1, cells := 0, slots := 0, locals := 25 } : Room) D cA [.ref q0, .int 0] [(q0, .inr (11, [.ref q2, .ref q3, .ref q4, .ref q5, .int 0, .ref q6, .ref q1, .long 0, .ref q7, .int 0, .int (-1), .ref q8, .ref q9, .int 0, .ref q10, .int 0, .int 0, .int 0, .int 0, .int 0, .int 0, .int 0, .ref q11, .ref q12, .ref q13, .int 0, .ref q14, .ref q15, .ref q16, .ref q17, .int 0, .ref q18])), (q1, .inl (cA 1, 2, .inl ms_z))] (fun (r : Int32) (_ : Unit) => r = (-1000000003)) (fun (_ : Unit) => [(q0, .inr (11, [.ref q2, .ref q3, .ref q4, .ref q5, .int 0, .ref q6, .ref q1, .long 0, .ref q7, .int 0, .int (-1), .ref q8, .ref q9, .int 0, .ref q10, .int 0, .int 0, .int 0, .int 0, .int 0, .int 0, .int 0, .ref q11, .ref q12, .ref q13, .int 0, .ref q14, .ref q15, .ref q16, .ref q17, .int 0, .ref q18])), (q1, .inl (cA 1, 2, .inl ms_z))]) := by
  refine ms_Mi_of (cc := cX11_goBack) (maxL := 2) (ret := (some .int)) (by decide) rfl (Nat.le_of_ble_eq_true rfl) ?_
  intro p e s m args below meth c A ls hB hE hA hP hD hS hl
  obtain ⟨hx, hb, hr, hml, hown, hts, hlk, hnm⟩ := hB
  have hown : s.vm.findClass RX11 = some m.cls := hown
  have hnX11 : ∀ w ∈ u_ws RX11 TX11 32, w ∈ wsX11_goBack := fun _ h => List.mem_cons_of_mem _ (List.mem_append_right _ (h))
  have hl : lv_has ls 2 [(0, .ref q0), (1, .int 0)] := hl
  refine lv_iload_n hx hb dX11_goBack_0 rfl (lv_at hl 1 rfl) ?_
  refine lv_i2l (v := 0) hx hb dX11_goBack_1 (by decide) ?_
  refine lv_lconst (v := 0) hx hb dX11_goBack_2 (by decide) ?_
  refine lv_lconst (v := 1) hx hb dX11_goBack_3 (by decide) ?_
  refine ms_cSi (wc := []) (wr := [(q0, .inr (11, [.ref q2, .ref q3, .ref q4, .ref q5, .int 0, .ref q6, .ref q1, .long 0, .ref q7, .int 0, .int (-1), .ref q8, .ref q9, .int 0, .ref q10, .int 0, .int 0, .int 0, .int 0, .int 0, .int 0, .int 0, .ref q11, .ref q12, .ref q13, .int 0, .ref q14, .ref q15, .ref q16, .ref q17, .int 0, .ref q18])), (q1, .inl (cA 1, 2, .inl ms_z))]) ⟨hx, hb, hml, hown, hts⟩ hE (c_in l D cA 0 0 1) (va_cwS 3 hts gX11_goBack_X11_in rfl rfl rfl (by decide +kernel) ⟨Nat.le_of_ble_eq_true rfl, Nat.le_of_ble_eq_true rfl⟩) hP hD hS hA [] [0, 1] rfl rfl rfl rfl (by decide) rfl hl.1 rfl (Nat.le_of_ble_eq_true rfl) dX11_goBack_4 ⟨Nat.le_of_ble_eq_true rfl, Nat.le_of_ble_eq_true rfl⟩ (fun r1 u2 H locs hp hP hD hS => ?_)
  have hp : r1 = 1 := by rw [hp]; have z3 : (0 : Int64).toInt = 0 := (by decide); have z4 : (1 : Int64).toInt = 1 := (by decide); have z5 : (0 : Int64).toInt = 0 := (by decide); exact if_pos (by omega)
  subst hp
  have hP : va_P D vwCl [(q0, .inr (11, [.ref q2, .ref q3, .ref q4, .ref q5, .int 0, .ref q6, .ref q1, .long 0, .ref q7, .int 0, .int (-1), .ref q8, .ref q9, .int 0, .ref q10, .int 0, .int 0, .int 0, .int 0, .int 0, .int 0, .int 0, .ref q11, .ref q12, .ref q13, .int 0, .ref q14, .ref q15, .ref q16, .ref q17, .int 0, .ref q18])), (q1, .inl (cA 1, 2, .inl ms_z))] H := hP
  have hD : va_D A [(q0, .inr (11, [.ref q2, .ref q3, .ref q4, .ref q5, .int 0, .ref q6, .ref q1, .long 0, .ref q7, .int 0, .int (-1), .ref q8, .ref q9, .int 0, .ref q10, .int 0, .int 0, .int 0, .int 0, .int 0, .int 0, .int 0, .ref q11, .ref q12, .ref q13, .int 0, .ref q14, .ref q15, .ref q16, .ref q17, .int 0, .ref q18])), (q1, .inl (cA 1, 2, .inl ms_z))] := hD
  refine lv_if_ne (tgt := 13) hx hb dX11_goBack_7 (by decide) (fun _ => ?_) (fun c => absurd c (by decide))
  refine lv_aload_n hx hb dX11_goBack_13 rfl (lv_at hl 0 rfl) ?_
  refine va_get (D := D) (ci := 11) (v := .ref q1) (C := RX11) (T := TX11) (N := 32) hx hb hts hnX11 hown hE.1 hP 0 rfl rfl 6 (by decide) (hts (.fieldLink RX11 25 "MovedStonesModel" "kept" "[Z") (List.mem_cons_of_mem _ (List.mem_append_left _ (List.mem_of_getElem? (i := 1) rfl)))) (fun _ h9 => h9) rfl dX11_goBack_14 ?_
  refine lv_iload_n hx hb dX11_goBack_17 rfl (lv_at hl 1 rfl) ?_
  refine ms_zald (x := 0) hx hb hE hP 1 rfl 0 rfl (by omega) (by decide) (rfl) dX11_goBack_18 ?_
  refine lv_if_ne (tgt := 25) hx hb dX11_goBack_19 (by decide) (fun c => absurd (by decide) c) (fun _ => ?_)
  refine lv_ldc (v := (-1000000003)) hx hb hown (hts (.constant RX11 189 (-1000000003)) (List.mem_cons_of_mem _ (List.mem_append_left _ (List.mem_of_getElem? (i := 2) rfl)))) dX11_goBack_22 ?_
  exact ms_iret hx hb hr hlk () rfl hP hD hS (Nat.le_of_ble_eq_true rfl) (Nat.le_of_ble_eq_true rfl) dX11_goBack_24
set_option maxHeartbeats 4000000 in
set_option maxRecDepth 100000 in
theorem cX10_goBack_3 (l : Launch) (D : va_G) (cA : Nat → ClassId) (q0 q1 q2 q3 q4 q5 q6 q7 q8 q9 q10 q11 q12 q13 q14 : Nat) : ms_Mi l yX10_goBack wsX10_goBack ({ frames := 0, cells := 0, slots := 0, locals := 0 } : Room) D cA [.ref q0, .int 1] [(q0, .inr (10, [.ref q3, .ref q4, .ref q5, .ref q6, .ref q1, .int 0, .ref q7, .ref q8, .ref q9, .ref q10, .ref q11, .ref q12])), (q1, .inl (cA 2, 2, .inr (.inr (.inr (.inr (va_up (va_up (fun _ => none) 0 (some q13)) 1 (some q2))))))), (q2, .inr (1, [.ref q14, .int 0, .int 0]))] (fun (r : Int32) (_ : Unit) => r = (-1000000003)) (fun (_ : Unit) => [(q0, .inr (10, [.ref q3, .ref q4, .ref q5, .ref q6, .ref q1, .int 0, .ref q7, .ref q8, .ref q9, .ref q10, .ref q11, .ref q12])), (q1, .inl (cA 2, 2, .inr (.inr (.inr (.inr (va_up (va_up (fun _ => none) 0 (some q13)) 1 (some q2))))))), (q2, .inr (1, [.ref q14, .int 0, .int 0]))]) := by
  refine ms_Mi_of (cc := cX10_goBack) (maxL := 2) (ret := (some .int)) (by decide) rfl (Nat.le_of_ble_eq_true rfl) ?_
  intro p e s m args below meth c A ls hB hE hA hP hD hS hl
  obtain ⟨hx, hb, hr, hml, hown, hts, hlk, hnm⟩ := hB
  have hown : s.vm.findClass RX10 = some m.cls := hown
  have hnX1 : ∀ w ∈ u_ws RX1 TX1 3, w ∈ wsX10_goBack := fun _ h => List.mem_cons_of_mem _ (List.mem_append_left _ (List.mem_append_left _ (List.mem_append_right _ (h))))
  have hnX10 : ∀ w ∈ u_ws RX10 TX10 12, w ∈ wsX10_goBack := fun _ h => List.mem_cons_of_mem _ (List.mem_append_left _ (List.mem_append_left _ (List.mem_append_left _ (List.mem_append_right _ (h)))))
  have hl : lv_has ls 2 [(0, .ref q0), (1, .int 1)] := hl
  refine lv_iload_n hx hb dX10_goBack_0 rfl (lv_at hl 1 rfl) ?_
  refine lv_if_lt (tgt := 9) hx hb dX10_goBack_1 (by decide) (fun c => absurd c (by decide)) (fun _ => ?_)
  refine lv_iload_n hx hb dX10_goBack_4 rfl (lv_at hl 1 rfl) ?_
  refine lv_iconst (v := 2) hx hb dX10_goBack_5 (by decide) ?_
  refine lv_icmp_lt (tgt := 12) hx hb dX10_goBack_6 (by decide) (fun _ => ?_) (fun c => absurd (by decide) c)
  refine lv_aload_n hx hb dX10_goBack_12 rfl (lv_at hl 0 rfl) ?_
  refine va_get (D := D) (ci := 10) (v := .ref q1) (C := RX10) (T := TX10) (N := 12) hx hb hts hnX10 hown hE.1 hP 0 rfl rfl 4 (by decide) (hts (.fieldLink RX10 40 "MovedStones" "images" "[LMovedStones$Image;") (List.mem_cons_of_mem _ (List.mem_append_left _ (List.mem_append_left _ (List.mem_append_left _ (List.mem_append_left _ (List.mem_append_left _ (List.mem_of_getElem? (i := 1) rfl)))))))) (fun _ h9 => h9) rfl dX10_goBack_13 ?_
  refine lv_iload_n hx hb dX10_goBack_16 rfl (lv_at hl 1 rfl) ?_
  refine ms_aald (o := some q2) (t0 := 2) hx hb hE hP 1 rfl rfl 1 rfl (by omega) (by decide) rfl dX10_goBack_17 ?_
  refine ms_eqv (y := .ref q2) rfl ?_
  refine va_get (D := D) (ci := 1) (v := .int 0) (C := RX1) (T := TX1) (N := 3) hx hb hts hnX1 hown hE.1 hP 2 rfl rfl 2 (by decide) (hts (.fieldLink RX10 109 "MovedStones$Image" "kept" "Z") (List.mem_cons_of_mem _ (List.mem_append_left _ (List.mem_append_left _ (List.mem_append_left _ (List.mem_append_left _ (List.mem_append_left _ (List.mem_of_getElem? (i := 2) rfl)))))))) (fun _ h9 => h9) rfl dX10_goBack_18 ?_
  refine lv_if_ne (tgt := 27) hx hb dX10_goBack_21 (by decide) (fun c => absurd (by decide) c) (fun _ => ?_)
  refine lv_ldc (v := (-1000000003)) hx hb hown (hts (.constant RX10 215 (-1000000003)) (List.mem_cons_of_mem _ (List.mem_append_left _ (List.mem_append_left _ (List.mem_append_left _ (List.mem_append_left _ (List.mem_append_left _ (List.mem_of_getElem? (i := 3) rfl)))))))) dX10_goBack_24 ?_
  exact ms_iret hx hb hr hlk () rfl hP hD hS (Nat.le_of_ble_eq_true rfl) (Nat.le_of_ble_eq_true rfl) dX10_goBack_26
set_option maxHeartbeats 4000000 in
set_option maxRecDepth 100000 in
theorem cX11_goBack_3 (l : Launch) (D : va_G) (cA : Nat → ClassId) (q0 q1 q2 q3 q4 q5 q6 q7 q8 q9 q10 q11 q12 q13 q14 q15 q16 q17 q18 : Nat) : ms_Mi l yX11_goBack wsX11_goBack ({ frames := 1, cells := 0, slots := 0, locals := 25 } : Room) D cA [.ref q0, .int 1] [(q0, .inr (11, [.ref q2, .ref q3, .ref q4, .ref q5, .int 0, .ref q6, .ref q1, .long 0, .ref q7, .int 0, .int (-1), .ref q8, .ref q9, .int 0, .ref q10, .int 0, .int 0, .int 0, .int 0, .int 0, .int 0, .int 0, .ref q11, .ref q12, .ref q13, .int 0, .ref q14, .ref q15, .ref q16, .ref q17, .int 0, .ref q18])), (q1, .inl (cA 1, 2, .inl ms_z))] (fun (r : Int32) (_ : Unit) => r = (-1000000003)) (fun (_ : Unit) => [(q0, .inr (11, [.ref q2, .ref q3, .ref q4, .ref q5, .int 0, .ref q6, .ref q1, .long 0, .ref q7, .int 0, .int (-1), .ref q8, .ref q9, .int 0, .ref q10, .int 0, .int 0, .int 0, .int 0, .int 0, .int 0, .int 0, .ref q11, .ref q12, .ref q13, .int 0, .ref q14, .ref q15, .ref q16, .ref q17, .int 0, .ref q18])), (q1, .inl (cA 1, 2, .inl ms_z))]) := by
  refine ms_Mi_of (cc := cX11_goBack) (maxL := 2) (ret := (some .int)) (by decide) rfl (Nat.le_of_ble_eq_true rfl) ?_
  intro p e s m args below meth c A ls hB hE hA hP hD hS hl
  obtain ⟨hx, hb, hr, hml, hown, hts, hlk, hnm⟩ := hB
  have hown : s.vm.findClass RX11 = some m.cls := hown
  have hnX11 : ∀ w ∈ u_ws RX11 TX11 32, w ∈ wsX11_goBack := fun _ h => List.mem_cons_of_mem _ (List.mem_append_right _ (h))
  have hl : lv_has ls 2 [(0, .ref q0), (1, .int 1)] := hl
  refine lv_iload_n hx hb dX11_goBack_0 rfl (lv_at hl 1 rfl) ?_
  refine lv_i2l (v := 1) hx hb dX11_goBack_1 (by decide) ?_
  refine lv_lconst (v := 0) hx hb dX11_goBack_2 (by decide) ?_
  refine lv_lconst (v := 1) hx hb dX11_goBack_3 (by decide) ?_
  refine ms_cSi (wc := []) (wr := [(q0, .inr (11, [.ref q2, .ref q3, .ref q4, .ref q5, .int 0, .ref q6, .ref q1, .long 0, .ref q7, .int 0, .int (-1), .ref q8, .ref q9, .int 0, .ref q10, .int 0, .int 0, .int 0, .int 0, .int 0, .int 0, .int 0, .ref q11, .ref q12, .ref q13, .int 0, .ref q14, .ref q15, .ref q16, .ref q17, .int 0, .ref q18])), (q1, .inl (cA 1, 2, .inl ms_z))]) ⟨hx, hb, hml, hown, hts⟩ hE (c_in l D cA 1 0 1) (va_cwS 3 hts gX11_goBack_X11_in rfl rfl rfl (by decide +kernel) ⟨Nat.le_of_ble_eq_true rfl, Nat.le_of_ble_eq_true rfl⟩) hP hD hS hA [] [0, 1] rfl rfl rfl rfl (by decide) rfl hl.1 rfl (Nat.le_of_ble_eq_true rfl) dX11_goBack_4 ⟨Nat.le_of_ble_eq_true rfl, Nat.le_of_ble_eq_true rfl⟩ (fun r1 u2 H locs hp hP hD hS => ?_)
  have hp : r1 = 1 := by rw [hp]; have z3 : (0 : Int64).toInt = 0 := (by decide); have z4 : (1 : Int64).toInt = 1 := (by decide); have z5 : (1 : Int64).toInt = 1 := (by decide); exact if_pos (by omega)
  subst hp
  have hP : va_P D vwCl [(q0, .inr (11, [.ref q2, .ref q3, .ref q4, .ref q5, .int 0, .ref q6, .ref q1, .long 0, .ref q7, .int 0, .int (-1), .ref q8, .ref q9, .int 0, .ref q10, .int 0, .int 0, .int 0, .int 0, .int 0, .int 0, .int 0, .ref q11, .ref q12, .ref q13, .int 0, .ref q14, .ref q15, .ref q16, .ref q17, .int 0, .ref q18])), (q1, .inl (cA 1, 2, .inl ms_z))] H := hP
  have hD : va_D A [(q0, .inr (11, [.ref q2, .ref q3, .ref q4, .ref q5, .int 0, .ref q6, .ref q1, .long 0, .ref q7, .int 0, .int (-1), .ref q8, .ref q9, .int 0, .ref q10, .int 0, .int 0, .int 0, .int 0, .int 0, .int 0, .int 0, .ref q11, .ref q12, .ref q13, .int 0, .ref q14, .ref q15, .ref q16, .ref q17, .int 0, .ref q18])), (q1, .inl (cA 1, 2, .inl ms_z))] := hD
  refine lv_if_ne (tgt := 13) hx hb dX11_goBack_7 (by decide) (fun _ => ?_) (fun c => absurd c (by decide))
  refine lv_aload_n hx hb dX11_goBack_13 rfl (lv_at hl 0 rfl) ?_
  refine va_get (D := D) (ci := 11) (v := .ref q1) (C := RX11) (T := TX11) (N := 32) hx hb hts hnX11 hown hE.1 hP 0 rfl rfl 6 (by decide) (hts (.fieldLink RX11 25 "MovedStonesModel" "kept" "[Z") (List.mem_cons_of_mem _ (List.mem_append_left _ (List.mem_of_getElem? (i := 1) rfl)))) (fun _ h9 => h9) rfl dX11_goBack_14 ?_
  refine lv_iload_n hx hb dX11_goBack_17 rfl (lv_at hl 1 rfl) ?_
  refine ms_zald (x := 0) hx hb hE hP 1 rfl 1 rfl (by omega) (by decide) (rfl) dX11_goBack_18 ?_
  refine lv_if_ne (tgt := 25) hx hb dX11_goBack_19 (by decide) (fun c => absurd (by decide) c) (fun _ => ?_)
  refine lv_ldc (v := (-1000000003)) hx hb hown (hts (.constant RX11 189 (-1000000003)) (List.mem_cons_of_mem _ (List.mem_append_left _ (List.mem_of_getElem? (i := 2) rfl)))) dX11_goBack_22 ?_
  exact ms_iret hx hb hr hlk () rfl hP hD hS (Nat.le_of_ble_eq_true rfl) (Nat.le_of_ble_eq_true rfl) dX11_goBack_24
set_option maxHeartbeats 4000000 in
set_option maxRecDepth 100000 in
theorem cX10_goBack_4 (l : Launch) (D : va_G) (cA : Nat → ClassId) (q0 q1 q2 q3 q4 q5 q6 q7 q8 q9 q10 q11 : Nat) (a0 : Int32) (g0 : 2 ≤ a0.toInt) : ms_Mi l yX10_goBack wsX10_goBack ({ frames := 0, cells := 0, slots := 0, locals := 0 } : Room) D cA [.ref q0, .int a0] [(q0, .inr (10, [.ref q1, .ref q2, .ref q3, .ref q4, .ref q5, .int 0, .ref q6, .ref q7, .ref q8, .ref q9, .ref q10, .ref q11]))] (fun (r : Int32) (_ : Unit) => r = (-1000000001)) (fun (_ : Unit) => [(q0, .inr (10, [.ref q1, .ref q2, .ref q3, .ref q4, .ref q5, .int 0, .ref q6, .ref q7, .ref q8, .ref q9, .ref q10, .ref q11]))]) := by
  refine ms_Mi_of (cc := cX10_goBack) (maxL := 2) (ret := (some .int)) (by decide) rfl (Nat.le_of_ble_eq_true rfl) ?_
  intro p e s m args below meth c A ls hB hE hA hP hD hS hl
  obtain ⟨hx, hb, hr, hml, hown, hts, hlk, hnm⟩ := hB
  have hown : s.vm.findClass RX10 = some m.cls := hown
  have hl : lv_has ls 2 [(0, .ref q0), (1, .int a0)] := hl
  refine lv_iload_n hx hb dX10_goBack_0 rfl (lv_at hl 1 rfl) ?_
  refine lv_if_lt (tgt := 9) hx hb dX10_goBack_1 (by decide) (fun c => by exfalso; have hc1 := Int32.lt_iff_toInt_lt.mp c; have z2 : (0 : Int32).toInt = 0 := (by decide); omega) (fun _ => ?_)
  refine lv_iload_n hx hb dX10_goBack_4 rfl (lv_at hl 1 rfl) ?_
  refine lv_iconst (v := 2) hx hb dX10_goBack_5 (by decide) ?_
  refine lv_icmp_lt (tgt := 12) hx hb dX10_goBack_6 (by decide) (fun c => by exfalso; have hc3 := Int32.lt_iff_toInt_lt.mp c; have z4 : (2 : Int32).toInt = 2 := (by decide); omega) (fun _ => ?_)
  refine lv_ldc (v := (-1000000001)) hx hb hown (hts (.constant RX10 178 (-1000000001)) (List.mem_cons_of_mem _ (List.mem_append_left _ (List.mem_append_left _ (List.mem_append_left _ (List.mem_append_left _ (List.mem_append_left _ (List.mem_of_getElem? (i := 0) rfl)))))))) dX10_goBack_9 ?_
  exact ms_iret hx hb hr hlk () rfl hP hD hS (Nat.le_of_ble_eq_true rfl) (Nat.le_of_ble_eq_true rfl) dX10_goBack_11
set_option maxHeartbeats 4000000 in
set_option maxRecDepth 100000 in
theorem cX11_goBack_4 (l : Launch) (D : va_G) (cA : Nat → ClassId) (q0 q1 q2 q3 q4 q5 q6 q7 q8 q9 q10 q11 q12 q13 q14 q15 q16 q17 q18 : Nat) (a0 : Int32) (g0 : 2 ≤ a0.toInt) : ms_Mi l yX11_goBack wsX11_goBack ({ frames := 1, cells := 0, slots := 0, locals := 25 } : Room) D cA [.ref q0, .int a0] [(q0, .inr (11, [.ref q1, .ref q2, .ref q3, .ref q4, .int 0, .ref q5, .ref q6, .long 0, .ref q7, .int 0, .int (-1), .ref q8, .ref q9, .int 0, .ref q10, .int 0, .int 0, .int 0, .int 0, .int 0, .int 0, .int 0, .ref q11, .ref q12, .ref q13, .int 0, .ref q14, .ref q15, .ref q16, .ref q17, .int 0, .ref q18]))] (fun (r : Int32) (_ : Unit) => r = (-1000000001)) (fun (_ : Unit) => [(q0, .inr (11, [.ref q1, .ref q2, .ref q3, .ref q4, .int 0, .ref q5, .ref q6, .long 0, .ref q7, .int 0, .int (-1), .ref q8, .ref q9, .int 0, .ref q10, .int 0, .int 0, .int 0, .int 0, .int 0, .int 0, .int 0, .ref q11, .ref q12, .ref q13, .int 0, .ref q14, .ref q15, .ref q16, .ref q17, .int 0, .ref q18]))]) := by
  refine ms_Mi_of (cc := cX11_goBack) (maxL := 2) (ret := (some .int)) (by decide) rfl (Nat.le_of_ble_eq_true rfl) ?_
  intro p e s m args below meth c A ls hB hE hA hP hD hS hl
  obtain ⟨hx, hb, hr, hml, hown, hts, hlk, hnm⟩ := hB
  have hown : s.vm.findClass RX11 = some m.cls := hown
  have hl : lv_has ls 2 [(0, .ref q0), (1, .int a0)] := hl
  refine lv_iload_n hx hb dX11_goBack_0 rfl (lv_at hl 1 rfl) ?_
  refine lv_i2l (v := a0.toInt64) hx hb dX11_goBack_1 rfl ?_
  refine lv_lconst (v := 0) hx hb dX11_goBack_2 (by decide) ?_
  refine lv_lconst (v := 1) hx hb dX11_goBack_3 (by decide) ?_
  refine ms_cSi (wc := []) (wr := [(q0, .inr (11, [.ref q1, .ref q2, .ref q3, .ref q4, .int 0, .ref q5, .ref q6, .long 0, .ref q7, .int 0, .int (-1), .ref q8, .ref q9, .int 0, .ref q10, .int 0, .int 0, .int 0, .int 0, .int 0, .int 0, .int 0, .ref q11, .ref q12, .ref q13, .int 0, .ref q14, .ref q15, .ref q16, .ref q17, .int 0, .ref q18]))]) ⟨hx, hb, hml, hown, hts⟩ hE (c_in l D cA a0.toInt64 0 1) (va_cwS 3 hts gX11_goBack_X11_in rfl rfl rfl (by decide +kernel) ⟨Nat.le_of_ble_eq_true rfl, Nat.le_of_ble_eq_true rfl⟩) hP hD hS hA [] [0] rfl rfl rfl rfl (by decide) rfl hl.1 rfl (Nat.le_of_ble_eq_true rfl) dX11_goBack_4 ⟨Nat.le_of_ble_eq_true rfl, Nat.le_of_ble_eq_true rfl⟩ (fun r1 u2 H locs hp hP hD hS => ?_)
  have hp : r1 = 0 := by rw [hp]; have z3 : (0 : Int64).toInt = 0 := (by decide); have z4 : (1 : Int64).toInt = 1 := (by decide); have z5 : (a0.toInt64).toInt = a0.toInt := Int32.toInt_toInt64 _; exact if_neg (by omega)
  subst hp
  have hP : va_P D vwCl [(q0, .inr (11, [.ref q1, .ref q2, .ref q3, .ref q4, .int 0, .ref q5, .ref q6, .long 0, .ref q7, .int 0, .int (-1), .ref q8, .ref q9, .int 0, .ref q10, .int 0, .int 0, .int 0, .int 0, .int 0, .int 0, .int 0, .ref q11, .ref q12, .ref q13, .int 0, .ref q14, .ref q15, .ref q16, .ref q17, .int 0, .ref q18]))] H := hP
  have hD : va_D A [(q0, .inr (11, [.ref q1, .ref q2, .ref q3, .ref q4, .int 0, .ref q5, .ref q6, .long 0, .ref q7, .int 0, .int (-1), .ref q8, .ref q9, .int 0, .ref q10, .int 0, .int 0, .int 0, .int 0, .int 0, .int 0, .int 0, .ref q11, .ref q12, .ref q13, .int 0, .ref q14, .ref q15, .ref q16, .ref q17, .int 0, .ref q18]))] := hD
  refine lv_if_ne (tgt := 13) hx hb dX11_goBack_7 (by decide) (fun c => absurd (by decide) c) (fun _ => ?_)
  refine lv_ldc (v := (-1000000001)) hx hb hown (hts (.constant RX11 173 (-1000000001)) (List.mem_cons_of_mem _ (List.mem_append_left _ (List.mem_of_getElem? (i := 0) rfl)))) dX11_goBack_10 ?_
  exact ms_iret hx hb hr hlk () rfl hP hD hS (Nat.le_of_ble_eq_true rfl) (Nat.le_of_ble_eq_true rfl) dX11_goBack_12
