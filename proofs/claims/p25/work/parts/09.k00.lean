set_option maxHeartbeats 4000000 in
set_option maxRecDepth 100000 in
theorem cX2_init_1 (l : Launch) (D : va_G) (cA : Nat → ClassId) (q0 : Nat) : ms_Mv l yX2_init wsX2_init ({ frames := 1, cells := 8, slots := 63, locals := 20 } : Room) D cA [.ref q0] [(q0, .inr (2, [.int 0, .int 0, .int 0, .int 0, .int 0, .null, .null, .null, .null, .null, .null, .null, .null]))] (fun (_ : Nat → Nat) => True) (fun (u : Nat → Nat) => [(q0, .inr (2, [.int 0, .int 0, .int 0, .int 0, .int 0, .ref ((u 0)), .ref ((u 1)), .ref ((u 2)), .ref ((u 3)), .ref ((u 4)), .ref ((u 5)), .ref ((u 6)), .ref ((u 7))])), ((u 0), .inl (cA 0, 9, .inl ms_z)), ((u 1), .inl (cA 0, 9, .inl ms_z)), ((u 2), .inl (cA 0, 9, .inl ms_z)), ((u 3), .inl (cA 0, 9, .inl ms_z)), ((u 4), .inl (cA 0, 9, .inl ms_z)), ((u 5), .inl (cA 0, 6, .inl ms_z)), ((u 6), .inl (cA 0, 6, .inl ms_z)), ((u 7), .inl (cA 0, 6, .inl ms_z))]) := by
  refine ms_Mv_of (cc := cX2_init) (maxL := 1) (ret := none) (by decide) rfl (Nat.le_of_ble_eq_true rfl) ?_
  intro p e s m args below meth c A ls hB hE hA hP hD hS hl
  obtain ⟨hx, hb, hr, hml, hown, hts, hlk, hnm⟩ := hB
  have hown : s.vm.findClass RX2 = some m.cls := hown
  have hnX2 : ∀ w ∈ u_ws RX2 TX2 13, w ∈ wsX2_init := fun _ h => List.mem_cons_of_mem _ (List.mem_append_right _ (h))
  have hl : lv_has ls 1 [(0, .ref q0)] := hl
  refine lv_aload_n hx hb dX2_init_0 rfl (lv_at hl 0 rfl) ?_
  refine W.objInit hx hb hown (hts (.methodLink RX2 3 objectInit) (List.mem_cons_of_mem _ (List.mem_append_left _ (List.mem_of_getElem? (i := 0) rfl)))) (hts (.instanceMethod objectInit) (List.mem_cons_of_mem _ (List.mem_append_left _ (List.mem_of_getElem? (i := 1) rfl)))) (hts (.code objectInit ⟨#[0xb1]⟩ 1 none) (List.mem_cons_of_mem _ (List.mem_append_left _ (List.mem_of_getElem? (i := 2) rfl)))) rfl (by rw [hml]; exact hl.1) rfl dX2_init_1 (Nat.le_of_ble_eq_true rfl) (Nat.le_of_ble_eq_true rfl) ?_
  refine W.eq (g2 := F0 m 4 ls []) rfl ?_
  refine lv_aload_n hx hb dX2_init_4 rfl (lv_at hl 0 rfl) ?_
  refine lv_bipush (v := 9) hx hb dX2_init_5 (by decide) ?_
  refine ms_newi 9 hx hb (hts (.arrayClass .int) (List.mem_cons_of_mem _ (List.mem_append_left _ (List.mem_of_getElem? (i := 3) rfl)))) hE hP hD hS hA rfl (by decide) (Nat.le_of_ble_eq_true rfl) (Nat.le_of_ble_eq_true rfl) dX2_init_7 (fun k1 H hP hD hS => ?_)
  have hP : va_P D vwCl [(q0, .inr (2, [.int 0, .int 0, .int 0, .int 0, .int 0, .null, .null, .null, .null, .null, .null, .null, .null])), (k1, .inl (cA 0, 9, .inl ms_z))] H := hP
  have hD : va_D A [(q0, .inr (2, [.int 0, .int 0, .int 0, .int 0, .int 0, .null, .null, .null, .null, .null, .null, .null, .null])), (k1, .inl (cA 0, 9, .inl ms_z))] := hD
  refine va_putF (D := D) (ci := 2) (v := .ref k1) (ty := tyX2 5) (C := RX2) (T := TX2) (N := 13) hx hb hts hnX2 tyX2 tyX2_ok nmX2 hown hE.1 hP hD hS 0 rfl rfl 5 (by decide) (hts (.fieldLink RX2 9 "MovedStones$Land" "from" "[I") (List.mem_cons_of_mem _ (List.mem_append_left _ (List.mem_of_getElem? (i := 4) rfl)))) (fun _ h9 => h9) rfl hnm rfl (tyX2_ok 5 (by decide)) rfl rfl (Nat.le_of_ble_eq_true rfl) dX2_init_9 (fun H locs hP hD hS => ?_)
  have hP : va_P D vwCl [(q0, .inr (2, [.int 0, .int 0, .int 0, .int 0, .int 0, .ref k1, .null, .null, .null, .null, .null, .null, .null])), (k1, .inl (cA 0, 9, .inl ms_z))] H := hP
  have hD : va_D A [(q0, .inr (2, [.int 0, .int 0, .int 0, .int 0, .int 0, .ref k1, .null, .null, .null, .null, .null, .null, .null])), (k1, .inl (cA 0, 9, .inl ms_z))] := hD
  refine lv_aload_n hx hb dX2_init_12 rfl (lv_at hl 0 rfl) ?_
  refine lv_bipush (v := 9) hx hb dX2_init_13 (by decide) ?_
  refine ms_newi 9 hx hb (hts (.arrayClass .int) (List.mem_cons_of_mem _ (List.mem_append_left _ (List.mem_of_getElem? (i := 3) rfl)))) hE hP hD hS hA rfl (by decide) (Nat.le_of_ble_eq_true rfl) (Nat.le_of_ble_eq_true rfl) dX2_init_15 (fun k2 H hP hD hS => ?_)
  have hP : va_P D vwCl [(q0, .inr (2, [.int 0, .int 0, .int 0, .int 0, .int 0, .ref k1, .null, .null, .null, .null, .null, .null, .null])), (k1, .inl (cA 0, 9, .inl ms_z)), (k2, .inl (cA 0, 9, .inl ms_z))] H := hP
  have hD : va_D A [(q0, .inr (2, [.int 0, .int 0, .int 0, .int 0, .int 0, .ref k1, .null, .null, .null, .null, .null, .null, .null])), (k1, .inl (cA 0, 9, .inl ms_z)), (k2, .inl (cA 0, 9, .inl ms_z))] := hD
  refine va_putF (D := D) (ci := 2) (v := .ref k2) (ty := tyX2 6) (C := RX2) (T := TX2) (N := 13) hx hb hts hnX2 tyX2 tyX2_ok nmX2 hown hE.1 hP hD hS 0 rfl rfl 6 (by decide) (hts (.fieldLink RX2 15 "MovedStones$Land" "to" "[I") (List.mem_cons_of_mem _ (List.mem_append_left _ (List.mem_of_getElem? (i := 5) rfl)))) (fun _ h9 => h9) rfl hnm rfl (tyX2_ok 6 (by decide)) rfl rfl (Nat.le_of_ble_eq_true rfl) dX2_init_17 (fun H locs hP hD hS => ?_)
  have hP : va_P D vwCl [(q0, .inr (2, [.int 0, .int 0, .int 0, .int 0, .int 0, .ref k1, .ref k2, .null, .null, .null, .null, .null, .null])), (k1, .inl (cA 0, 9, .inl ms_z)), (k2, .inl (cA 0, 9, .inl ms_z))] H := hP
  have hD : va_D A [(q0, .inr (2, [.int 0, .int 0, .int 0, .int 0, .int 0, .ref k1, .ref k2, .null, .null, .null, .null, .null, .null])), (k1, .inl (cA 0, 9, .inl ms_z)), (k2, .inl (cA 0, 9, .inl ms_z))] := hD
  refine lv_aload_n hx hb dX2_init_20 rfl (lv_at hl 0 rfl) ?_
  refine lv_bipush (v := 9) hx hb dX2_init_21 (by decide) ?_
  refine ms_newi 9 hx hb (hts (.arrayClass .int) (List.mem_cons_of_mem _ (List.mem_append_left _ (List.mem_of_getElem? (i := 3) rfl)))) hE hP hD hS hA rfl (by decide) (Nat.le_of_ble_eq_true rfl) (Nat.le_of_ble_eq_true rfl) dX2_init_23 (fun k3 H hP hD hS => ?_)
  have hP : va_P D vwCl [(q0, .inr (2, [.int 0, .int 0, .int 0, .int 0, .int 0, .ref k1, .ref k2, .null, .null, .null, .null, .null, .null])), (k1, .inl (cA 0, 9, .inl ms_z)), (k2, .inl (cA 0, 9, .inl ms_z)), (k3, .inl (cA 0, 9, .inl ms_z))] H := hP
  have hD : va_D A [(q0, .inr (2, [.int 0, .int 0, .int 0, .int 0, .int 0, .ref k1, .ref k2, .null, .null, .null, .null, .null, .null])), (k1, .inl (cA 0, 9, .inl ms_z)), (k2, .inl (cA 0, 9, .inl ms_z)), (k3, .inl (cA 0, 9, .inl ms_z))] := hD
  refine va_putF (D := D) (ci := 2) (v := .ref k3) (ty := tyX2 7) (C := RX2) (T := TX2) (N := 13) hx hb hts hnX2 tyX2 tyX2_ok nmX2 hown hE.1 hP hD hS 0 rfl rfl 7 (by decide) (hts (.fieldLink RX2 18 "MovedStones$Land" "feet" "[I") (List.mem_cons_of_mem _ (List.mem_append_left _ (List.mem_of_getElem? (i := 6) rfl)))) (fun _ h9 => h9) rfl hnm rfl (tyX2_ok 7 (by decide)) rfl rfl (Nat.le_of_ble_eq_true rfl) dX2_init_25 (fun H locs hP hD hS => ?_)
  have hP : va_P D vwCl [(q0, .inr (2, [.int 0, .int 0, .int 0, .int 0, .int 0, .ref k1, .ref k2, .ref k3, .null, .null, .null, .null, .null])), (k1, .inl (cA 0, 9, .inl ms_z)), (k2, .inl (cA 0, 9, .inl ms_z)), (k3, .inl (cA 0, 9, .inl ms_z))] H := hP
  have hD : va_D A [(q0, .inr (2, [.int 0, .int 0, .int 0, .int 0, .int 0, .ref k1, .ref k2, .ref k3, .null, .null, .null, .null, .null])), (k1, .inl (cA 0, 9, .inl ms_z)), (k2, .inl (cA 0, 9, .inl ms_z)), (k3, .inl (cA 0, 9, .inl ms_z))] := hD
  refine lv_aload_n hx hb dX2_init_28 rfl (lv_at hl 0 rfl) ?_
  refine lv_bipush (v := 9) hx hb dX2_init_29 (by decide) ?_
  refine ms_newi 9 hx hb (hts (.arrayClass .int) (List.mem_cons_of_mem _ (List.mem_append_left _ (List.mem_of_getElem? (i := 3) rfl)))) hE hP hD hS hA rfl (by decide) (Nat.le_of_ble_eq_true rfl) (Nat.le_of_ble_eq_true rfl) dX2_init_31 (fun k4 H hP hD hS => ?_)
  have hP : va_P D vwCl [(q0, .inr (2, [.int 0, .int 0, .int 0, .int 0, .int 0, .ref k1, .ref k2, .ref k3, .null, .null, .null, .null, .null])), (k1, .inl (cA 0, 9, .inl ms_z)), (k2, .inl (cA 0, 9, .inl ms_z)), (k3, .inl (cA 0, 9, .inl ms_z)), (k4, .inl (cA 0, 9, .inl ms_z))] H := hP
  have hD : va_D A [(q0, .inr (2, [.int 0, .int 0, .int 0, .int 0, .int 0, .ref k1, .ref k2, .ref k3, .null, .null, .null, .null, .null])), (k1, .inl (cA 0, 9, .inl ms_z)), (k2, .inl (cA 0, 9, .inl ms_z)), (k3, .inl (cA 0, 9, .inl ms_z)), (k4, .inl (cA 0, 9, .inl ms_z))] := hD
  refine va_putF (D := D) (ci := 2) (v := .ref k4) (ty := tyX2 8) (C := RX2) (T := TX2) (N := 13) hx hb hts hnX2 tyX2 tyX2_ok nmX2 hown hE.1 hP hD hS 0 rfl rfl 8 (by decide) (hts (.fieldLink RX2 21 "MovedStones$Land" "miles" "[I") (List.mem_cons_of_mem _ (List.mem_append_left _ (List.mem_of_getElem? (i := 7) rfl)))) (fun _ h9 => h9) rfl hnm rfl (tyX2_ok 8 (by decide)) rfl rfl (Nat.le_of_ble_eq_true rfl) dX2_init_33 (fun H locs hP hD hS => ?_)
  have hP : va_P D vwCl [(q0, .inr (2, [.int 0, .int 0, .int 0, .int 0, .int 0, .ref k1, .ref k2, .ref k3, .ref k4, .null, .null, .null, .null])), (k1, .inl (cA 0, 9, .inl ms_z)), (k2, .inl (cA 0, 9, .inl ms_z)), (k3, .inl (cA 0, 9, .inl ms_z)), (k4, .inl (cA 0, 9, .inl ms_z))] H := hP
  have hD : va_D A [(q0, .inr (2, [.int 0, .int 0, .int 0, .int 0, .int 0, .ref k1, .ref k2, .ref k3, .ref k4, .null, .null, .null, .null])), (k1, .inl (cA 0, 9, .inl ms_z)), (k2, .inl (cA 0, 9, .inl ms_z)), (k3, .inl (cA 0, 9, .inl ms_z)), (k4, .inl (cA 0, 9, .inl ms_z))] := hD
  refine lv_aload_n hx hb dX2_init_36 rfl (lv_at hl 0 rfl) ?_
  refine lv_bipush (v := 9) hx hb dX2_init_37 (by decide) ?_
  refine ms_newi 9 hx hb (hts (.arrayClass .int) (List.mem_cons_of_mem _ (List.mem_append_left _ (List.mem_of_getElem? (i := 3) rfl)))) hE hP hD hS hA rfl (by decide) (Nat.le_of_ble_eq_true rfl) (Nat.le_of_ble_eq_true rfl) dX2_init_39 (fun k5 H hP hD hS => ?_)
  have hP : va_P D vwCl [(q0, .inr (2, [.int 0, .int 0, .int 0, .int 0, .int 0, .ref k1, .ref k2, .ref k3, .ref k4, .null, .null, .null, .null])), (k1, .inl (cA 0, 9, .inl ms_z)), (k2, .inl (cA 0, 9, .inl ms_z)), (k3, .inl (cA 0, 9, .inl ms_z)), (k4, .inl (cA 0, 9, .inl ms_z)), (k5, .inl (cA 0, 9, .inl ms_z))] H := hP
  have hD : va_D A [(q0, .inr (2, [.int 0, .int 0, .int 0, .int 0, .int 0, .ref k1, .ref k2, .ref k3, .ref k4, .null, .null, .null, .null])), (k1, .inl (cA 0, 9, .inl ms_z)), (k2, .inl (cA 0, 9, .inl ms_z)), (k3, .inl (cA 0, 9, .inl ms_z)), (k4, .inl (cA 0, 9, .inl ms_z)), (k5, .inl (cA 0, 9, .inl ms_z))] := hD
  refine va_putF (D := D) (ci := 2) (v := .ref k5) (ty := tyX2 9) (C := RX2) (T := TX2) (N := 13) hx hb hts hnX2 tyX2 tyX2_ok nmX2 hown hE.1 hP hD hS 0 rfl rfl 9 (by decide) (hts (.fieldLink RX2 24 "MovedStones$Land" "owner" "[I") (List.mem_cons_of_mem _ (List.mem_append_left _ (List.mem_of_getElem? (i := 8) rfl)))) (fun _ h9 => h9) rfl hnm rfl (tyX2_ok 9 (by decide)) rfl rfl (Nat.le_of_ble_eq_true rfl) dX2_init_41 (fun H locs hP hD hS => ?_)
  have hP : va_P D vwCl [(q0, .inr (2, [.int 0, .int 0, .int 0, .int 0, .int 0, .ref k1, .ref k2, .ref k3, .ref k4, .ref k5, .null, .null, .null])), (k1, .inl (cA 0, 9, .inl ms_z)), (k2, .inl (cA 0, 9, .inl ms_z)), (k3, .inl (cA 0, 9, .inl ms_z)), (k4, .inl (cA 0, 9, .inl ms_z)), (k5, .inl (cA 0, 9, .inl ms_z))] H := hP
  have hD : va_D A [(q0, .inr (2, [.int 0, .int 0, .int 0, .int 0, .int 0, .ref k1, .ref k2, .ref k3, .ref k4, .ref k5, .null, .null, .null])), (k1, .inl (cA 0, 9, .inl ms_z)), (k2, .inl (cA 0, 9, .inl ms_z)), (k3, .inl (cA 0, 9, .inl ms_z)), (k4, .inl (cA 0, 9, .inl ms_z)), (k5, .inl (cA 0, 9, .inl ms_z))] := hD
  refine lv_aload_n hx hb dX2_init_44 rfl (lv_at hl 0 rfl) ?_
  refine lv_bipush (v := 6) hx hb dX2_init_45 (by decide) ?_
  refine ms_newi 6 hx hb (hts (.arrayClass .int) (List.mem_cons_of_mem _ (List.mem_append_left _ (List.mem_of_getElem? (i := 3) rfl)))) hE hP hD hS hA rfl (by decide) (Nat.le_of_ble_eq_true rfl) (Nat.le_of_ble_eq_true rfl) dX2_init_47 (fun k6 H hP hD hS => ?_)
  have hP : va_P D vwCl [(q0, .inr (2, [.int 0, .int 0, .int 0, .int 0, .int 0, .ref k1, .ref k2, .ref k3, .ref k4, .ref k5, .null, .null, .null])), (k1, .inl (cA 0, 9, .inl ms_z)), (k2, .inl (cA 0, 9, .inl ms_z)), (k3, .inl (cA 0, 9, .inl ms_z)), (k4, .inl (cA 0, 9, .inl ms_z)), (k5, .inl (cA 0, 9, .inl ms_z)), (k6, .inl (cA 0, 6, .inl ms_z))] H := hP
  have hD : va_D A [(q0, .inr (2, [.int 0, .int 0, .int 0, .int 0, .int 0, .ref k1, .ref k2, .ref k3, .ref k4, .ref k5, .null, .null, .null])), (k1, .inl (cA 0, 9, .inl ms_z)), (k2, .inl (cA 0, 9, .inl ms_z)), (k3, .inl (cA 0, 9, .inl ms_z)), (k4, .inl (cA 0, 9, .inl ms_z)), (k5, .inl (cA 0, 9, .inl ms_z)), (k6, .inl (cA 0, 6, .inl ms_z))] := hD
  refine va_putF (D := D) (ci := 2) (v := .ref k6) (ty := tyX2 10) (C := RX2) (T := TX2) (N := 13) hx hb hts hnX2 tyX2 tyX2_ok nmX2 hown hE.1 hP hD hS 0 rfl rfl 10 (by decide) (hts (.fieldLink RX2 27 "MovedStones$Land" "kind" "[I") (List.mem_cons_of_mem _ (List.mem_append_left _ (List.mem_of_getElem? (i := 9) rfl)))) (fun _ h9 => h9) rfl hnm rfl (tyX2_ok 10 (by decide)) rfl rfl (Nat.le_of_ble_eq_true rfl) dX2_init_49 (fun H locs hP hD hS => ?_)
  have hP : va_P D vwCl [(q0, .inr (2, [.int 0, .int 0, .int 0, .int 0, .int 0, .ref k1, .ref k2, .ref k3, .ref k4, .ref k5, .ref k6, .null, .null])), (k1, .inl (cA 0, 9, .inl ms_z)), (k2, .inl (cA 0, 9, .inl ms_z)), (k3, .inl (cA 0, 9, .inl ms_z)), (k4, .inl (cA 0, 9, .inl ms_z)), (k5, .inl (cA 0, 9, .inl ms_z)), (k6, .inl (cA 0, 6, .inl ms_z))] H := hP
  have hD : va_D A [(q0, .inr (2, [.int 0, .int 0, .int 0, .int 0, .int 0, .ref k1, .ref k2, .ref k3, .ref k4, .ref k5, .ref k6, .null, .null])), (k1, .inl (cA 0, 9, .inl ms_z)), (k2, .inl (cA 0, 9, .inl ms_z)), (k3, .inl (cA 0, 9, .inl ms_z)), (k4, .inl (cA 0, 9, .inl ms_z)), (k5, .inl (cA 0, 9, .inl ms_z)), (k6, .inl (cA 0, 6, .inl ms_z))] := hD
  refine lv_aload_n hx hb dX2_init_52 rfl (lv_at hl 0 rfl) ?_
  refine lv_bipush (v := 6) hx hb dX2_init_53 (by decide) ?_
  refine ms_newi 6 hx hb (hts (.arrayClass .int) (List.mem_cons_of_mem _ (List.mem_append_left _ (List.mem_of_getElem? (i := 3) rfl)))) hE hP hD hS hA rfl (by decide) (Nat.le_of_ble_eq_true rfl) (Nat.le_of_ble_eq_true rfl) dX2_init_55 (fun k7 H hP hD hS => ?_)
  have hP : va_P D vwCl [(q0, .inr (2, [.int 0, .int 0, .int 0, .int 0, .int 0, .ref k1, .ref k2, .ref k3, .ref k4, .ref k5, .ref k6, .null, .null])), (k1, .inl (cA 0, 9, .inl ms_z)), (k2, .inl (cA 0, 9, .inl ms_z)), (k3, .inl (cA 0, 9, .inl ms_z)), (k4, .inl (cA 0, 9, .inl ms_z)), (k5, .inl (cA 0, 9, .inl ms_z)), (k6, .inl (cA 0, 6, .inl ms_z)), (k7, .inl (cA 0, 6, .inl ms_z))] H := hP
  have hD : va_D A [(q0, .inr (2, [.int 0, .int 0, .int 0, .int 0, .int 0, .ref k1, .ref k2, .ref k3, .ref k4, .ref k5, .ref k6, .null, .null])), (k1, .inl (cA 0, 9, .inl ms_z)), (k2, .inl (cA 0, 9, .inl ms_z)), (k3, .inl (cA 0, 9, .inl ms_z)), (k4, .inl (cA 0, 9, .inl ms_z)), (k5, .inl (cA 0, 9, .inl ms_z)), (k6, .inl (cA 0, 6, .inl ms_z)), (k7, .inl (cA 0, 6, .inl ms_z))] := hD
  refine va_putF (D := D) (ci := 2) (v := .ref k7) (ty := tyX2 11) (C := RX2) (T := TX2) (N := 13) hx hb hts hnX2 tyX2 tyX2_ok nmX2 hown hE.1 hP hD hS 0 rfl rfl 11 (by decide) (hts (.fieldLink RX2 30 "MovedStones$Land" "bound" "[I") (List.mem_cons_of_mem _ (List.mem_append_left _ (List.mem_of_getElem? (i := 10) rfl)))) (fun _ h9 => h9) rfl hnm rfl (tyX2_ok 11 (by decide)) rfl rfl (Nat.le_of_ble_eq_true rfl) dX2_init_57 (fun H locs hP hD hS => ?_)
  have hP : va_P D vwCl [(q0, .inr (2, [.int 0, .int 0, .int 0, .int 0, .int 0, .ref k1, .ref k2, .ref k3, .ref k4, .ref k5, .ref k6, .ref k7, .null])), (k1, .inl (cA 0, 9, .inl ms_z)), (k2, .inl (cA 0, 9, .inl ms_z)), (k3, .inl (cA 0, 9, .inl ms_z)), (k4, .inl (cA 0, 9, .inl ms_z)), (k5, .inl (cA 0, 9, .inl ms_z)), (k6, .inl (cA 0, 6, .inl ms_z)), (k7, .inl (cA 0, 6, .inl ms_z))] H := hP
  have hD : va_D A [(q0, .inr (2, [.int 0, .int 0, .int 0, .int 0, .int 0, .ref k1, .ref k2, .ref k3, .ref k4, .ref k5, .ref k6, .ref k7, .null])), (k1, .inl (cA 0, 9, .inl ms_z)), (k2, .inl (cA 0, 9, .inl ms_z)), (k3, .inl (cA 0, 9, .inl ms_z)), (k4, .inl (cA 0, 9, .inl ms_z)), (k5, .inl (cA 0, 9, .inl ms_z)), (k6, .inl (cA 0, 6, .inl ms_z)), (k7, .inl (cA 0, 6, .inl ms_z))] := hD
  refine lv_aload_n hx hb dX2_init_60 rfl (lv_at hl 0 rfl) ?_
  refine lv_bipush (v := 6) hx hb dX2_init_61 (by decide) ?_
  refine ms_newi 6 hx hb (hts (.arrayClass .int) (List.mem_cons_of_mem _ (List.mem_append_left _ (List.mem_of_getElem? (i := 3) rfl)))) hE hP hD hS hA rfl (by decide) (Nat.le_of_ble_eq_true rfl) (Nat.le_of_ble_eq_true rfl) dX2_init_63 (fun k8 H hP hD hS => ?_)
  have hP : va_P D vwCl [(q0, .inr (2, [.int 0, .int 0, .int 0, .int 0, .int 0, .ref k1, .ref k2, .ref k3, .ref k4, .ref k5, .ref k6, .ref k7, .null])), (k1, .inl (cA 0, 9, .inl ms_z)), (k2, .inl (cA 0, 9, .inl ms_z)), (k3, .inl (cA 0, 9, .inl ms_z)), (k4, .inl (cA 0, 9, .inl ms_z)), (k5, .inl (cA 0, 9, .inl ms_z)), (k6, .inl (cA 0, 6, .inl ms_z)), (k7, .inl (cA 0, 6, .inl ms_z)), (k8, .inl (cA 0, 6, .inl ms_z))] H := hP
  have hD : va_D A [(q0, .inr (2, [.int 0, .int 0, .int 0, .int 0, .int 0, .ref k1, .ref k2, .ref k3, .ref k4, .ref k5, .ref k6, .ref k7, .null])), (k1, .inl (cA 0, 9, .inl ms_z)), (k2, .inl (cA 0, 9, .inl ms_z)), (k3, .inl (cA 0, 9, .inl ms_z)), (k4, .inl (cA 0, 9, .inl ms_z)), (k5, .inl (cA 0, 9, .inl ms_z)), (k6, .inl (cA 0, 6, .inl ms_z)), (k7, .inl (cA 0, 6, .inl ms_z)), (k8, .inl (cA 0, 6, .inl ms_z))] := hD
  refine va_putF (D := D) (ci := 2) (v := .ref k8) (ty := tyX2 12) (C := RX2) (T := TX2) (N := 13) hx hb hts hnX2 tyX2 tyX2_ok nmX2 hown hE.1 hP hD hS 0 rfl rfl 12 (by decide) (hts (.fieldLink RX2 33 "MovedStones$Land" "value" "[I") (List.mem_cons_of_mem _ (List.mem_append_left _ (List.mem_of_getElem? (i := 11) rfl)))) (fun _ h9 => h9) rfl hnm rfl (tyX2_ok 12 (by decide)) rfl rfl (Nat.le_of_ble_eq_true rfl) dX2_init_65 (fun H locs hP hD hS => ?_)
  have hP : va_P D vwCl [(q0, .inr (2, [.int 0, .int 0, .int 0, .int 0, .int 0, .ref k1, .ref k2, .ref k3, .ref k4, .ref k5, .ref k6, .ref k7, .ref k8])), (k1, .inl (cA 0, 9, .inl ms_z)), (k2, .inl (cA 0, 9, .inl ms_z)), (k3, .inl (cA 0, 9, .inl ms_z)), (k4, .inl (cA 0, 9, .inl ms_z)), (k5, .inl (cA 0, 9, .inl ms_z)), (k6, .inl (cA 0, 6, .inl ms_z)), (k7, .inl (cA 0, 6, .inl ms_z)), (k8, .inl (cA 0, 6, .inl ms_z))] H := hP
  have hD : va_D A [(q0, .inr (2, [.int 0, .int 0, .int 0, .int 0, .int 0, .ref k1, .ref k2, .ref k3, .ref k4, .ref k5, .ref k6, .ref k7, .ref k8])), (k1, .inl (cA 0, 9, .inl ms_z)), (k2, .inl (cA 0, 9, .inl ms_z)), (k3, .inl (cA 0, 9, .inl ms_z)), (k4, .inl (cA 0, 9, .inl ms_z)), (k5, .inl (cA 0, 9, .inl ms_z)), (k6, .inl (cA 0, 6, .inl ms_z)), (k7, .inl (cA 0, 6, .inl ms_z)), (k8, .inl (cA 0, 6, .inl ms_z))] := hD
  exact ms_vret hx hb hr hlk (fun i => [k1, k2, k3, k4, k5, k6, k7, k8].getD i 0) trivial hP hD hS (Nat.le_of_ble_eq_true rfl) (Nat.le_of_ble_eq_true rfl) dX2_init_68
set_option maxHeartbeats 4000000 in
set_option maxRecDepth 100000 in
theorem cX6_init_1 (l : Launch) (D : va_G) (cA : Nat → ClassId) (q0 : Nat) : ms_Mv l yX6_init wsX6_init ({ frames := 2, cells := 10, slots := 326, locals := 40 } : Room) D cA [.ref q0] [(q0, .inr (6, [.null, .int 0, .int 0, .int 0, .int 0, .null, .int 0, .int 0]))] (fun (_ : Nat → Nat) => True) (fun (u : Nat → Nat) => [(q0, .inr (6, [.ref ((u 0)), .int 0, .int 0, .int 0, .int 0, .ref ((u 1)), .int 0, .int (-1)])), ((u 0), .inl (cA 0, 250, .inl ms_z)), ((u 1), .inr (2, [.int 0, .int 0, .int 0, .int 0, .int 0, .ref ((u 2)), .ref ((u 3)), .ref ((u 4)), .ref ((u 5)), .ref ((u 6)), .ref ((u 7)), .ref ((u 8)), .ref ((u 9))])), ((u 2), .inl (cA 0, 9, .inl ms_z)), ((u 3), .inl (cA 0, 9, .inl ms_z)), ((u 4), .inl (cA 0, 9, .inl ms_z)), ((u 5), .inl (cA 0, 9, .inl ms_z)), ((u 6), .inl (cA 0, 9, .inl ms_z)), ((u 7), .inl (cA 0, 6, .inl ms_z)), ((u 8), .inl (cA 0, 6, .inl ms_z)), ((u 9), .inl (cA 0, 6, .inl ms_z))]) := by
  refine ms_Mv_of (cc := cX6_init) (maxL := 1) (ret := none) (by decide) rfl (Nat.le_of_ble_eq_true rfl) ?_
  intro p e s m args below meth c A ls hB hE hA hP hD hS hl
  obtain ⟨hx, hb, hr, hml, hown, hts, hlk, hnm⟩ := hB
  have hown : s.vm.findClass RX6 = some m.cls := hown
  have hnX2 : ∀ w ∈ u_ws RX2 TX2 13, w ∈ wsX6_init := fun _ h => List.mem_cons_of_mem _ (List.mem_append_right _ (h))
  have hnX6 : ∀ w ∈ u_ws RX6 TX6 8, w ∈ wsX6_init := fun _ h => List.mem_cons_of_mem _ (List.mem_append_left _ (List.mem_append_right _ (h)))
  have hl : lv_has ls 1 [(0, .ref q0)] := hl
  refine lv_aload_n hx hb dX6_init_0 rfl (lv_at hl 0 rfl) ?_
  refine W.objInit hx hb hown (hts (.methodLink RX6 3 objectInit) (List.mem_cons_of_mem _ (List.mem_append_left _ (List.mem_append_left _ (List.mem_of_getElem? (i := 0) rfl))))) (hts (.instanceMethod objectInit) (List.mem_cons_of_mem _ (List.mem_append_left _ (List.mem_append_left _ (List.mem_of_getElem? (i := 1) rfl))))) (hts (.code objectInit ⟨#[0xb1]⟩ 1 none) (List.mem_cons_of_mem _ (List.mem_append_left _ (List.mem_append_left _ (List.mem_of_getElem? (i := 2) rfl))))) rfl (by rw [hml]; exact hl.1) rfl dX6_init_1 (Nat.le_of_ble_eq_true rfl) (Nat.le_of_ble_eq_true rfl) ?_
  refine W.eq (g2 := F0 m 4 ls []) rfl ?_
  refine lv_aload_n hx hb dX6_init_4 rfl (lv_at hl 0 rfl) ?_
  refine lv_sipush (v := 250) hx hb dX6_init_5 (by decide) ?_
  refine ms_newi 250 hx hb (hts (.arrayClass .int) (List.mem_cons_of_mem _ (List.mem_append_left _ (List.mem_append_left _ (List.mem_of_getElem? (i := 3) rfl))))) hE hP hD hS hA rfl (by decide) (Nat.le_of_ble_eq_true rfl) (Nat.le_of_ble_eq_true rfl) dX6_init_8 (fun k1 H hP hD hS => ?_)
  have hP : va_P D vwCl [(q0, .inr (6, [.null, .int 0, .int 0, .int 0, .int 0, .null, .int 0, .int 0])), (k1, .inl (cA 0, 250, .inl ms_z))] H := hP
  have hD : va_D A [(q0, .inr (6, [.null, .int 0, .int 0, .int 0, .int 0, .null, .int 0, .int 0])), (k1, .inl (cA 0, 250, .inl ms_z))] := hD
  refine va_putF (D := D) (ci := 6) (v := .ref k1) (ty := tyX6 0) (C := RX6) (T := TX6) (N := 8) hx hb hts hnX6 tyX6 tyX6_ok nmX6 hown hE.1 hP hD hS 0 rfl rfl 0 (by decide) (hts (.fieldLink RX6 9 "MovedStones$Reader" "letters" "[I") (List.mem_cons_of_mem _ (List.mem_append_left _ (List.mem_append_left _ (List.mem_of_getElem? (i := 4) rfl))))) (fun _ h9 => h9) rfl hnm rfl (tyX6_ok 0 (by decide)) rfl rfl (Nat.le_of_ble_eq_true rfl) dX6_init_10 (fun H locs hP hD hS => ?_)
  have hP : va_P D vwCl [(q0, .inr (6, [.ref k1, .int 0, .int 0, .int 0, .int 0, .null, .int 0, .int 0])), (k1, .inl (cA 0, 250, .inl ms_z))] H := hP
  have hD : va_D A [(q0, .inr (6, [.ref k1, .int 0, .int 0, .int 0, .int 0, .null, .int 0, .int 0])), (k1, .inl (cA 0, 250, .inl ms_z))] := hD
  refine lv_aload_n hx hb dX6_init_13 rfl (lv_at hl 0 rfl) ?_
  refine va_new (ci := 2) (fs := [.int 0, .int 0, .int 0, .int 0, .int 0, .null, .null, .null, .null, .null, .null, .null, .null]) (C := RX2) (T := TX2) (N := 13) hx hb hts hnX2 tyX2 tyX2_ok hown (hts (.classLink RX6 15 RX2) (List.mem_cons_of_mem _ (List.mem_append_left _ (List.mem_append_left _ (List.mem_of_getElem? (i := 5) rfl))))) (hts (.instantiable RX2 13) (List.mem_cons_of_mem _ (List.mem_append_left _ (List.mem_append_left _ (List.mem_of_getElem? (i := 6) rfl))))) (hts (.initialized RX2) (List.mem_cons_of_mem _ (List.mem_append_left _ (List.mem_append_left _ (List.mem_of_getElem? (i := 7) rfl))))) hE.1 hP hD hS hA rfl (fun j hj => by rcases (show j = 0 ∨ j = 1 ∨ j = 2 ∨ j = 3 ∨ j = 4 ∨ j = 5 ∨ j = 6 ∨ j = 7 ∨ j = 8 ∨ j = 9 ∨ j = 10 ∨ j = 11 ∨ j = 12 by omega) with rfl | rfl | rfl | rfl | rfl | rfl | rfl | rfl | rfl | rfl | rfl | rfl | rfl <;> rfl) (Nat.le_of_ble_eq_true rfl) (Nat.le_of_ble_eq_true rfl) dX6_init_14 (fun k2 H hP hD hS => ?_)
  have hP : va_P D vwCl [(q0, .inr (6, [.ref k1, .int 0, .int 0, .int 0, .int 0, .null, .int 0, .int 0])), (k1, .inl (cA 0, 250, .inl ms_z)), (k2, .inr (2, [.int 0, .int 0, .int 0, .int 0, .int 0, .null, .null, .null, .null, .null, .null, .null, .null]))] H := hP
  have hD : va_D A [(q0, .inr (6, [.ref k1, .int 0, .int 0, .int 0, .int 0, .null, .int 0, .int 0])), (k1, .inl (cA 0, 250, .inl ms_z)), (k2, .inr (2, [.int 0, .int 0, .int 0, .int 0, .int 0, .null, .null, .null, .null, .null, .null, .null, .null]))] := hD
  refine lv_dup hx hb dX6_init_17 rfl ?_
  refine ms_cNv (wc := [(k2, .inr (2, [.int 0, .int 0, .int 0, .int 0, .int 0, .null, .null, .null, .null, .null, .null, .null, .null]))]) (wr := [(q0, .inr (6, [.ref k1, .int 0, .int 0, .int 0, .int 0, .null, .int 0, .int 0])), (k1, .inl (cA 0, 250, .inl ms_z))]) ⟨hx, hb, hml, hown, hts⟩ hE (cX2_init_1 l D cA k2) ⟨va_cnB 0 hts gX6_init_X2_init_n17 rfl rfl rfl (hE.2.1 (RX6, 17, yX2_init) (List.mem_of_getElem? (i := 13) rfl)) (hts (.initialized RX2) (List.mem_cons_of_mem _ (List.mem_append_left _ (List.mem_append_left _ (List.mem_of_getElem? (i := 7) rfl))))) (by decide +kernel) ⟨Nat.le_of_ble_eq_true rfl, Nat.le_of_ble_eq_true rfl⟩, rfl, (hts (.instanceMethod yX2_init) (List.mem_cons_of_mem _ (List.mem_append_left _ (List.mem_append_left _ (List.mem_of_getElem? (i := 10) rfl)))))⟩ hP hD hS hA [2] [0, 1] rfl rfl rfl rfl (by decide) rfl hl.1 rfl (Nat.le_of_ble_eq_true rfl) dX6_init_18 ⟨Nat.le_of_ble_eq_true rfl, Nat.le_of_ble_eq_true rfl⟩ (fun u3 H locs hp hP hD hS => ?_)
  have hP : va_P D vwCl [(q0, .inr (6, [.ref k1, .int 0, .int 0, .int 0, .int 0, .null, .int 0, .int 0])), (k1, .inl (cA 0, 250, .inl ms_z)), (k2, .inr (2, [.int 0, .int 0, .int 0, .int 0, .int 0, .ref ((u3 0)), .ref ((u3 1)), .ref ((u3 2)), .ref ((u3 3)), .ref ((u3 4)), .ref ((u3 5)), .ref ((u3 6)), .ref ((u3 7))])), ((u3 0), .inl (cA 0, 9, .inl ms_z)), ((u3 1), .inl (cA 0, 9, .inl ms_z)), ((u3 2), .inl (cA 0, 9, .inl ms_z)), ((u3 3), .inl (cA 0, 9, .inl ms_z)), ((u3 4), .inl (cA 0, 9, .inl ms_z)), ((u3 5), .inl (cA 0, 6, .inl ms_z)), ((u3 6), .inl (cA 0, 6, .inl ms_z)), ((u3 7), .inl (cA 0, 6, .inl ms_z))] H := hP
  have hD : va_D A [(q0, .inr (6, [.ref k1, .int 0, .int 0, .int 0, .int 0, .null, .int 0, .int 0])), (k1, .inl (cA 0, 250, .inl ms_z)), (k2, .inr (2, [.int 0, .int 0, .int 0, .int 0, .int 0, .ref ((u3 0)), .ref ((u3 1)), .ref ((u3 2)), .ref ((u3 3)), .ref ((u3 4)), .ref ((u3 5)), .ref ((u3 6)), .ref ((u3 7))])), ((u3 0), .inl (cA 0, 9, .inl ms_z)), ((u3 1), .inl (cA 0, 9, .inl ms_z)), ((u3 2), .inl (cA 0, 9, .inl ms_z)), ((u3 3), .inl (cA 0, 9, .inl ms_z)), ((u3 4), .inl (cA 0, 9, .inl ms_z)), ((u3 5), .inl (cA 0, 6, .inl ms_z)), ((u3 6), .inl (cA 0, 6, .inl ms_z)), ((u3 7), .inl (cA 0, 6, .inl ms_z))] := hD
  refine va_put (D := D) (ci := 6) (v := .ref k2) (ty := tyX6 5) (C := RX6) (T := TX6) (N := 8) hx hb hts hnX6 tyX6 tyX6_ok nmX6 hown hE.1 hP hD hS 0 rfl rfl 5 (by decide) (hts (.fieldLink RX6 18 "MovedStones$Reader" "land" "LMovedStones$Land;") (List.mem_cons_of_mem _ (List.mem_append_left _ (List.mem_append_left _ (List.mem_of_getElem? (i := 8) rfl))))) (fun _ h9 => h9) rfl (tyX6_ok 5 (by decide)) rfl rfl (Nat.le_of_ble_eq_true rfl) dX6_init_21 (fun H locs hP hD hS => ?_)
  have hP : va_P D vwCl [(q0, .inr (6, [.ref k1, .int 0, .int 0, .int 0, .int 0, .ref k2, .int 0, .int 0])), (k1, .inl (cA 0, 250, .inl ms_z)), (k2, .inr (2, [.int 0, .int 0, .int 0, .int 0, .int 0, .ref ((u3 0)), .ref ((u3 1)), .ref ((u3 2)), .ref ((u3 3)), .ref ((u3 4)), .ref ((u3 5)), .ref ((u3 6)), .ref ((u3 7))])), ((u3 0), .inl (cA 0, 9, .inl ms_z)), ((u3 1), .inl (cA 0, 9, .inl ms_z)), ((u3 2), .inl (cA 0, 9, .inl ms_z)), ((u3 3), .inl (cA 0, 9, .inl ms_z)), ((u3 4), .inl (cA 0, 9, .inl ms_z)), ((u3 5), .inl (cA 0, 6, .inl ms_z)), ((u3 6), .inl (cA 0, 6, .inl ms_z)), ((u3 7), .inl (cA 0, 6, .inl ms_z))] H := hP
  have hD : va_D A [(q0, .inr (6, [.ref k1, .int 0, .int 0, .int 0, .int 0, .ref k2, .int 0, .int 0])), (k1, .inl (cA 0, 250, .inl ms_z)), (k2, .inr (2, [.int 0, .int 0, .int 0, .int 0, .int 0, .ref ((u3 0)), .ref ((u3 1)), .ref ((u3 2)), .ref ((u3 3)), .ref ((u3 4)), .ref ((u3 5)), .ref ((u3 6)), .ref ((u3 7))])), ((u3 0), .inl (cA 0, 9, .inl ms_z)), ((u3 1), .inl (cA 0, 9, .inl ms_z)), ((u3 2), .inl (cA 0, 9, .inl ms_z)), ((u3 3), .inl (cA 0, 9, .inl ms_z)), ((u3 4), .inl (cA 0, 9, .inl ms_z)), ((u3 5), .inl (cA 0, 6, .inl ms_z)), ((u3 6), .inl (cA 0, 6, .inl ms_z)), ((u3 7), .inl (cA 0, 6, .inl ms_z))] := hD
  refine lv_aload_n hx hb dX6_init_24 rfl (lv_at hl 0 rfl) ?_
  refine lv_iconst (v := (-1)) hx hb dX6_init_25 (by decide) ?_
  refine va_put (D := D) (ci := 6) (v := .int (-1)) (ty := tyX6 7) (C := RX6) (T := TX6) (N := 8) hx hb hts hnX6 tyX6 tyX6_ok nmX6 hown hE.1 hP hD hS 0 rfl rfl 7 (by decide) (hts (.fieldLink RX6 22 "MovedStones$Reader" "faultAt" "I") (List.mem_cons_of_mem _ (List.mem_append_left _ (List.mem_append_left _ (List.mem_of_getElem? (i := 9) rfl))))) (fun _ h9 => h9) rfl (tyX6_ok 7 (by decide)) rfl rfl (Nat.le_of_ble_eq_true rfl) dX6_init_26 (fun H locs hP hD hS => ?_)
  have hP : va_P D vwCl [(q0, .inr (6, [.ref k1, .int 0, .int 0, .int 0, .int 0, .ref k2, .int 0, .int (-1)])), (k1, .inl (cA 0, 250, .inl ms_z)), (k2, .inr (2, [.int 0, .int 0, .int 0, .int 0, .int 0, .ref ((u3 0)), .ref ((u3 1)), .ref ((u3 2)), .ref ((u3 3)), .ref ((u3 4)), .ref ((u3 5)), .ref ((u3 6)), .ref ((u3 7))])), ((u3 0), .inl (cA 0, 9, .inl ms_z)), ((u3 1), .inl (cA 0, 9, .inl ms_z)), ((u3 2), .inl (cA 0, 9, .inl ms_z)), ((u3 3), .inl (cA 0, 9, .inl ms_z)), ((u3 4), .inl (cA 0, 9, .inl ms_z)), ((u3 5), .inl (cA 0, 6, .inl ms_z)), ((u3 6), .inl (cA 0, 6, .inl ms_z)), ((u3 7), .inl (cA 0, 6, .inl ms_z))] H := hP
  have hD : va_D A [(q0, .inr (6, [.ref k1, .int 0, .int 0, .int 0, .int 0, .ref k2, .int 0, .int (-1)])), (k1, .inl (cA 0, 250, .inl ms_z)), (k2, .inr (2, [.int 0, .int 0, .int 0, .int 0, .int 0, .ref ((u3 0)), .ref ((u3 1)), .ref ((u3 2)), .ref ((u3 3)), .ref ((u3 4)), .ref ((u3 5)), .ref ((u3 6)), .ref ((u3 7))])), ((u3 0), .inl (cA 0, 9, .inl ms_z)), ((u3 1), .inl (cA 0, 9, .inl ms_z)), ((u3 2), .inl (cA 0, 9, .inl ms_z)), ((u3 3), .inl (cA 0, 9, .inl ms_z)), ((u3 4), .inl (cA 0, 9, .inl ms_z)), ((u3 5), .inl (cA 0, 6, .inl ms_z)), ((u3 6), .inl (cA 0, 6, .inl ms_z)), ((u3 7), .inl (cA 0, 6, .inl ms_z))] := hD
  exact ms_vret hx hb hr hlk (fun i => [k1, k2, ((u3 0)), ((u3 1)), ((u3 2)), ((u3 3)), ((u3 4)), ((u3 5)), ((u3 6)), ((u3 7))].getD i 0) trivial hP hD hS (Nat.le_of_ble_eq_true rfl) (Nat.le_of_ble_eq_true rfl) dX6_init_29
set_option maxHeartbeats 4000000 in
set_option maxRecDepth 100000 in
theorem cX8_init_1 (l : Launch) (D : va_G) (cA : Nat → ClassId) (q0 : Nat) : ms_Mv l yX8_init wsX8_init ({ frames := 1, cells := 1, slots := 9, locals := 20 } : Room) D cA [.ref q0] [(q0, .inr (8, [.null, .int 0, .int 0, .int 0, .int 0, .int 0]))] (fun (_ : Nat → Nat) => True) (fun (u : Nat → Nat) => [(q0, .inr (8, [.ref ((u 0)), .int 0, .int 0, .int 0, .int (-1), .int (-1)])), ((u 0), .inl (cA 0, 9, .inl ms_z))]) := by
  refine ms_Mv_of (cc := cX8_init) (maxL := 1) (ret := none) (by decide) rfl (Nat.le_of_ble_eq_true rfl) ?_
  intro p e s m args below meth c A ls hB hE hA hP hD hS hl
  obtain ⟨hx, hb, hr, hml, hown, hts, hlk, hnm⟩ := hB
  have hown : s.vm.findClass RX8 = some m.cls := hown
  have hnX8 : ∀ w ∈ u_ws RX8 TX8 6, w ∈ wsX8_init := fun _ h => List.mem_cons_of_mem _ (List.mem_append_right _ (h))
  have hl : lv_has ls 1 [(0, .ref q0)] := hl
  refine lv_aload_n hx hb dX8_init_0 rfl (lv_at hl 0 rfl) ?_
  refine W.objInit hx hb hown (hts (.methodLink RX8 3 objectInit) (List.mem_cons_of_mem _ (List.mem_append_left _ (List.mem_of_getElem? (i := 0) rfl)))) (hts (.instanceMethod objectInit) (List.mem_cons_of_mem _ (List.mem_append_left _ (List.mem_of_getElem? (i := 1) rfl)))) (hts (.code objectInit ⟨#[0xb1]⟩ 1 none) (List.mem_cons_of_mem _ (List.mem_append_left _ (List.mem_of_getElem? (i := 2) rfl)))) rfl (by rw [hml]; exact hl.1) rfl dX8_init_1 (Nat.le_of_ble_eq_true rfl) (Nat.le_of_ble_eq_true rfl) ?_
  refine W.eq (g2 := F0 m 4 ls []) rfl ?_
  refine lv_aload_n hx hb dX8_init_4 rfl (lv_at hl 0 rfl) ?_
  refine lv_bipush (v := 9) hx hb dX8_init_5 (by decide) ?_
  refine ms_newi 9 hx hb (hts (.arrayClass .int) (List.mem_cons_of_mem _ (List.mem_append_left _ (List.mem_of_getElem? (i := 3) rfl)))) hE hP hD hS hA rfl (by decide) (Nat.le_of_ble_eq_true rfl) (Nat.le_of_ble_eq_true rfl) dX8_init_7 (fun k1 H hP hD hS => ?_)
  have hP : va_P D vwCl [(q0, .inr (8, [.null, .int 0, .int 0, .int 0, .int 0, .int 0])), (k1, .inl (cA 0, 9, .inl ms_z))] H := hP
  have hD : va_D A [(q0, .inr (8, [.null, .int 0, .int 0, .int 0, .int 0, .int 0])), (k1, .inl (cA 0, 9, .inl ms_z))] := hD
  refine va_putF (D := D) (ci := 8) (v := .ref k1) (ty := tyX8 0) (C := RX8) (T := TX8) (N := 6) hx hb hts hnX8 tyX8 tyX8_ok nmX8 hown hE.1 hP hD hS 0 rfl rfl 0 (by decide) (hts (.fieldLink RX8 9 "MovedStones$State" "miles" "[I") (List.mem_cons_of_mem _ (List.mem_append_left _ (List.mem_of_getElem? (i := 4) rfl)))) (fun _ h9 => h9) rfl hnm rfl (tyX8_ok 0 (by decide)) rfl rfl (Nat.le_of_ble_eq_true rfl) dX8_init_9 (fun H locs hP hD hS => ?_)
  have hP : va_P D vwCl [(q0, .inr (8, [.ref k1, .int 0, .int 0, .int 0, .int 0, .int 0])), (k1, .inl (cA 0, 9, .inl ms_z))] H := hP
  have hD : va_D A [(q0, .inr (8, [.ref k1, .int 0, .int 0, .int 0, .int 0, .int 0])), (k1, .inl (cA 0, 9, .inl ms_z))] := hD
  refine lv_aload_n hx hb dX8_init_12 rfl (lv_at hl 0 rfl) ?_
  refine lv_iconst (v := (-1)) hx hb dX8_init_13 (by decide) ?_
  refine va_put (D := D) (ci := 8) (v := .int (-1)) (ty := tyX8 4) (C := RX8) (T := TX8) (N := 6) hx hb hts hnX8 tyX8 tyX8_ok nmX8 hown hE.1 hP hD hS 0 rfl rfl 4 (by decide) (hts (.fieldLink RX8 15 "MovedStones$State" "firstBroken" "I") (List.mem_cons_of_mem _ (List.mem_append_left _ (List.mem_of_getElem? (i := 5) rfl)))) (fun _ h9 => h9) rfl (tyX8_ok 4 (by decide)) rfl rfl (Nat.le_of_ble_eq_true rfl) dX8_init_14 (fun H locs hP hD hS => ?_)
  have hP : va_P D vwCl [(q0, .inr (8, [.ref k1, .int 0, .int 0, .int 0, .int (-1), .int 0])), (k1, .inl (cA 0, 9, .inl ms_z))] H := hP
  have hD : va_D A [(q0, .inr (8, [.ref k1, .int 0, .int 0, .int 0, .int (-1), .int 0])), (k1, .inl (cA 0, 9, .inl ms_z))] := hD
  refine lv_aload_n hx hb dX8_init_17 rfl (lv_at hl 0 rfl) ?_
  refine lv_iconst (v := (-1)) hx hb dX8_init_18 (by decide) ?_
  refine va_put (D := D) (ci := 8) (v := .int (-1)) (ty := tyX8 5) (C := RX8) (T := TX8) (N := 6) hx hb hts hnX8 tyX8 tyX8_ok nmX8 hown hE.1 hP hD hS 0 rfl rfl 5 (by decide) (hts (.fieldLink RX8 19 "MovedStones$State" "firstYear" "I") (List.mem_cons_of_mem _ (List.mem_append_left _ (List.mem_of_getElem? (i := 6) rfl)))) (fun _ h9 => h9) rfl (tyX8_ok 5 (by decide)) rfl rfl (Nat.le_of_ble_eq_true rfl) dX8_init_19 (fun H locs hP hD hS => ?_)
  have hP : va_P D vwCl [(q0, .inr (8, [.ref k1, .int 0, .int 0, .int 0, .int (-1), .int (-1)])), (k1, .inl (cA 0, 9, .inl ms_z))] H := hP
  have hD : va_D A [(q0, .inr (8, [.ref k1, .int 0, .int 0, .int 0, .int (-1), .int (-1)])), (k1, .inl (cA 0, 9, .inl ms_z))] := hD
  exact ms_vret hx hb hr hlk (fun i => [k1].getD i 0) trivial hP hD hS (Nat.le_of_ble_eq_true rfl) (Nat.le_of_ble_eq_true rfl) dX8_init_22
set_option maxHeartbeats 4000000 in
set_option maxRecDepth 100000 in
theorem cX0_init_1 (l : Launch) (D : va_G) (cA : Nat → ClassId) (q0 : Nat) : ms_Mv l yX0_init wsX0_init ({ frames := 1, cells := 1, slots := 20, locals := 20 } : Room) D cA [.ref q0] [(q0, .inr (0, [.null, .int 0, .int 0]))] (fun (_ : Nat → Nat) => True) (fun (u : Nat → Nat) => [(q0, .inr (0, [.ref ((u 0)), .int 0, .int 0])), ((u 0), .inl (cA 3, 20, .inr (.inr (.inr (.inr (fun _ => none))))))]) := by
  refine ms_Mv_of (cc := cX0_init) (maxL := 1) (ret := none) (by decide) rfl (Nat.le_of_ble_eq_true rfl) ?_
  intro p e s m args below meth c A ls hB hE hA hP hD hS hl
  obtain ⟨hx, hb, hr, hml, hown, hts, hlk, hnm⟩ := hB
  have hown : s.vm.findClass RX0 = some m.cls := hown
  have hnX0 : ∀ w ∈ u_ws RX0 TX0 3, w ∈ wsX0_init := fun _ h => List.mem_cons_of_mem _ (List.mem_append_right _ (h))
  have hl : lv_has ls 1 [(0, .ref q0)] := hl
  refine lv_aload_n hx hb dX0_init_0 rfl (lv_at hl 0 rfl) ?_
  refine W.objInit hx hb hown (hts (.methodLink RX0 3 objectInit) (List.mem_cons_of_mem _ (List.mem_append_left _ (List.mem_of_getElem? (i := 0) rfl)))) (hts (.instanceMethod objectInit) (List.mem_cons_of_mem _ (List.mem_append_left _ (List.mem_of_getElem? (i := 1) rfl)))) (hts (.code objectInit ⟨#[0xb1]⟩ 1 none) (List.mem_cons_of_mem _ (List.mem_append_left _ (List.mem_of_getElem? (i := 2) rfl)))) rfl (by rw [hml]; exact hl.1) rfl dX0_init_1 (Nat.le_of_ble_eq_true rfl) (Nat.le_of_ble_eq_true rfl) ?_
  refine W.eq (g2 := F0 m 4 ls []) rfl ?_
  refine lv_aload_n hx hb dX0_init_4 rfl (lv_at hl 0 rfl) ?_
  refine lv_bipush (v := 20) hx hb dX0_init_5 (by decide) ?_
  refine ms_newq 20 3 hx hb hown (hts (.classLink RX0 9 RX8) (List.mem_cons_of_mem _ (List.mem_append_left _ (List.mem_of_getElem? (i := 3) rfl)))) hE.2.2.2 hE rfl hP hD hS hA rfl (by decide) (Nat.le_of_ble_eq_true rfl) (Nat.le_of_ble_eq_true rfl) dX0_init_7 (fun k1 H hP hD hS => ?_)
  have hP : va_P D vwCl [(q0, .inr (0, [.null, .int 0, .int 0])), (k1, .inl (cA 3, 20, .inr (.inr (.inr (.inr (fun _ => none))))))] H := hP
  have hD : va_D A [(q0, .inr (0, [.null, .int 0, .int 0])), (k1, .inl (cA 3, 20, .inr (.inr (.inr (.inr (fun _ => none))))))] := hD
  refine va_putF (D := D) (ci := 0) (v := .ref k1) (ty := tyX0 0) (C := RX0) (T := TX0) (N := 3) hx hb hts hnX0 tyX0 tyX0_ok nmX0 hown hE.1 hP hD hS 0 rfl rfl 0 (by decide) (hts (.fieldLink RX0 11 "MovedStones$History" "states" "[LMovedStones$State;") (List.mem_cons_of_mem _ (List.mem_append_left _ (List.mem_of_getElem? (i := 4) rfl)))) (fun _ h9 => h9) rfl hnm rfl (tyX0_ok 0 (by decide)) rfl rfl (Nat.le_of_ble_eq_true rfl) dX0_init_10 (fun H locs hP hD hS => ?_)
  have hP : va_P D vwCl [(q0, .inr (0, [.ref k1, .int 0, .int 0])), (k1, .inl (cA 3, 20, .inr (.inr (.inr (.inr (fun _ => none))))))] H := hP
  have hD : va_D A [(q0, .inr (0, [.ref k1, .int 0, .int 0])), (k1, .inl (cA 3, 20, .inr (.inr (.inr (.inr (fun _ => none))))))] := hD
  exact ms_vret hx hb hr hlk (fun i => [k1].getD i 0) trivial hP hD hS (Nat.le_of_ble_eq_true rfl) (Nat.le_of_ble_eq_true rfl) dX0_init_13
set_option maxHeartbeats 4000000 in
set_option maxRecDepth 100000 in
theorem cX1_init_1 (l : Launch) (D : va_G) (cA : Nat → ClassId) (q0 : Nat) : ms_Mv l yX1_init wsX1_init ({ frames := 2, cells := 2, slots := 15, locals := 40 } : Room) D cA [.ref q0] [(q0, .inr (1, [.null, .int 0, .int 0]))] (fun (_ : Nat → Nat) => True) (fun (u : Nat → Nat) => [(q0, .inr (1, [.ref ((u 0)), .int 0, .int 0])), ((u 0), .inr (8, [.ref ((u 1)), .int 0, .int 0, .int 0, .int (-1), .int (-1)])), ((u 1), .inl (cA 0, 9, .inl ms_z))]) := by
  refine ms_Mv_of (cc := cX1_init) (maxL := 1) (ret := none) (by decide) rfl (Nat.le_of_ble_eq_true rfl) ?_
  intro p e s m args below meth c A ls hB hE hA hP hD hS hl
  obtain ⟨hx, hb, hr, hml, hown, hts, hlk, hnm⟩ := hB
  have hown : s.vm.findClass RX1 = some m.cls := hown
  have hnX1 : ∀ w ∈ u_ws RX1 TX1 3, w ∈ wsX1_init := fun _ h => List.mem_cons_of_mem _ (List.mem_append_right _ (h))
  have hnX8 : ∀ w ∈ u_ws RX8 TX8 6, w ∈ wsX1_init := fun _ h => List.mem_cons_of_mem _ (List.mem_append_left _ (List.mem_append_right _ (h)))
  have hl : lv_has ls 1 [(0, .ref q0)] := hl
  refine lv_aload_n hx hb dX1_init_0 rfl (lv_at hl 0 rfl) ?_
  refine W.objInit hx hb hown (hts (.methodLink RX1 1 objectInit) (List.mem_cons_of_mem _ (List.mem_append_left _ (List.mem_append_left _ (List.mem_of_getElem? (i := 0) rfl))))) (hts (.instanceMethod objectInit) (List.mem_cons_of_mem _ (List.mem_append_left _ (List.mem_append_left _ (List.mem_of_getElem? (i := 1) rfl))))) (hts (.code objectInit ⟨#[0xb1]⟩ 1 none) (List.mem_cons_of_mem _ (List.mem_append_left _ (List.mem_append_left _ (List.mem_of_getElem? (i := 2) rfl))))) rfl (by rw [hml]; exact hl.1) rfl dX1_init_1 (Nat.le_of_ble_eq_true rfl) (Nat.le_of_ble_eq_true rfl) ?_
  refine W.eq (g2 := F0 m 4 ls []) rfl ?_
  refine lv_aload_n hx hb dX1_init_4 rfl (lv_at hl 0 rfl) ?_
  refine va_new (ci := 8) (fs := [.null, .int 0, .int 0, .int 0, .int 0, .int 0]) (C := RX8) (T := TX8) (N := 6) hx hb hts hnX8 tyX8 tyX8_ok hown (hts (.classLink RX1 7 RX8) (List.mem_cons_of_mem _ (List.mem_append_left _ (List.mem_append_left _ (List.mem_of_getElem? (i := 3) rfl))))) (hts (.instantiable RX8 6) (List.mem_cons_of_mem _ (List.mem_append_left _ (List.mem_append_left _ (List.mem_of_getElem? (i := 4) rfl))))) (hts (.initialized RX8) (List.mem_cons_of_mem _ (List.mem_append_left _ (List.mem_append_left _ (List.mem_of_getElem? (i := 5) rfl))))) hE.1 hP hD hS hA rfl (fun j hj => by rcases (show j = 0 ∨ j = 1 ∨ j = 2 ∨ j = 3 ∨ j = 4 ∨ j = 5 by omega) with rfl | rfl | rfl | rfl | rfl | rfl <;> rfl) (Nat.le_of_ble_eq_true rfl) (Nat.le_of_ble_eq_true rfl) dX1_init_5 (fun k1 H hP hD hS => ?_)
  have hP : va_P D vwCl [(q0, .inr (1, [.null, .int 0, .int 0])), (k1, .inr (8, [.null, .int 0, .int 0, .int 0, .int 0, .int 0]))] H := hP
  have hD : va_D A [(q0, .inr (1, [.null, .int 0, .int 0])), (k1, .inr (8, [.null, .int 0, .int 0, .int 0, .int 0, .int 0]))] := hD
  refine lv_dup hx hb dX1_init_8 rfl ?_
  refine ms_cNv (wc := [(k1, .inr (8, [.null, .int 0, .int 0, .int 0, .int 0, .int 0]))]) (wr := [(q0, .inr (1, [.null, .int 0, .int 0]))]) ⟨hx, hb, hml, hown, hts⟩ hE (cX8_init_1 l D cA k1) ⟨va_cnB 0 hts gX1_init_X8_init_n9 rfl rfl rfl (hE.2.1 (RX1, 9, yX8_init) (List.mem_of_getElem? (i := 11) rfl)) (hts (.initialized RX8) (List.mem_cons_of_mem _ (List.mem_append_left _ (List.mem_append_left _ (List.mem_of_getElem? (i := 5) rfl))))) (by decide +kernel) ⟨Nat.le_of_ble_eq_true rfl, Nat.le_of_ble_eq_true rfl⟩, rfl, (hts (.instanceMethod yX8_init) (List.mem_cons_of_mem _ (List.mem_append_left _ (List.mem_append_left _ (List.mem_of_getElem? (i := 7) rfl)))))⟩ hP hD hS hA [1] [0] rfl rfl rfl rfl (by decide) rfl hl.1 rfl (Nat.le_of_ble_eq_true rfl) dX1_init_9 ⟨Nat.le_of_ble_eq_true rfl, Nat.le_of_ble_eq_true rfl⟩ (fun u2 H locs hp hP hD hS => ?_)
  have hP : va_P D vwCl [(q0, .inr (1, [.null, .int 0, .int 0])), (k1, .inr (8, [.ref ((u2 0)), .int 0, .int 0, .int 0, .int (-1), .int (-1)])), ((u2 0), .inl (cA 0, 9, .inl ms_z))] H := hP
  have hD : va_D A [(q0, .inr (1, [.null, .int 0, .int 0])), (k1, .inr (8, [.ref ((u2 0)), .int 0, .int 0, .int 0, .int (-1), .int (-1)])), ((u2 0), .inl (cA 0, 9, .inl ms_z))] := hD
  refine va_putF (D := D) (ci := 1) (v := .ref k1) (ty := tyX1 0) (C := RX1) (T := TX1) (N := 3) hx hb hts hnX1 tyX1 tyX1_ok nmX1 hown hE.1 hP hD hS 0 rfl rfl 0 (by decide) (hts (.fieldLink RX1 10 "MovedStones$Image" "state" "LMovedStones$State;") (List.mem_cons_of_mem _ (List.mem_append_left _ (List.mem_append_left _ (List.mem_of_getElem? (i := 6) rfl))))) (fun _ h9 => h9) rfl hnm rfl (tyX1_ok 0 (by decide)) rfl rfl (Nat.le_of_ble_eq_true rfl) dX1_init_12 (fun H locs hP hD hS => ?_)
  have hP : va_P D vwCl [(q0, .inr (1, [.ref k1, .int 0, .int 0])), (k1, .inr (8, [.ref ((u2 0)), .int 0, .int 0, .int 0, .int (-1), .int (-1)])), ((u2 0), .inl (cA 0, 9, .inl ms_z))] H := hP
  have hD : va_D A [(q0, .inr (1, [.ref k1, .int 0, .int 0])), (k1, .inr (8, [.ref ((u2 0)), .int 0, .int 0, .int 0, .int (-1), .int (-1)])), ((u2 0), .inl (cA 0, 9, .inl ms_z))] := hD
  exact ms_vret hx hb hr hlk (fun i => [k1, ((u2 0))].getD i 0) trivial hP hD hS (Nat.le_of_ble_eq_true rfl) (Nat.le_of_ble_eq_true rfl) dX1_init_15
set_option maxHeartbeats 4000000 in
set_option maxRecDepth 100000 in
theorem cX5_init_1 (l : Launch) (D : va_G) (cA : Nat → ClassId) (q0 : Nat) : ms_Mv l yX5_init wsX5_init ({ frames := 1, cells := 6, slots := 63, locals := 20 } : Room) D cA [.ref q0] [(q0, .inr (5, [.null, .null, .null, .null, .int 0, .null, .null, .int 0]))] (fun (_ : Nat → Nat) => True) (fun (u : Nat → Nat) => [(q0, .inr (5, [.ref ((u 0)), .ref ((u 1)), .ref ((u 2)), .ref ((u 3)), .int 0, .ref ((u 4)), .ref ((u 5)), .int 0])), ((u 0), .inl (cA 0, 9, .inl ms_z)), ((u 1), .inl (cA 0, 8, .inl ms_z)), ((u 2), .inl (cA 0, 8, .inl ms_z)), ((u 3), .inl (cA 0, 8, .inl ms_z)), ((u 4), .inl (cA 0, 15, .inl ms_z)), ((u 5), .inl (cA 0, 15, .inl ms_z))]) := by
  refine ms_Mv_of (cc := cX5_init) (maxL := 1) (ret := none) (by decide) rfl (Nat.le_of_ble_eq_true rfl) ?_
  intro p e s m args below meth c A ls hB hE hA hP hD hS hl
  obtain ⟨hx, hb, hr, hml, hown, hts, hlk, hnm⟩ := hB
  have hown : s.vm.findClass RX5 = some m.cls := hown
  have hnX5 : ∀ w ∈ u_ws RX5 TX5 8, w ∈ wsX5_init := fun _ h => List.mem_cons_of_mem _ (List.mem_append_right _ (h))
  have hl : lv_has ls 1 [(0, .ref q0)] := hl
  refine lv_aload_n hx hb dX5_init_0 rfl (lv_at hl 0 rfl) ?_
  refine W.objInit hx hb hown (hts (.methodLink RX5 3 objectInit) (List.mem_cons_of_mem _ (List.mem_append_left _ (List.mem_of_getElem? (i := 0) rfl)))) (hts (.instanceMethod objectInit) (List.mem_cons_of_mem _ (List.mem_append_left _ (List.mem_of_getElem? (i := 1) rfl)))) (hts (.code objectInit ⟨#[0xb1]⟩ 1 none) (List.mem_cons_of_mem _ (List.mem_append_left _ (List.mem_of_getElem? (i := 2) rfl)))) rfl (by rw [hml]; exact hl.1) rfl dX5_init_1 (Nat.le_of_ble_eq_true rfl) (Nat.le_of_ble_eq_true rfl) ?_
  refine W.eq (g2 := F0 m 4 ls []) rfl ?_
  refine lv_aload_n hx hb dX5_init_4 rfl (lv_at hl 0 rfl) ?_
  refine lv_bipush (v := 9) hx hb dX5_init_5 (by decide) ?_
  refine ms_newi 9 hx hb (hts (.arrayClass .int) (List.mem_cons_of_mem _ (List.mem_append_left _ (List.mem_of_getElem? (i := 3) rfl)))) hE hP hD hS hA rfl (by decide) (Nat.le_of_ble_eq_true rfl) (Nat.le_of_ble_eq_true rfl) dX5_init_7 (fun k1 H hP hD hS => ?_)
  have hP : va_P D vwCl [(q0, .inr (5, [.null, .null, .null, .null, .int 0, .null, .null, .int 0])), (k1, .inl (cA 0, 9, .inl ms_z))] H := hP
  have hD : va_D A [(q0, .inr (5, [.null, .null, .null, .null, .int 0, .null, .null, .int 0])), (k1, .inl (cA 0, 9, .inl ms_z))] := hD
  refine va_putF (D := D) (ci := 5) (v := .ref k1) (ty := tyX5 0) (C := RX5) (T := TX5) (N := 8) hx hb hts hnX5 tyX5 tyX5_ok nmX5 hown hE.1 hP hD hS 0 rfl rfl 0 (by decide) (hts (.fieldLink RX5 9 "MovedStones$Papers" "wanted" "[I") (List.mem_cons_of_mem _ (List.mem_append_left _ (List.mem_of_getElem? (i := 4) rfl)))) (fun _ h9 => h9) rfl hnm rfl (tyX5_ok 0 (by decide)) rfl rfl (Nat.le_of_ble_eq_true rfl) dX5_init_9 (fun H locs hP hD hS => ?_)
  have hP : va_P D vwCl [(q0, .inr (5, [.ref k1, .null, .null, .null, .int 0, .null, .null, .int 0])), (k1, .inl (cA 0, 9, .inl ms_z))] H := hP
  have hD : va_D A [(q0, .inr (5, [.ref k1, .null, .null, .null, .int 0, .null, .null, .int 0])), (k1, .inl (cA 0, 9, .inl ms_z))] := hD
  refine lv_aload_n hx hb dX5_init_12 rfl (lv_at hl 0 rfl) ?_
  refine lv_bipush (v := 8) hx hb dX5_init_13 (by decide) ?_
  refine ms_newi 8 hx hb (hts (.arrayClass .int) (List.mem_cons_of_mem _ (List.mem_append_left _ (List.mem_of_getElem? (i := 3) rfl)))) hE hP hD hS hA rfl (by decide) (Nat.le_of_ble_eq_true rfl) (Nat.le_of_ble_eq_true rfl) dX5_init_15 (fun k2 H hP hD hS => ?_)
  have hP : va_P D vwCl [(q0, .inr (5, [.ref k1, .null, .null, .null, .int 0, .null, .null, .int 0])), (k1, .inl (cA 0, 9, .inl ms_z)), (k2, .inl (cA 0, 8, .inl ms_z))] H := hP
  have hD : va_D A [(q0, .inr (5, [.ref k1, .null, .null, .null, .int 0, .null, .null, .int 0])), (k1, .inl (cA 0, 9, .inl ms_z)), (k2, .inl (cA 0, 8, .inl ms_z))] := hD
  refine va_putF (D := D) (ci := 5) (v := .ref k2) (ty := tyX5 1) (C := RX5) (T := TX5) (N := 8) hx hb hts hnX5 tyX5 tyX5_ok nmX5 hown hE.1 hP hD hS 0 rfl rfl 1 (by decide) (hts (.fieldLink RX5 15 "MovedStones$Papers" "sets" "[I") (List.mem_cons_of_mem _ (List.mem_append_left _ (List.mem_of_getElem? (i := 5) rfl)))) (fun _ h9 => h9) rfl hnm rfl (tyX5_ok 1 (by decide)) rfl rfl (Nat.le_of_ble_eq_true rfl) dX5_init_17 (fun H locs hP hD hS => ?_)
  have hP : va_P D vwCl [(q0, .inr (5, [.ref k1, .ref k2, .null, .null, .int 0, .null, .null, .int 0])), (k1, .inl (cA 0, 9, .inl ms_z)), (k2, .inl (cA 0, 8, .inl ms_z))] H := hP
  have hD : va_D A [(q0, .inr (5, [.ref k1, .ref k2, .null, .null, .int 0, .null, .null, .int 0])), (k1, .inl (cA 0, 9, .inl ms_z)), (k2, .inl (cA 0, 8, .inl ms_z))] := hD
  refine lv_aload_n hx hb dX5_init_20 rfl (lv_at hl 0 rfl) ?_
  refine lv_bipush (v := 8) hx hb dX5_init_21 (by decide) ?_
  refine ms_newi 8 hx hb (hts (.arrayClass .int) (List.mem_cons_of_mem _ (List.mem_append_left _ (List.mem_of_getElem? (i := 3) rfl)))) hE hP hD hS hA rfl (by decide) (Nat.le_of_ble_eq_true rfl) (Nat.le_of_ble_eq_true rfl) dX5_init_23 (fun k3 H hP hD hS => ?_)
  have hP : va_P D vwCl [(q0, .inr (5, [.ref k1, .ref k2, .null, .null, .int 0, .null, .null, .int 0])), (k1, .inl (cA 0, 9, .inl ms_z)), (k2, .inl (cA 0, 8, .inl ms_z)), (k3, .inl (cA 0, 8, .inl ms_z))] H := hP
  have hD : va_D A [(q0, .inr (5, [.ref k1, .ref k2, .null, .null, .int 0, .null, .null, .int 0])), (k1, .inl (cA 0, 9, .inl ms_z)), (k2, .inl (cA 0, 8, .inl ms_z)), (k3, .inl (cA 0, 8, .inl ms_z))] := hD
  refine va_putF (D := D) (ci := 5) (v := .ref k3) (ty := tyX5 2) (C := RX5) (T := TX5) (N := 8) hx hb hts hnX5 tyX5 tyX5_ok nmX5 hown hE.1 hP hD hS 0 rfl rfl 2 (by decide) (hts (.fieldLink RX5 18 "MovedStones$Papers" "feet" "[I") (List.mem_cons_of_mem _ (List.mem_append_left _ (List.mem_of_getElem? (i := 6) rfl)))) (fun _ h9 => h9) rfl hnm rfl (tyX5_ok 2 (by decide)) rfl rfl (Nat.le_of_ble_eq_true rfl) dX5_init_25 (fun H locs hP hD hS => ?_)
  have hP : va_P D vwCl [(q0, .inr (5, [.ref k1, .ref k2, .ref k3, .null, .int 0, .null, .null, .int 0])), (k1, .inl (cA 0, 9, .inl ms_z)), (k2, .inl (cA 0, 8, .inl ms_z)), (k3, .inl (cA 0, 8, .inl ms_z))] H := hP
  have hD : va_D A [(q0, .inr (5, [.ref k1, .ref k2, .ref k3, .null, .int 0, .null, .null, .int 0])), (k1, .inl (cA 0, 9, .inl ms_z)), (k2, .inl (cA 0, 8, .inl ms_z)), (k3, .inl (cA 0, 8, .inl ms_z))] := hD
  refine lv_aload_n hx hb dX5_init_28 rfl (lv_at hl 0 rfl) ?_
  refine lv_bipush (v := 8) hx hb dX5_init_29 (by decide) ?_
  refine ms_newi 8 hx hb (hts (.arrayClass .int) (List.mem_cons_of_mem _ (List.mem_append_left _ (List.mem_of_getElem? (i := 3) rfl)))) hE hP hD hS hA rfl (by decide) (Nat.le_of_ble_eq_true rfl) (Nat.le_of_ble_eq_true rfl) dX5_init_31 (fun k4 H hP hD hS => ?_)
  have hP : va_P D vwCl [(q0, .inr (5, [.ref k1, .ref k2, .ref k3, .null, .int 0, .null, .null, .int 0])), (k1, .inl (cA 0, 9, .inl ms_z)), (k2, .inl (cA 0, 8, .inl ms_z)), (k3, .inl (cA 0, 8, .inl ms_z)), (k4, .inl (cA 0, 8, .inl ms_z))] H := hP
  have hD : va_D A [(q0, .inr (5, [.ref k1, .ref k2, .ref k3, .null, .int 0, .null, .null, .int 0])), (k1, .inl (cA 0, 9, .inl ms_z)), (k2, .inl (cA 0, 8, .inl ms_z)), (k3, .inl (cA 0, 8, .inl ms_z)), (k4, .inl (cA 0, 8, .inl ms_z))] := hD
  refine va_putF (D := D) (ci := 5) (v := .ref k4) (ty := tyX5 3) (C := RX5) (T := TX5) (N := 8) hx hb hts hnX5 tyX5 tyX5_ok nmX5 hown hE.1 hP hD hS 0 rfl rfl 3 (by decide) (hts (.fieldLink RX5 21 "MovedStones$Papers" "over" "[I") (List.mem_cons_of_mem _ (List.mem_append_left _ (List.mem_of_getElem? (i := 7) rfl)))) (fun _ h9 => h9) rfl hnm rfl (tyX5_ok 3 (by decide)) rfl rfl (Nat.le_of_ble_eq_true rfl) dX5_init_33 (fun H locs hP hD hS => ?_)
  have hP : va_P D vwCl [(q0, .inr (5, [.ref k1, .ref k2, .ref k3, .ref k4, .int 0, .null, .null, .int 0])), (k1, .inl (cA 0, 9, .inl ms_z)), (k2, .inl (cA 0, 8, .inl ms_z)), (k3, .inl (cA 0, 8, .inl ms_z)), (k4, .inl (cA 0, 8, .inl ms_z))] H := hP
  have hD : va_D A [(q0, .inr (5, [.ref k1, .ref k2, .ref k3, .ref k4, .int 0, .null, .null, .int 0])), (k1, .inl (cA 0, 9, .inl ms_z)), (k2, .inl (cA 0, 8, .inl ms_z)), (k3, .inl (cA 0, 8, .inl ms_z)), (k4, .inl (cA 0, 8, .inl ms_z))] := hD
  refine lv_aload_n hx hb dX5_init_36 rfl (lv_at hl 0 rfl) ?_
  refine lv_bipush (v := 15) hx hb dX5_init_37 (by decide) ?_
  refine ms_newi 15 hx hb (hts (.arrayClass .int) (List.mem_cons_of_mem _ (List.mem_append_left _ (List.mem_of_getElem? (i := 3) rfl)))) hE hP hD hS hA rfl (by decide) (Nat.le_of_ble_eq_true rfl) (Nat.le_of_ble_eq_true rfl) dX5_init_39 (fun k5 H hP hD hS => ?_)
  have hP : va_P D vwCl [(q0, .inr (5, [.ref k1, .ref k2, .ref k3, .ref k4, .int 0, .null, .null, .int 0])), (k1, .inl (cA 0, 9, .inl ms_z)), (k2, .inl (cA 0, 8, .inl ms_z)), (k3, .inl (cA 0, 8, .inl ms_z)), (k4, .inl (cA 0, 8, .inl ms_z)), (k5, .inl (cA 0, 15, .inl ms_z))] H := hP
  have hD : va_D A [(q0, .inr (5, [.ref k1, .ref k2, .ref k3, .ref k4, .int 0, .null, .null, .int 0])), (k1, .inl (cA 0, 9, .inl ms_z)), (k2, .inl (cA 0, 8, .inl ms_z)), (k3, .inl (cA 0, 8, .inl ms_z)), (k4, .inl (cA 0, 8, .inl ms_z)), (k5, .inl (cA 0, 15, .inl ms_z))] := hD
  refine va_putF (D := D) (ci := 5) (v := .ref k5) (ty := tyX5 5) (C := RX5) (T := TX5) (N := 8) hx hb hts hnX5 tyX5 tyX5_ok nmX5 hown hE.1 hP hD hS 0 rfl rfl 5 (by decide) (hts (.fieldLink RX5 24 "MovedStones$Papers" "bookRoads" "[I") (List.mem_cons_of_mem _ (List.mem_append_left _ (List.mem_of_getElem? (i := 8) rfl)))) (fun _ h9 => h9) rfl hnm rfl (tyX5_ok 5 (by decide)) rfl rfl (Nat.le_of_ble_eq_true rfl) dX5_init_41 (fun H locs hP hD hS => ?_)
  have hP : va_P D vwCl [(q0, .inr (5, [.ref k1, .ref k2, .ref k3, .ref k4, .int 0, .ref k5, .null, .int 0])), (k1, .inl (cA 0, 9, .inl ms_z)), (k2, .inl (cA 0, 8, .inl ms_z)), (k3, .inl (cA 0, 8, .inl ms_z)), (k4, .inl (cA 0, 8, .inl ms_z)), (k5, .inl (cA 0, 15, .inl ms_z))] H := hP
  have hD : va_D A [(q0, .inr (5, [.ref k1, .ref k2, .ref k3, .ref k4, .int 0, .ref k5, .null, .int 0])), (k1, .inl (cA 0, 9, .inl ms_z)), (k2, .inl (cA 0, 8, .inl ms_z)), (k3, .inl (cA 0, 8, .inl ms_z)), (k4, .inl (cA 0, 8, .inl ms_z)), (k5, .inl (cA 0, 15, .inl ms_z))] := hD
  refine lv_aload_n hx hb dX5_init_44 rfl (lv_at hl 0 rfl) ?_
  refine lv_bipush (v := 15) hx hb dX5_init_45 (by decide) ?_
  refine ms_newi 15 hx hb (hts (.arrayClass .int) (List.mem_cons_of_mem _ (List.mem_append_left _ (List.mem_of_getElem? (i := 3) rfl)))) hE hP hD hS hA rfl (by decide) (Nat.le_of_ble_eq_true rfl) (Nat.le_of_ble_eq_true rfl) dX5_init_47 (fun k6 H hP hD hS => ?_)
  have hP : va_P D vwCl [(q0, .inr (5, [.ref k1, .ref k2, .ref k3, .ref k4, .int 0, .ref k5, .null, .int 0])), (k1, .inl (cA 0, 9, .inl ms_z)), (k2, .inl (cA 0, 8, .inl ms_z)), (k3, .inl (cA 0, 8, .inl ms_z)), (k4, .inl (cA 0, 8, .inl ms_z)), (k5, .inl (cA 0, 15, .inl ms_z)), (k6, .inl (cA 0, 15, .inl ms_z))] H := hP
  have hD : va_D A [(q0, .inr (5, [.ref k1, .ref k2, .ref k3, .ref k4, .int 0, .ref k5, .null, .int 0])), (k1, .inl (cA 0, 9, .inl ms_z)), (k2, .inl (cA 0, 8, .inl ms_z)), (k3, .inl (cA 0, 8, .inl ms_z)), (k4, .inl (cA 0, 8, .inl ms_z)), (k5, .inl (cA 0, 15, .inl ms_z)), (k6, .inl (cA 0, 15, .inl ms_z))] := hD
  refine va_putF (D := D) (ci := 5) (v := .ref k6) (ty := tyX5 6) (C := RX5) (T := TX5) (N := 8) hx hb hts hnX5 tyX5 tyX5_ok nmX5 hown hE.1 hP hD hS 0 rfl rfl 6 (by decide) (hts (.fieldLink RX5 27 "MovedStones$Papers" "bookMiles" "[I") (List.mem_cons_of_mem _ (List.mem_append_left _ (List.mem_of_getElem? (i := 9) rfl)))) (fun _ h9 => h9) rfl hnm rfl (tyX5_ok 6 (by decide)) rfl rfl (Nat.le_of_ble_eq_true rfl) dX5_init_49 (fun H locs hP hD hS => ?_)
  have hP : va_P D vwCl [(q0, .inr (5, [.ref k1, .ref k2, .ref k3, .ref k4, .int 0, .ref k5, .ref k6, .int 0])), (k1, .inl (cA 0, 9, .inl ms_z)), (k2, .inl (cA 0, 8, .inl ms_z)), (k3, .inl (cA 0, 8, .inl ms_z)), (k4, .inl (cA 0, 8, .inl ms_z)), (k5, .inl (cA 0, 15, .inl ms_z)), (k6, .inl (cA 0, 15, .inl ms_z))] H := hP
  have hD : va_D A [(q0, .inr (5, [.ref k1, .ref k2, .ref k3, .ref k4, .int 0, .ref k5, .ref k6, .int 0])), (k1, .inl (cA 0, 9, .inl ms_z)), (k2, .inl (cA 0, 8, .inl ms_z)), (k3, .inl (cA 0, 8, .inl ms_z)), (k4, .inl (cA 0, 8, .inl ms_z)), (k5, .inl (cA 0, 15, .inl ms_z)), (k6, .inl (cA 0, 15, .inl ms_z))] := hD
  exact ms_vret hx hb hr hlk (fun i => [k1, k2, k3, k4, k5, k6].getD i 0) trivial hP hD hS (Nat.le_of_ble_eq_true rfl) (Nat.le_of_ble_eq_true rfl) dX5_init_52
set_option maxHeartbeats 4000000 in
set_option maxRecDepth 100000 in
theorem cX9_init_1 (l : Launch) (D : va_G) (cA : Nat → ClassId) (q0 : Nat) : ms_Mv l yX9_init wsX9_init ({ frames := 1, cells := 2, slots := 12, locals := 20 } : Room) D cA [.ref q0] [(q0, .inr (9, [.null, .null, .int 0]))] (fun (_ : Nat → Nat) => True) (fun (u : Nat → Nat) => [(q0, .inr (9, [.ref ((u 0)), .ref ((u 1)), .int 0])), ((u 0), .inl (cA 0, 6, .inl ms_z)), ((u 1), .inl (cA 0, 6, .inl ms_z))]) := by
  refine ms_Mv_of (cc := cX9_init) (maxL := 1) (ret := none) (by decide) rfl (Nat.le_of_ble_eq_true rfl) ?_
  intro p e s m args below meth c A ls hB hE hA hP hD hS hl
  obtain ⟨hx, hb, hr, hml, hown, hts, hlk, hnm⟩ := hB
  have hown : s.vm.findClass RX9 = some m.cls := hown
  have hnX9 : ∀ w ∈ u_ws RX9 TX9 3, w ∈ wsX9_init := fun _ h => List.mem_cons_of_mem _ (List.mem_append_right _ (h))
  have hl : lv_has ls 1 [(0, .ref q0)] := hl
  refine lv_aload_n hx hb dX9_init_0 rfl (lv_at hl 0 rfl) ?_
  refine W.objInit hx hb hown (hts (.methodLink RX9 3 objectInit) (List.mem_cons_of_mem _ (List.mem_append_left _ (List.mem_of_getElem? (i := 0) rfl)))) (hts (.instanceMethod objectInit) (List.mem_cons_of_mem _ (List.mem_append_left _ (List.mem_of_getElem? (i := 1) rfl)))) (hts (.code objectInit ⟨#[0xb1]⟩ 1 none) (List.mem_cons_of_mem _ (List.mem_append_left _ (List.mem_of_getElem? (i := 2) rfl)))) rfl (by rw [hml]; exact hl.1) rfl dX9_init_1 (Nat.le_of_ble_eq_true rfl) (Nat.le_of_ble_eq_true rfl) ?_
  refine W.eq (g2 := F0 m 4 ls []) rfl ?_
  refine lv_aload_n hx hb dX9_init_4 rfl (lv_at hl 0 rfl) ?_
  refine lv_bipush (v := 6) hx hb dX9_init_5 (by decide) ?_
  refine ms_newi 6 hx hb (hts (.arrayClass .int) (List.mem_cons_of_mem _ (List.mem_append_left _ (List.mem_of_getElem? (i := 3) rfl)))) hE hP hD hS hA rfl (by decide) (Nat.le_of_ble_eq_true rfl) (Nat.le_of_ble_eq_true rfl) dX9_init_7 (fun k1 H hP hD hS => ?_)
  have hP : va_P D vwCl [(q0, .inr (9, [.null, .null, .int 0])), (k1, .inl (cA 0, 6, .inl ms_z))] H := hP
  have hD : va_D A [(q0, .inr (9, [.null, .null, .int 0])), (k1, .inl (cA 0, 6, .inl ms_z))] := hD
  refine va_putF (D := D) (ci := 9) (v := .ref k1) (ty := tyX9 0) (C := RX9) (T := TX9) (N := 3) hx hb hts hnX9 tyX9 tyX9_ok nmX9 hown hE.1 hP hD hS 0 rfl rfl 0 (by decide) (hts (.fieldLink RX9 9 "MovedStones$Ways" "ahead" "[I") (List.mem_cons_of_mem _ (List.mem_append_left _ (List.mem_of_getElem? (i := 4) rfl)))) (fun _ h9 => h9) rfl hnm rfl (tyX9_ok 0 (by decide)) rfl rfl (Nat.le_of_ble_eq_true rfl) dX9_init_9 (fun H locs hP hD hS => ?_)
  have hP : va_P D vwCl [(q0, .inr (9, [.ref k1, .null, .int 0])), (k1, .inl (cA 0, 6, .inl ms_z))] H := hP
  have hD : va_D A [(q0, .inr (9, [.ref k1, .null, .int 0])), (k1, .inl (cA 0, 6, .inl ms_z))] := hD
  refine lv_aload_n hx hb dX9_init_12 rfl (lv_at hl 0 rfl) ?_
  refine lv_bipush (v := 6) hx hb dX9_init_13 (by decide) ?_
  refine ms_newi 6 hx hb (hts (.arrayClass .int) (List.mem_cons_of_mem _ (List.mem_append_left _ (List.mem_of_getElem? (i := 3) rfl)))) hE hP hD hS hA rfl (by decide) (Nat.le_of_ble_eq_true rfl) (Nat.le_of_ble_eq_true rfl) dX9_init_15 (fun k2 H hP hD hS => ?_)
  have hP : va_P D vwCl [(q0, .inr (9, [.ref k1, .null, .int 0])), (k1, .inl (cA 0, 6, .inl ms_z)), (k2, .inl (cA 0, 6, .inl ms_z))] H := hP
  have hD : va_D A [(q0, .inr (9, [.ref k1, .null, .int 0])), (k1, .inl (cA 0, 6, .inl ms_z)), (k2, .inl (cA 0, 6, .inl ms_z))] := hD
  refine va_putF (D := D) (ci := 9) (v := .ref k2) (ty := tyX9 1) (C := RX9) (T := TX9) (N := 3) hx hb hts hnX9 tyX9 tyX9_ok nmX9 hown hE.1 hP hD hS 0 rfl rfl 1 (by decide) (hts (.fieldLink RX9 15 "MovedStones$Ways" "route" "[I") (List.mem_cons_of_mem _ (List.mem_append_left _ (List.mem_of_getElem? (i := 5) rfl)))) (fun _ h9 => h9) rfl hnm rfl (tyX9_ok 1 (by decide)) rfl rfl (Nat.le_of_ble_eq_true rfl) dX9_init_17 (fun H locs hP hD hS => ?_)
  have hP : va_P D vwCl [(q0, .inr (9, [.ref k1, .ref k2, .int 0])), (k1, .inl (cA 0, 6, .inl ms_z)), (k2, .inl (cA 0, 6, .inl ms_z))] H := hP
  have hD : va_D A [(q0, .inr (9, [.ref k1, .ref k2, .int 0])), (k1, .inl (cA 0, 6, .inl ms_z)), (k2, .inl (cA 0, 6, .inl ms_z))] := hD
  exact ms_vret hx hb hr hlk (fun i => [k1, k2].getD i 0) trivial hP hD hS (Nat.le_of_ble_eq_true rfl) (Nat.le_of_ble_eq_true rfl) dX9_init_20
set_option maxHeartbeats 4000000 in
set_option maxRecDepth 100000 in
theorem cX3_init_1 (l : Launch) (D : va_G) (cA : Nat → ClassId) (q0 : Nat) : ms_Mv l yX3_init wsX3_init ({ frames := 1, cells := 2, slots := 15, locals := 20 } : Room) D cA [.ref q0] [(q0, .inr (3, [.null, .null]))] (fun (_ : Nat → Nat) => True) (fun (u : Nat → Nat) => [(q0, .inr (3, [.ref ((u 0)), .ref ((u 1))])), ((u 0), .inl (cA 0, 9, .inl ms_z)), ((u 1), .inl (cA 0, 6, .inl ms_z))]) := by
  refine ms_Mv_of (cc := cX3_init) (maxL := 1) (ret := none) (by decide) rfl (Nat.le_of_ble_eq_true rfl) ?_
  intro p e s m args below meth c A ls hB hE hA hP hD hS hl
  obtain ⟨hx, hb, hr, hml, hown, hts, hlk, hnm⟩ := hB
  have hown : s.vm.findClass RX3 = some m.cls := hown
  have hnX3 : ∀ w ∈ u_ws RX3 TX3 2, w ∈ wsX3_init := fun _ h => List.mem_cons_of_mem _ (List.mem_append_right _ (h))
  have hl : lv_has ls 1 [(0, .ref q0)] := hl
  refine lv_aload_n hx hb dX3_init_0 rfl (lv_at hl 0 rfl) ?_
  refine W.objInit hx hb hown (hts (.methodLink RX3 3 objectInit) (List.mem_cons_of_mem _ (List.mem_append_left _ (List.mem_of_getElem? (i := 0) rfl)))) (hts (.instanceMethod objectInit) (List.mem_cons_of_mem _ (List.mem_append_left _ (List.mem_of_getElem? (i := 1) rfl)))) (hts (.code objectInit ⟨#[0xb1]⟩ 1 none) (List.mem_cons_of_mem _ (List.mem_append_left _ (List.mem_of_getElem? (i := 2) rfl)))) rfl (by rw [hml]; exact hl.1) rfl dX3_init_1 (Nat.le_of_ble_eq_true rfl) (Nat.le_of_ble_eq_true rfl) ?_
  refine W.eq (g2 := F0 m 4 ls []) rfl ?_
  refine lv_aload_n hx hb dX3_init_4 rfl (lv_at hl 0 rfl) ?_
  refine lv_bipush (v := 9) hx hb dX3_init_5 (by decide) ?_
  refine ms_newi 9 hx hb (hts (.arrayClass .int) (List.mem_cons_of_mem _ (List.mem_append_left _ (List.mem_of_getElem? (i := 3) rfl)))) hE hP hD hS hA rfl (by decide) (Nat.le_of_ble_eq_true rfl) (Nat.le_of_ble_eq_true rfl) dX3_init_7 (fun k1 H hP hD hS => ?_)
  have hP : va_P D vwCl [(q0, .inr (3, [.null, .null])), (k1, .inl (cA 0, 9, .inl ms_z))] H := hP
  have hD : va_D A [(q0, .inr (3, [.null, .null])), (k1, .inl (cA 0, 9, .inl ms_z))] := hD
  refine va_putF (D := D) (ci := 3) (v := .ref k1) (ty := tyX3 0) (C := RX3) (T := TX3) (N := 2) hx hb hts hnX3 tyX3 tyX3_ok nmX3 hown hE.1 hP hD hS 0 rfl rfl 0 (by decide) (hts (.fieldLink RX3 9 "MovedStones$Mender" "change" "[I") (List.mem_cons_of_mem _ (List.mem_append_left _ (List.mem_of_getElem? (i := 4) rfl)))) (fun _ h9 => h9) rfl hnm rfl (tyX3_ok 0 (by decide)) rfl rfl (Nat.le_of_ble_eq_true rfl) dX3_init_9 (fun H locs hP hD hS => ?_)
  have hP : va_P D vwCl [(q0, .inr (3, [.ref k1, .null])), (k1, .inl (cA 0, 9, .inl ms_z))] H := hP
  have hD : va_D A [(q0, .inr (3, [.ref k1, .null])), (k1, .inl (cA 0, 9, .inl ms_z))] := hD
  refine lv_aload_n hx hb dX3_init_12 rfl (lv_at hl 0 rfl) ?_
  refine lv_bipush (v := 6) hx hb dX3_init_13 (by decide) ?_
  refine ms_newi 6 hx hb (hts (.arrayClass .int) (List.mem_cons_of_mem _ (List.mem_append_left _ (List.mem_of_getElem? (i := 3) rfl)))) hE hP hD hS hA rfl (by decide) (Nat.le_of_ble_eq_true rfl) (Nat.le_of_ble_eq_true rfl) dX3_init_15 (fun k2 H hP hD hS => ?_)
  have hP : va_P D vwCl [(q0, .inr (3, [.ref k1, .null])), (k1, .inl (cA 0, 9, .inl ms_z)), (k2, .inl (cA 0, 6, .inl ms_z))] H := hP
  have hD : va_D A [(q0, .inr (3, [.ref k1, .null])), (k1, .inl (cA 0, 9, .inl ms_z)), (k2, .inl (cA 0, 6, .inl ms_z))] := hD
  refine va_putF (D := D) (ci := 3) (v := .ref k2) (ty := tyX3 1) (C := RX3) (T := TX3) (N := 2) hx hb hts hnX3 tyX3 tyX3_ok nmX3 hown hE.1 hP hD hS 0 rfl rfl 1 (by decide) (hts (.fieldLink RX3 15 "MovedStones$Mender" "sums" "[I") (List.mem_cons_of_mem _ (List.mem_append_left _ (List.mem_of_getElem? (i := 5) rfl)))) (fun _ h9 => h9) rfl hnm rfl (tyX3_ok 1 (by decide)) rfl rfl (Nat.le_of_ble_eq_true rfl) dX3_init_17 (fun H locs hP hD hS => ?_)
  have hP : va_P D vwCl [(q0, .inr (3, [.ref k1, .ref k2])), (k1, .inl (cA 0, 9, .inl ms_z)), (k2, .inl (cA 0, 6, .inl ms_z))] H := hP
  have hD : va_D A [(q0, .inr (3, [.ref k1, .ref k2])), (k1, .inl (cA 0, 9, .inl ms_z)), (k2, .inl (cA 0, 6, .inl ms_z))] := hD
  exact ms_vret hx hb hr hlk (fun i => [k1, k2].getD i 0) trivial hP hD hS (Nat.le_of_ble_eq_true rfl) (Nat.le_of_ble_eq_true rfl) dX3_init_20
set_option maxHeartbeats 4000000 in
set_option maxRecDepth 100000 in
theorem cX4_init_1 (l : Launch) (D : va_G) (cA : Nat → ClassId) (q0 : Nat) : ms_Mv l yX4_init wsX4_init ({ frames := 1, cells := 2, slots := 14, locals := 20 } : Room) D cA [.ref q0] [(q0, .inr (4, [.null, .int 0, .null, .int 0]))] (fun (_ : Nat → Nat) => True) (fun (u : Nat → Nat) => [(q0, .inr (4, [.ref ((u 0)), .int 0, .ref ((u 1)), .int 0])), ((u 0), .inl (cA 0, 5, .inl ms_z)), ((u 1), .inl (cA 0, 9, .inl ms_z))]) := by
  refine ms_Mv_of (cc := cX4_init) (maxL := 1) (ret := none) (by decide) rfl (Nat.le_of_ble_eq_true rfl) ?_
  intro p e s m args below meth c A ls hB hE hA hP hD hS hl
  obtain ⟨hx, hb, hr, hml, hown, hts, hlk, hnm⟩ := hB
  have hown : s.vm.findClass RX4 = some m.cls := hown
  have hnX4 : ∀ w ∈ u_ws RX4 TX4 4, w ∈ wsX4_init := fun _ h => List.mem_cons_of_mem _ (List.mem_append_right _ (h))
  have hl : lv_has ls 1 [(0, .ref q0)] := hl
  refine lv_aload_n hx hb dX4_init_0 rfl (lv_at hl 0 rfl) ?_
  refine W.objInit hx hb hown (hts (.methodLink RX4 3 objectInit) (List.mem_cons_of_mem _ (List.mem_append_left _ (List.mem_of_getElem? (i := 0) rfl)))) (hts (.instanceMethod objectInit) (List.mem_cons_of_mem _ (List.mem_append_left _ (List.mem_of_getElem? (i := 1) rfl)))) (hts (.code objectInit ⟨#[0xb1]⟩ 1 none) (List.mem_cons_of_mem _ (List.mem_append_left _ (List.mem_of_getElem? (i := 2) rfl)))) rfl (by rw [hml]; exact hl.1) rfl dX4_init_1 (Nat.le_of_ble_eq_true rfl) (Nat.le_of_ble_eq_true rfl) ?_
  refine W.eq (g2 := F0 m 4 ls []) rfl ?_
  refine lv_aload_n hx hb dX4_init_4 rfl (lv_at hl 0 rfl) ?_
  refine lv_iconst (v := 5) hx hb dX4_init_5 (by decide) ?_
  refine ms_newi 5 hx hb (hts (.arrayClass .int) (List.mem_cons_of_mem _ (List.mem_append_left _ (List.mem_of_getElem? (i := 3) rfl)))) hE hP hD hS hA rfl (by decide) (Nat.le_of_ble_eq_true rfl) (Nat.le_of_ble_eq_true rfl) dX4_init_6 (fun k1 H hP hD hS => ?_)
  have hP : va_P D vwCl [(q0, .inr (4, [.null, .int 0, .null, .int 0])), (k1, .inl (cA 0, 5, .inl ms_z))] H := hP
  have hD : va_D A [(q0, .inr (4, [.null, .int 0, .null, .int 0])), (k1, .inl (cA 0, 5, .inl ms_z))] := hD
  refine va_putF (D := D) (ci := 4) (v := .ref k1) (ty := tyX4 0) (C := RX4) (T := TX4) (N := 4) hx hb hts hnX4 tyX4 tyX4_ok nmX4 hown hE.1 hP hD hS 0 rfl rfl 0 (by decide) (hts (.fieldLink RX4 9 "MovedStones$Nights" "order" "[I") (List.mem_cons_of_mem _ (List.mem_append_left _ (List.mem_of_getElem? (i := 4) rfl)))) (fun _ h9 => h9) rfl hnm rfl (tyX4_ok 0 (by decide)) rfl rfl (Nat.le_of_ble_eq_true rfl) dX4_init_8 (fun H locs hP hD hS => ?_)
  have hP : va_P D vwCl [(q0, .inr (4, [.ref k1, .int 0, .null, .int 0])), (k1, .inl (cA 0, 5, .inl ms_z))] H := hP
  have hD : va_D A [(q0, .inr (4, [.ref k1, .int 0, .null, .int 0])), (k1, .inl (cA 0, 5, .inl ms_z))] := hD
  refine lv_aload_n hx hb dX4_init_11 rfl (lv_at hl 0 rfl) ?_
  refine lv_bipush (v := 9) hx hb dX4_init_12 (by decide) ?_
  refine ms_newi 9 hx hb (hts (.arrayClass .int) (List.mem_cons_of_mem _ (List.mem_append_left _ (List.mem_of_getElem? (i := 3) rfl)))) hE hP hD hS hA rfl (by decide) (Nat.le_of_ble_eq_true rfl) (Nat.le_of_ble_eq_true rfl) dX4_init_14 (fun k2 H hP hD hS => ?_)
  have hP : va_P D vwCl [(q0, .inr (4, [.ref k1, .int 0, .null, .int 0])), (k1, .inl (cA 0, 5, .inl ms_z)), (k2, .inl (cA 0, 9, .inl ms_z))] H := hP
  have hD : va_D A [(q0, .inr (4, [.ref k1, .int 0, .null, .int 0])), (k1, .inl (cA 0, 5, .inl ms_z)), (k2, .inl (cA 0, 9, .inl ms_z))] := hD
  refine va_putF (D := D) (ci := 4) (v := .ref k2) (ty := tyX4 2) (C := RX4) (T := TX4) (N := 4) hx hb hts hnX4 tyX4 tyX4_ok nmX4 hown hE.1 hP hD hS 0 rfl rfl 2 (by decide) (hts (.fieldLink RX4 15 "MovedStones$Nights" "stones" "[I") (List.mem_cons_of_mem _ (List.mem_append_left _ (List.mem_of_getElem? (i := 5) rfl)))) (fun _ h9 => h9) rfl hnm rfl (tyX4_ok 2 (by decide)) rfl rfl (Nat.le_of_ble_eq_true rfl) dX4_init_16 (fun H locs hP hD hS => ?_)
  have hP : va_P D vwCl [(q0, .inr (4, [.ref k1, .int 0, .ref k2, .int 0])), (k1, .inl (cA 0, 5, .inl ms_z)), (k2, .inl (cA 0, 9, .inl ms_z))] H := hP
  have hD : va_D A [(q0, .inr (4, [.ref k1, .int 0, .ref k2, .int 0])), (k1, .inl (cA 0, 5, .inl ms_z)), (k2, .inl (cA 0, 9, .inl ms_z))] := hD
  exact ms_vret hx hb hr hlk (fun i => [k1, k2].getD i 0) trivial hP hD hS (Nat.le_of_ble_eq_true rfl) (Nat.le_of_ble_eq_true rfl) dX4_init_19
set_option maxHeartbeats 4000000 in
set_option maxRecDepth 100000 in
theorem cX7_init_1 (l : Launch) (D : va_G) (cA : Nat → ClassId) (q0 : Nat) : ms_Mv l yX7_init wsX7_init ({ frames := 1, cells := 0, slots := 0, locals := 20 } : Room) D cA [.ref q0] [(q0, .inr (7, [.int 0, .int 0, .int 0, .int 0]))] (fun (_ : Unit) => True) (fun (_ : Unit) => [(q0, .inr (7, [.int 0, .int 0, .int 0, .int 0]))]) := by
  refine ms_Mv_of (cc := cX7_init) (maxL := 1) (ret := none) (by decide) rfl (Nat.le_of_ble_eq_true rfl) ?_
  intro p e s m args below meth c A ls hB hE hA hP hD hS hl
  obtain ⟨hx, hb, hr, hml, hown, hts, hlk, hnm⟩ := hB
  have hown : s.vm.findClass RX7 = some m.cls := hown
  have hl : lv_has ls 1 [(0, .ref q0)] := hl
  refine lv_aload_n hx hb dX7_init_0 rfl (lv_at hl 0 rfl) ?_
  refine W.objInit hx hb hown (hts (.methodLink RX7 3 objectInit) (List.mem_cons_of_mem _ (List.mem_of_getElem? (i := 0) rfl))) (hts (.instanceMethod objectInit) (List.mem_cons_of_mem _ (List.mem_of_getElem? (i := 1) rfl))) (hts (.code objectInit ⟨#[0xb1]⟩ 1 none) (List.mem_cons_of_mem _ (List.mem_of_getElem? (i := 2) rfl))) rfl (by rw [hml]; exact hl.1) rfl dX7_init_1 (Nat.le_of_ble_eq_true rfl) (Nat.le_of_ble_eq_true rfl) ?_
  refine W.eq (g2 := F0 m 4 ls []) rfl ?_
  exact ms_vret hx hb hr hlk () trivial hP hD hS (Nat.le_of_ble_eq_true rfl) (Nat.le_of_ble_eq_true rfl) dX7_init_4
