set_option maxHeartbeats 4000000 in
set_option maxRecDepth 100000 in
theorem law_16 (l : Launch) (D : va_G) (cA : Nat → ClassId) (hx0 hm0 : Nat) (ux um : Nat → Nat) {p : Program} {e : Env} {s : State} {m : MethodId} {below : List Frame} {meth : Method} {c : Code} {b : Nat} {xs : Nat → Int32} {H : Heap} {locs : List Loc} {ls : Array Slot} (C0 : lw_At p s m meth c b 4 xs) (hE : ms_EV D cA s) (hP : va_P D vwCl (ms_WX cA hx0 ux ++ ms_WM cA hm0 um) H) (hD : va_D (fun q : Nat => s.heap.size ≤ q) (ms_WX cA hx0 ux ++ ms_WM cA hm0 um)) (hS : va_S (fun q : Nat => s.heap.size ≤ q) s.heap H locs) (hl : lv_has ls 4 [(3, .int 0), (2, .ref hm0), (1, .ref hx0), (0, .ref b)]) : W p l e room_1 s m #[Value.ref b] below meth c H locs 69 1489 (lw_Z below #[Value.ref b] s) (F0 m 590 ls []) := by
  obtain ⟨hx, hb, hr, hml, hown, hts0, hX, hbl, hlocks, hgv⟩ := id C0
  have hb : c.code = cL_law := hb
  have hown : s.vm.findClass RL = some m.cls := hown
  have hts : ∀ w ∈ wsL_law, w.before #[Value.ref b] s = true := fun w h => hts0 w (wsL_law_in w h)
  have hA : ∀ q : Nat, s.heap.size ≤ q → (fun q : Nat => s.heap.size ≤ q) q := fun _ h => h
  have hbA : ¬ (fun q : Nat => s.heap.size ≤ q) b := Nat.not_le.mpr hbl
  by_cases g1_1 : (xs 1).toInt ≤ -2
  · skip
    refine lv_aload_n hx hb dL_law_590 rfl (lv_at hl 2 rfl) ?_
    refine lv_aload_n hx hb dL_law_591 rfl (lv_at hl 3 rfl) ?_
    refine lv_iload_n hx hb dL_law_592 rfl (lv_at hl 0 rfl) ?_
    refine lv_iconst (v := 1) hx hb dL_law_593 (by decide) ?_
    refine lv_iadd hx hb dL_law_594 ?_
    refine ms_eqi (y := 1) (by decide) ?_
    refine ms_sld hx hb hX hbl hbA hS 1 rfl (by decide) (by decide) dL_law_595 ?_
    refine ms_cVi (qc := (RX10, TX10, 12)) (wc := [(hx0, .inr (10, [.ref ((ux 0)), .ref ((ux 11)), .ref ((ux 20)), .ref ((ux 22)), .ref ((ux 24)), .int 0, .ref ((ux 31)), .ref ((ux 38)), .ref ((ux 41)), .ref ((ux 44)), .ref ((ux 47)), .ref ((ux 48))])), ((ux 20), .inr (8, [.ref ((ux 21)), .int 0, .int 0, .int 0, .int (-1), .int (-1)])), ((ux 31), .inr (5, [.ref ((ux 32)), .ref ((ux 33)), .ref ((ux 34)), .ref ((ux 35)), .int 0, .ref ((ux 36)), .ref ((ux 37)), .int 0])), ((ux 44), .inr (4, [.ref ((ux 45)), .int 0, .ref ((ux 46)), .int 0])), ((ux 21), .inl (cA 0, 9, .inl ms_z)), ((ux 46), .inl (cA 0, 9, .inl ms_z)), ((ux 11), .inr (2, [.int 0, .int 0, .int 0, .int 0, .int 0, .ref ((ux 12)), .ref ((ux 13)), .ref ((ux 14)), .ref ((ux 15)), .ref ((ux 16)), .ref ((ux 17)), .ref ((ux 18)), .ref ((ux 19))]))]) (wr := ms_WM cA hm0 um) ⟨hx, hb, hml, hown, hts⟩ hE (cX10_dawns_1 l D cA hx0 ((ux 20)) ((ux 31)) ((ux 44)) ((ux 21)) ((ux 46)) ((ux 11)) ((ux 0)) ((ux 22)) ((ux 24)) ((ux 38)) ((ux 41)) ((ux 47)) ((ux 48)) ((ux 32)) ((ux 33)) ((ux 34)) ((ux 35)) ((ux 36)) ((ux 37)) ((ux 45)) ((ux 12)) ((ux 13)) ((ux 14)) ((ux 15)) ((ux 16)) ((ux 17)) ((ux 18)) ((ux 19)) ((xs 1)) (by omega)) (cwV 1 hts gL_law_X10_dawns rfl rfl rfl (by decide +kernel) ⟨Nat.le_of_ble_eq_true rfl, Nat.le_of_ble_eq_true rfl⟩) hP hD hS hA [0, 21, 32, 45, 22, 47, 12] [50, 51, 52, 53, 54, 55, 56, 57, 58, 59, 60, 61, 62, 63, 64, 65, 66, 67, 68] rfl rfl rfl rfl (by decide) 0 10 rfl rfl rfl hl.1 rfl (Nat.le_of_ble_eq_true rfl) dL_law_596 ⟨Nat.le_of_ble_eq_true rfl, Nat.le_of_ble_eq_true rfl⟩ (fun r3 u2 H locs hp hP hD hS => ?_)
    subst hp
    refine lv_aload_n hx hb dL_law_599 rfl (lv_at hl 1 rfl) ?_
    refine lv_aload_n hx hb dL_law_600 rfl (lv_at hl 3 rfl) ?_
    refine lv_iload_n hx hb dL_law_601 rfl (lv_at hl 0 rfl) ?_
    refine lv_iconst (v := 1) hx hb dL_law_602 (by decide) ?_
    refine lv_iadd hx hb dL_law_603 ?_
    refine ms_eqi (y := 1) (by decide) ?_
    refine ms_sld hx hb hX hbl hbA hS 1 rfl (by decide) (by decide) dL_law_604 ?_
    refine ms_cVi (qc := (RX11, TX11, 32)) (wc := [(hm0, .inr (11, [.ref ((um 16)), .ref ((um 0)), .ref ((um 14)), .ref ((um 1)), .int 0, .ref ((um 2)), .ref ((um 15)), .long 0, .ref ((um 3)), .int 0, .int (-1), .ref ((um 17)), .ref ((um 4)), .int 0, .ref ((um 5)), .int 0, .int 0, .int 0, .int 0, .int 0, .int 0, .int 0, .ref ((um 6)), .ref ((um 7)), .ref ((um 8)), .int 0, .ref ((um 9)), .ref ((um 10)), .ref ((um 11)), .ref ((um 12)), .int 0, .ref ((um 13))])), ((um 16), .inl (cA 0, 68, .inl ms_z)), ((um 14), .inl (cA 0, 14, .inl ms_n)), ((um 9), .inl (cA 0, 9, .inl ms_z))]) (wr := []) ⟨hx, hb, hml, hown, hts⟩ hE (cX11_dawns_1 l D cA hm0 ((um 16)) ((um 14)) ((um 9)) ((um 0)) ((um 1)) ((um 2)) ((um 15)) ((um 3)) ((um 17)) ((um 4)) ((um 5)) ((um 6)) ((um 7)) ((um 8)) ((um 10)) ((um 11)) ((um 12)) ((um 13)) ((xs 1)) (by omega)) (cwV 1 hts gL_law_X11_dawns rfl rfl rfl (by decide +kernel) ⟨Nat.le_of_ble_eq_true rfl, Nat.le_of_ble_eq_true rfl⟩) hP hD hS hA [0, 17, 15, 10] [] rfl rfl rfl rfl (by decide) 0 11 rfl rfl rfl hl.1 rfl (Nat.le_of_ble_eq_true rfl) dL_law_605 ⟨Nat.le_of_ble_eq_true rfl, Nat.le_of_ble_eq_true rfl⟩ (fun r5 u4 H locs hp hP hD hS => ?_)
    subst hp
    refine lv_icmp_eq (tgt := 988) hx hb dL_law_608 (by decide) (fun _ => ?_) (fun c => absurd (by decide) c)
    exact law_end C0 (Nat.le_of_ble_eq_true rfl) (Nat.le_of_ble_eq_true rfl) hS hl
  · skip
    by_cases g1_6 : (xs 1).toInt ≤ -1
    · skip
      have e1 : xs 1 = (-1) := Int32.toInt_inj.mp (by have z : ((-1) : Int32).toInt = -1 := (by decide); omega)
      refine lv_aload_n hx hb dL_law_590 rfl (lv_at hl 2 rfl) ?_
      refine lv_aload_n hx hb dL_law_591 rfl (lv_at hl 3 rfl) ?_
      refine lv_iload_n hx hb dL_law_592 rfl (lv_at hl 0 rfl) ?_
      refine lv_iconst (v := 1) hx hb dL_law_593 (by decide) ?_
      refine lv_iadd hx hb dL_law_594 ?_
      refine ms_eqi (y := 1) (by decide) ?_
      refine ms_sld hx hb hX hbl hbA hS 1 rfl (by decide) (by decide) dL_law_595 ?_
      refine ms_eqi (y := (-1)) e1 ?_
      refine ms_cVi (qc := (RX10, TX10, 12)) (wc := [(hx0, .inr (10, [.ref ((ux 0)), .ref ((ux 11)), .ref ((ux 20)), .ref ((ux 22)), .ref ((ux 24)), .int 0, .ref ((ux 31)), .ref ((ux 38)), .ref ((ux 41)), .ref ((ux 44)), .ref ((ux 47)), .ref ((ux 48))])), ((ux 20), .inr (8, [.ref ((ux 21)), .int 0, .int 0, .int 0, .int (-1), .int (-1)])), ((ux 31), .inr (5, [.ref ((ux 32)), .ref ((ux 33)), .ref ((ux 34)), .ref ((ux 35)), .int 0, .ref ((ux 36)), .ref ((ux 37)), .int 0])), ((ux 44), .inr (4, [.ref ((ux 45)), .int 0, .ref ((ux 46)), .int 0])), ((ux 21), .inl (cA 0, 9, .inl ms_z)), ((ux 46), .inl (cA 0, 9, .inl ms_z)), ((ux 11), .inr (2, [.int 0, .int 0, .int 0, .int 0, .int 0, .ref ((ux 12)), .ref ((ux 13)), .ref ((ux 14)), .ref ((ux 15)), .ref ((ux 16)), .ref ((ux 17)), .ref ((ux 18)), .ref ((ux 19))]))]) (wr := ms_WM cA hm0 um) ⟨hx, hb, hml, hown, hts⟩ hE (cX10_dawns_2 l D cA hx0 ((ux 20)) ((ux 31)) ((ux 44)) ((ux 21)) ((ux 46)) ((ux 11)) ((ux 0)) ((ux 22)) ((ux 24)) ((ux 38)) ((ux 41)) ((ux 47)) ((ux 48)) ((ux 32)) ((ux 33)) ((ux 34)) ((ux 35)) ((ux 36)) ((ux 37)) ((ux 45)) ((ux 12)) ((ux 13)) ((ux 14)) ((ux 15)) ((ux 16)) ((ux 17)) ((ux 18)) ((ux 19))) (cwV 1 hts gL_law_X10_dawns rfl rfl rfl (by decide +kernel) ⟨Nat.le_of_ble_eq_true rfl, Nat.le_of_ble_eq_true rfl⟩) hP hD hS hA [0, 21, 32, 45, 22, 47, 12] [50, 51, 52, 53, 54, 55, 56, 57, 58, 59, 60, 61, 62, 63, 64, 65, 66, 67, 68] rfl rfl rfl rfl (by decide) 0 10 rfl rfl rfl hl.1 rfl (Nat.le_of_ble_eq_true rfl) dL_law_596 ⟨Nat.le_of_ble_eq_true rfl, Nat.le_of_ble_eq_true rfl⟩ (fun r8 u7 H locs hp hP hD hS => ?_)
      subst hp
      refine lv_aload_n hx hb dL_law_599 rfl (lv_at hl 1 rfl) ?_
      refine lv_aload_n hx hb dL_law_600 rfl (lv_at hl 3 rfl) ?_
      refine lv_iload_n hx hb dL_law_601 rfl (lv_at hl 0 rfl) ?_
      refine lv_iconst (v := 1) hx hb dL_law_602 (by decide) ?_
      refine lv_iadd hx hb dL_law_603 ?_
      refine ms_eqi (y := 1) (by decide) ?_
      refine ms_sld hx hb hX hbl hbA hS 1 rfl (by decide) (by decide) dL_law_604 ?_
      refine ms_eqi (y := (-1)) e1 ?_
      refine ms_cVi (qc := (RX11, TX11, 32)) (wc := [(hm0, .inr (11, [.ref ((um 16)), .ref ((um 0)), .ref ((um 14)), .ref ((um 1)), .int 0, .ref ((um 2)), .ref ((um 15)), .long 0, .ref ((um 3)), .int 0, .int (-1), .ref ((um 17)), .ref ((um 4)), .int 0, .ref ((um 5)), .int 0, .int 0, .int 0, .int 0, .int 0, .int 0, .int 0, .ref ((um 6)), .ref ((um 7)), .ref ((um 8)), .int 0, .ref ((um 9)), .ref ((um 10)), .ref ((um 11)), .ref ((um 12)), .int 0, .ref ((um 13))])), ((um 16), .inl (cA 0, 68, .inl ms_z)), ((um 14), .inl (cA 0, 14, .inl ms_n)), ((um 9), .inl (cA 0, 9, .inl ms_z))]) (wr := []) ⟨hx, hb, hml, hown, hts⟩ hE (cX11_dawns_2 l D cA hm0 ((um 16)) ((um 14)) ((um 9)) ((um 0)) ((um 1)) ((um 2)) ((um 15)) ((um 3)) ((um 17)) ((um 4)) ((um 5)) ((um 6)) ((um 7)) ((um 8)) ((um 10)) ((um 11)) ((um 12)) ((um 13))) (cwV 1 hts gL_law_X11_dawns rfl rfl rfl (by decide +kernel) ⟨Nat.le_of_ble_eq_true rfl, Nat.le_of_ble_eq_true rfl⟩) hP hD hS hA [0, 17, 15, 10] [] rfl rfl rfl rfl (by decide) 0 11 rfl rfl rfl hl.1 rfl (Nat.le_of_ble_eq_true rfl) dL_law_605 ⟨Nat.le_of_ble_eq_true rfl, Nat.le_of_ble_eq_true rfl⟩ (fun r10 u9 H locs hp hP hD hS => ?_)
      subst hp
      refine lv_icmp_eq (tgt := 988) hx hb dL_law_608 (by decide) (fun _ => ?_) (fun c => absurd (by decide) c)
      exact law_end C0 (Nat.le_of_ble_eq_true rfl) (Nat.le_of_ble_eq_true rfl) hS hl
    · skip
      refine lv_aload_n hx hb dL_law_590 rfl (lv_at hl 2 rfl) ?_
      refine lv_aload_n hx hb dL_law_591 rfl (lv_at hl 3 rfl) ?_
      refine lv_iload_n hx hb dL_law_592 rfl (lv_at hl 0 rfl) ?_
      refine lv_iconst (v := 1) hx hb dL_law_593 (by decide) ?_
      refine lv_iadd hx hb dL_law_594 ?_
      refine ms_eqi (y := 1) (by decide) ?_
      refine ms_sld hx hb hX hbl hbA hS 1 rfl (by decide) (by decide) dL_law_595 ?_
      refine ms_cVi (qc := (RX10, TX10, 12)) (wc := [(hx0, .inr (10, [.ref ((ux 0)), .ref ((ux 11)), .ref ((ux 20)), .ref ((ux 22)), .ref ((ux 24)), .int 0, .ref ((ux 31)), .ref ((ux 38)), .ref ((ux 41)), .ref ((ux 44)), .ref ((ux 47)), .ref ((ux 48))])), ((ux 20), .inr (8, [.ref ((ux 21)), .int 0, .int 0, .int 0, .int (-1), .int (-1)])), ((ux 31), .inr (5, [.ref ((ux 32)), .ref ((ux 33)), .ref ((ux 34)), .ref ((ux 35)), .int 0, .ref ((ux 36)), .ref ((ux 37)), .int 0])), ((ux 44), .inr (4, [.ref ((ux 45)), .int 0, .ref ((ux 46)), .int 0])), ((ux 21), .inl (cA 0, 9, .inl ms_z)), ((ux 46), .inl (cA 0, 9, .inl ms_z)), ((ux 11), .inr (2, [.int 0, .int 0, .int 0, .int 0, .int 0, .ref ((ux 12)), .ref ((ux 13)), .ref ((ux 14)), .ref ((ux 15)), .ref ((ux 16)), .ref ((ux 17)), .ref ((ux 18)), .ref ((ux 19))]))]) (wr := ms_WM cA hm0 um) ⟨hx, hb, hml, hown, hts⟩ hE (cX10_dawns_3 l D cA hx0 ((ux 20)) ((ux 31)) ((ux 44)) ((ux 21)) ((ux 46)) ((ux 11)) ((ux 0)) ((ux 22)) ((ux 24)) ((ux 38)) ((ux 41)) ((ux 47)) ((ux 48)) ((ux 32)) ((ux 33)) ((ux 34)) ((ux 35)) ((ux 36)) ((ux 37)) ((ux 45)) ((ux 12)) ((ux 13)) ((ux 14)) ((ux 15)) ((ux 16)) ((ux 17)) ((ux 18)) ((ux 19)) ((xs 1)) (by omega)) (cwV 1 hts gL_law_X10_dawns rfl rfl rfl (by decide +kernel) ⟨Nat.le_of_ble_eq_true rfl, Nat.le_of_ble_eq_true rfl⟩) hP hD hS hA [0, 21, 32, 45, 22, 47, 12] [50, 51, 52, 53, 54, 55, 56, 57, 58, 59, 60, 61, 62, 63, 64, 65, 66, 67, 68] rfl rfl rfl rfl (by decide) 0 10 rfl rfl rfl hl.1 rfl (Nat.le_of_ble_eq_true rfl) dL_law_596 ⟨Nat.le_of_ble_eq_true rfl, Nat.le_of_ble_eq_true rfl⟩ (fun r12 u11 H locs hp hP hD hS => ?_)
      subst hp
      refine lv_aload_n hx hb dL_law_599 rfl (lv_at hl 1 rfl) ?_
      refine lv_aload_n hx hb dL_law_600 rfl (lv_at hl 3 rfl) ?_
      refine lv_iload_n hx hb dL_law_601 rfl (lv_at hl 0 rfl) ?_
      refine lv_iconst (v := 1) hx hb dL_law_602 (by decide) ?_
      refine lv_iadd hx hb dL_law_603 ?_
      refine ms_eqi (y := 1) (by decide) ?_
      refine ms_sld hx hb hX hbl hbA hS 1 rfl (by decide) (by decide) dL_law_604 ?_
      refine ms_cVi (qc := (RX11, TX11, 32)) (wc := [(hm0, .inr (11, [.ref ((um 16)), .ref ((um 0)), .ref ((um 14)), .ref ((um 1)), .int 0, .ref ((um 2)), .ref ((um 15)), .long 0, .ref ((um 3)), .int 0, .int (-1), .ref ((um 17)), .ref ((um 4)), .int 0, .ref ((um 5)), .int 0, .int 0, .int 0, .int 0, .int 0, .int 0, .int 0, .ref ((um 6)), .ref ((um 7)), .ref ((um 8)), .int 0, .ref ((um 9)), .ref ((um 10)), .ref ((um 11)), .ref ((um 12)), .int 0, .ref ((um 13))])), ((um 16), .inl (cA 0, 68, .inl ms_z)), ((um 14), .inl (cA 0, 14, .inl ms_n)), ((um 9), .inl (cA 0, 9, .inl ms_z))]) (wr := []) ⟨hx, hb, hml, hown, hts⟩ hE (cX11_dawns_3 l D cA hm0 ((um 16)) ((um 14)) ((um 9)) ((um 0)) ((um 1)) ((um 2)) ((um 15)) ((um 3)) ((um 17)) ((um 4)) ((um 5)) ((um 6)) ((um 7)) ((um 8)) ((um 10)) ((um 11)) ((um 12)) ((um 13)) ((xs 1)) (by omega)) (cwV 1 hts gL_law_X11_dawns rfl rfl rfl (by decide +kernel) ⟨Nat.le_of_ble_eq_true rfl, Nat.le_of_ble_eq_true rfl⟩) hP hD hS hA [0, 17, 15, 10] [] rfl rfl rfl rfl (by decide) 0 11 rfl rfl rfl hl.1 rfl (Nat.le_of_ble_eq_true rfl) dL_law_605 ⟨Nat.le_of_ble_eq_true rfl, Nat.le_of_ble_eq_true rfl⟩ (fun r14 u13 H locs hp hP hD hS => ?_)
      subst hp
      refine lv_icmp_eq (tgt := 988) hx hb dL_law_608 (by decide) (fun _ => ?_) (fun c => absurd (by decide) c)
      exact law_end C0 (Nat.le_of_ble_eq_true rfl) (Nat.le_of_ble_eq_true rfl) hS hl
set_option maxHeartbeats 4000000 in
set_option maxRecDepth 100000 in
theorem law_17 (l : Launch) (D : va_G) (cA : Nat → ClassId) (hx0 hm0 : Nat) (ux um : Nat → Nat) {p : Program} {e : Env} {s : State} {m : MethodId} {below : List Frame} {meth : Method} {c : Code} {b : Nat} {xs : Nat → Int32} {H : Heap} {locs : List Loc} {ls : Array Slot} (C0 : lw_At p s m meth c b 4 xs) (hE : ms_EV D cA s) (hP : va_P D vwCl (ms_WX cA hx0 ux ++ ms_WM cA hm0 um) H) (hD : va_D (fun q : Nat => s.heap.size ≤ q) (ms_WX cA hx0 ux ++ ms_WM cA hm0 um)) (hS : va_S (fun q : Nat => s.heap.size ≤ q) s.heap H locs) (hl : lv_has ls 4 [(3, .int 0), (2, .ref hm0), (1, .ref hx0), (0, .ref b)]) : W p l e room_1 s m #[Value.ref b] below meth c H locs 69 1489 (lw_Z below #[Value.ref b] s) (F0 m 613 ls []) := by
  obtain ⟨hx, hb, hr, hml, hown, hts0, hX, hbl, hlocks, hgv⟩ := id C0
  have hb : c.code = cL_law := hb
  have hown : s.vm.findClass RL = some m.cls := hown
  have hts : ∀ w ∈ wsL_law, w.before #[Value.ref b] s = true := fun w h => hts0 w (wsL_law_in w h)
  have hA : ∀ q : Nat, s.heap.size ≤ q → (fun q : Nat => s.heap.size ≤ q) q := fun _ h => h
  have hbA : ¬ (fun q : Nat => s.heap.size ≤ q) b := Nat.not_le.mpr hbl
  by_cases g1_1 : (xs 1).toInt ≤ -1
  · skip
    refine lv_aload_n hx hb dL_law_613 rfl (lv_at hl 2 rfl) ?_
    refine lv_aload_n hx hb dL_law_614 rfl (lv_at hl 3 rfl) ?_
    refine lv_iload_n hx hb dL_law_615 rfl (lv_at hl 0 rfl) ?_
    refine lv_iconst (v := 1) hx hb dL_law_616 (by decide) ?_
    refine lv_iadd hx hb dL_law_617 ?_
    refine ms_eqi (y := 1) (by decide) ?_
    refine ms_sld hx hb hX hbl hbA hS 1 rfl (by decide) (by decide) dL_law_618 ?_
    refine ms_cVi (qc := (RX10, TX10, 12)) (wc := [(hx0, .inr (10, [.ref ((ux 0)), .ref ((ux 11)), .ref ((ux 20)), .ref ((ux 22)), .ref ((ux 24)), .int 0, .ref ((ux 31)), .ref ((ux 38)), .ref ((ux 41)), .ref ((ux 44)), .ref ((ux 47)), .ref ((ux 48))]))]) (wr := ms_WM cA hm0 um) ⟨hx, hb, hml, hown, hts⟩ hE (cX10_round_1 l D cA hx0 ((ux 0)) ((ux 11)) ((ux 20)) ((ux 22)) ((ux 24)) ((ux 31)) ((ux 38)) ((ux 41)) ((ux 44)) ((ux 47)) ((ux 48)) ((xs 1)) (by omega)) (cwV 1 hts gL_law_X10_round rfl rfl rfl (by decide +kernel) ⟨Nat.le_of_ble_eq_true rfl, Nat.le_of_ble_eq_true rfl⟩) hP hD hS hA [0] [50, 51, 52, 53, 54, 55, 56, 57, 58, 59, 60, 61, 62, 63, 64, 65, 66, 67, 68] rfl rfl rfl rfl (by decide) 0 10 rfl rfl rfl hl.1 rfl (Nat.le_of_ble_eq_true rfl) dL_law_619 ⟨Nat.le_of_ble_eq_true rfl, Nat.le_of_ble_eq_true rfl⟩ (fun r3 u2 H locs hp hP hD hS => ?_)
    subst hp
    refine lv_aload_n hx hb dL_law_622 rfl (lv_at hl 1 rfl) ?_
    refine lv_aload_n hx hb dL_law_623 rfl (lv_at hl 3 rfl) ?_
    refine lv_iload_n hx hb dL_law_624 rfl (lv_at hl 0 rfl) ?_
    refine lv_iconst (v := 1) hx hb dL_law_625 (by decide) ?_
    refine lv_iadd hx hb dL_law_626 ?_
    refine ms_eqi (y := 1) (by decide) ?_
    refine ms_sld hx hb hX hbl hbA hS 1 rfl (by decide) (by decide) dL_law_627 ?_
    refine ms_cVi (qc := (RX11, TX11, 32)) (wc := [(hm0, .inr (11, [.ref ((um 16)), .ref ((um 0)), .ref ((um 14)), .ref ((um 1)), .int 0, .ref ((um 2)), .ref ((um 15)), .long 0, .ref ((um 3)), .int 0, .int (-1), .ref ((um 17)), .ref ((um 4)), .int 0, .ref ((um 5)), .int 0, .int 0, .int 0, .int 0, .int 0, .int 0, .int 0, .ref ((um 6)), .ref ((um 7)), .ref ((um 8)), .int 0, .ref ((um 9)), .ref ((um 10)), .ref ((um 11)), .ref ((um 12)), .int 0, .ref ((um 13))]))]) (wr := []) ⟨hx, hb, hml, hown, hts⟩ hE (cX11_round_1 l D cA hm0 ((um 16)) ((um 0)) ((um 14)) ((um 1)) ((um 2)) ((um 15)) ((um 3)) ((um 17)) ((um 4)) ((um 5)) ((um 6)) ((um 7)) ((um 8)) ((um 9)) ((um 10)) ((um 11)) ((um 12)) ((um 13)) ((xs 1)) (by omega)) (cwV 1 hts gL_law_X11_round rfl rfl rfl (by decide +kernel) ⟨Nat.le_of_ble_eq_true rfl, Nat.le_of_ble_eq_true rfl⟩) hP hD hS hA [0] [] rfl rfl rfl rfl (by decide) 0 11 rfl rfl rfl hl.1 rfl (Nat.le_of_ble_eq_true rfl) dL_law_628 ⟨Nat.le_of_ble_eq_true rfl, Nat.le_of_ble_eq_true rfl⟩ (fun r5 u4 H locs hp hP hD hS => ?_)
    subst hp
    refine lv_icmp_eq (tgt := 988) hx hb dL_law_631 (by decide) (fun _ => ?_) (fun c => absurd (by decide) c)
    exact law_end C0 (Nat.le_of_ble_eq_true rfl) (Nat.le_of_ble_eq_true rfl) hS hl
  · skip
    by_cases g1_6 : (xs 1).toInt ≤ 2
    · skip
      refine lv_aload_n hx hb dL_law_613 rfl (lv_at hl 2 rfl) ?_
      refine lv_aload_n hx hb dL_law_614 rfl (lv_at hl 3 rfl) ?_
      refine lv_iload_n hx hb dL_law_615 rfl (lv_at hl 0 rfl) ?_
      refine lv_iconst (v := 1) hx hb dL_law_616 (by decide) ?_
      refine lv_iadd hx hb dL_law_617 ?_
      refine ms_eqi (y := 1) (by decide) ?_
      refine ms_sld hx hb hX hbl hbA hS 1 rfl (by decide) (by decide) dL_law_618 ?_
      refine ms_cVi (qc := (RX10, TX10, 12)) (wc := [(hx0, .inr (10, [.ref ((ux 0)), .ref ((ux 11)), .ref ((ux 20)), .ref ((ux 22)), .ref ((ux 24)), .int 0, .ref ((ux 31)), .ref ((ux 38)), .ref ((ux 41)), .ref ((ux 44)), .ref ((ux 47)), .ref ((ux 48))])), ((ux 20), .inr (8, [.ref ((ux 21)), .int 0, .int 0, .int 0, .int (-1), .int (-1)])), ((ux 47), .inr (7, [.int 0, .int 0, .int 0, .int 0])), ((ux 11), .inr (2, [.int 0, .int 0, .int 0, .int 0, .int 0, .ref ((ux 12)), .ref ((ux 13)), .ref ((ux 14)), .ref ((ux 15)), .ref ((ux 16)), .ref ((ux 17)), .ref ((ux 18)), .ref ((ux 19))]))]) (wr := ms_WM cA hm0 um) ⟨hx, hb, hml, hown, hts⟩ hE (cX10_round_2 l D cA hx0 ((ux 20)) ((ux 47)) ((ux 11)) ((ux 0)) ((ux 22)) ((ux 24)) ((ux 31)) ((ux 38)) ((ux 41)) ((ux 44)) ((ux 48)) ((ux 21)) ((ux 12)) ((ux 13)) ((ux 14)) ((ux 15)) ((ux 16)) ((ux 17)) ((ux 18)) ((ux 19)) ((xs 1)) (by omega) (by omega)) (cwV 1 hts gL_law_X10_round rfl rfl rfl (by decide +kernel) ⟨Nat.le_of_ble_eq_true rfl, Nat.le_of_ble_eq_true rfl⟩) hP hD hS hA [0, 21, 48, 12] [50, 51, 52, 53, 54, 55, 56, 57, 58, 59, 60, 61, 62, 63, 64, 65, 66, 67, 68] rfl rfl rfl rfl (by decide) 0 10 rfl rfl rfl hl.1 rfl (Nat.le_of_ble_eq_true rfl) dL_law_619 ⟨Nat.le_of_ble_eq_true rfl, Nat.le_of_ble_eq_true rfl⟩ (fun r8 u7 H locs hp hP hD hS => ?_)
      subst hp
      refine lv_aload_n hx hb dL_law_622 rfl (lv_at hl 1 rfl) ?_
      refine lv_aload_n hx hb dL_law_623 rfl (lv_at hl 3 rfl) ?_
      refine lv_iload_n hx hb dL_law_624 rfl (lv_at hl 0 rfl) ?_
      refine lv_iconst (v := 1) hx hb dL_law_625 (by decide) ?_
      refine lv_iadd hx hb dL_law_626 ?_
      refine ms_eqi (y := 1) (by decide) ?_
      refine ms_sld hx hb hX hbl hbA hS 1 rfl (by decide) (by decide) dL_law_627 ?_
      refine ms_cVi (qc := (RX11, TX11, 32)) (wc := [(hm0, .inr (11, [.ref ((um 16)), .ref ((um 0)), .ref ((um 14)), .ref ((um 1)), .int 0, .ref ((um 2)), .ref ((um 15)), .long 0, .ref ((um 3)), .int 0, .int (-1), .ref ((um 17)), .ref ((um 4)), .int 0, .ref ((um 5)), .int 0, .int 0, .int 0, .int 0, .int 0, .int 0, .int 0, .ref ((um 6)), .ref ((um 7)), .ref ((um 8)), .int 0, .ref ((um 9)), .ref ((um 10)), .ref ((um 11)), .ref ((um 12)), .int 0, .ref ((um 13))])), ((um 16), .inl (cA 0, 68, .inl ms_z))]) (wr := []) ⟨hx, hb, hml, hown, hts⟩ hE (cX11_round_2 l D cA hm0 ((um 16)) ((um 0)) ((um 14)) ((um 1)) ((um 2)) ((um 15)) ((um 3)) ((um 17)) ((um 4)) ((um 5)) ((um 6)) ((um 7)) ((um 8)) ((um 9)) ((um 10)) ((um 11)) ((um 12)) ((um 13)) ((xs 1)) (by omega) (by omega)) (cwV 1 hts gL_law_X11_round rfl rfl rfl (by decide +kernel) ⟨Nat.le_of_ble_eq_true rfl, Nat.le_of_ble_eq_true rfl⟩) hP hD hS hA [0, 17] [] rfl rfl rfl rfl (by decide) 0 11 rfl rfl rfl hl.1 rfl (Nat.le_of_ble_eq_true rfl) dL_law_628 ⟨Nat.le_of_ble_eq_true rfl, Nat.le_of_ble_eq_true rfl⟩ (fun r10 u9 H locs hp hP hD hS => ?_)
      subst hp
      refine lv_icmp_eq (tgt := 988) hx hb dL_law_631 (by decide) (fun _ => ?_) (fun c => absurd (by decide) c)
      exact law_end C0 (Nat.le_of_ble_eq_true rfl) (Nat.le_of_ble_eq_true rfl) hS hl
    · skip
      refine lv_aload_n hx hb dL_law_613 rfl (lv_at hl 2 rfl) ?_
      refine lv_aload_n hx hb dL_law_614 rfl (lv_at hl 3 rfl) ?_
      refine lv_iload_n hx hb dL_law_615 rfl (lv_at hl 0 rfl) ?_
      refine lv_iconst (v := 1) hx hb dL_law_616 (by decide) ?_
      refine lv_iadd hx hb dL_law_617 ?_
      refine ms_eqi (y := 1) (by decide) ?_
      refine ms_sld hx hb hX hbl hbA hS 1 rfl (by decide) (by decide) dL_law_618 ?_
      refine ms_cVi (qc := (RX10, TX10, 12)) (wc := [(hx0, .inr (10, [.ref ((ux 0)), .ref ((ux 11)), .ref ((ux 20)), .ref ((ux 22)), .ref ((ux 24)), .int 0, .ref ((ux 31)), .ref ((ux 38)), .ref ((ux 41)), .ref ((ux 44)), .ref ((ux 47)), .ref ((ux 48))]))]) (wr := ms_WM cA hm0 um) ⟨hx, hb, hml, hown, hts⟩ hE (cX10_round_3 l D cA hx0 ((ux 0)) ((ux 11)) ((ux 20)) ((ux 22)) ((ux 24)) ((ux 31)) ((ux 38)) ((ux 41)) ((ux 44)) ((ux 47)) ((ux 48)) ((xs 1)) (by omega)) (cwV 1 hts gL_law_X10_round rfl rfl rfl (by decide +kernel) ⟨Nat.le_of_ble_eq_true rfl, Nat.le_of_ble_eq_true rfl⟩) hP hD hS hA [0] [50, 51, 52, 53, 54, 55, 56, 57, 58, 59, 60, 61, 62, 63, 64, 65, 66, 67, 68] rfl rfl rfl rfl (by decide) 0 10 rfl rfl rfl hl.1 rfl (Nat.le_of_ble_eq_true rfl) dL_law_619 ⟨Nat.le_of_ble_eq_true rfl, Nat.le_of_ble_eq_true rfl⟩ (fun r12 u11 H locs hp hP hD hS => ?_)
      subst hp
      refine lv_aload_n hx hb dL_law_622 rfl (lv_at hl 1 rfl) ?_
      refine lv_aload_n hx hb dL_law_623 rfl (lv_at hl 3 rfl) ?_
      refine lv_iload_n hx hb dL_law_624 rfl (lv_at hl 0 rfl) ?_
      refine lv_iconst (v := 1) hx hb dL_law_625 (by decide) ?_
      refine lv_iadd hx hb dL_law_626 ?_
      refine ms_eqi (y := 1) (by decide) ?_
      refine ms_sld hx hb hX hbl hbA hS 1 rfl (by decide) (by decide) dL_law_627 ?_
      refine ms_cVi (qc := (RX11, TX11, 32)) (wc := [(hm0, .inr (11, [.ref ((um 16)), .ref ((um 0)), .ref ((um 14)), .ref ((um 1)), .int 0, .ref ((um 2)), .ref ((um 15)), .long 0, .ref ((um 3)), .int 0, .int (-1), .ref ((um 17)), .ref ((um 4)), .int 0, .ref ((um 5)), .int 0, .int 0, .int 0, .int 0, .int 0, .int 0, .int 0, .ref ((um 6)), .ref ((um 7)), .ref ((um 8)), .int 0, .ref ((um 9)), .ref ((um 10)), .ref ((um 11)), .ref ((um 12)), .int 0, .ref ((um 13))]))]) (wr := []) ⟨hx, hb, hml, hown, hts⟩ hE (cX11_round_3 l D cA hm0 ((um 16)) ((um 0)) ((um 14)) ((um 1)) ((um 2)) ((um 15)) ((um 3)) ((um 17)) ((um 4)) ((um 5)) ((um 6)) ((um 7)) ((um 8)) ((um 9)) ((um 10)) ((um 11)) ((um 12)) ((um 13)) ((xs 1)) (by omega)) (cwV 1 hts gL_law_X11_round rfl rfl rfl (by decide +kernel) ⟨Nat.le_of_ble_eq_true rfl, Nat.le_of_ble_eq_true rfl⟩) hP hD hS hA [0] [] rfl rfl rfl rfl (by decide) 0 11 rfl rfl rfl hl.1 rfl (Nat.le_of_ble_eq_true rfl) dL_law_628 ⟨Nat.le_of_ble_eq_true rfl, Nat.le_of_ble_eq_true rfl⟩ (fun r14 u13 H locs hp hP hD hS => ?_)
      subst hp
      refine lv_icmp_eq (tgt := 988) hx hb dL_law_631 (by decide) (fun _ => ?_) (fun c => absurd (by decide) c)
      exact law_end C0 (Nat.le_of_ble_eq_true rfl) (Nat.le_of_ble_eq_true rfl) hS hl
set_option maxHeartbeats 4000000 in
set_option maxRecDepth 100000 in
theorem law_18 (l : Launch) (D : va_G) (cA : Nat → ClassId) (hx0 hm0 : Nat) (ux um : Nat → Nat) {p : Program} {e : Env} {s : State} {m : MethodId} {below : List Frame} {meth : Method} {c : Code} {b : Nat} {xs : Nat → Int32} {H : Heap} {locs : List Loc} {ls : Array Slot} (C0 : lw_At p s m meth c b 4 xs) (hE : ms_EV D cA s) (hP : va_P D vwCl (ms_WX cA hx0 ux ++ ms_WM cA hm0 um) H) (hD : va_D (fun q : Nat => s.heap.size ≤ q) (ms_WX cA hx0 ux ++ ms_WM cA hm0 um)) (hS : va_S (fun q : Nat => s.heap.size ≤ q) s.heap H locs) (hl : lv_has ls 4 [(3, .int 0), (2, .ref hm0), (1, .ref hx0), (0, .ref b)]) : W p l e room_1 s m #[Value.ref b] below meth c H locs 69 1489 (lw_Z below #[Value.ref b] s) (F0 m 636 ls []) := by
  obtain ⟨hx, hb, hr, hml, hown, hts0, hX, hbl, hlocks, hgv⟩ := id C0
  have hb : c.code = cL_law := hb
  have hown : s.vm.findClass RL = some m.cls := hown
  have hts : ∀ w ∈ wsL_law, w.before #[Value.ref b] s = true := fun w h => hts0 w (wsL_law_in w h)
  have hA : ∀ q : Nat, s.heap.size ≤ q → (fun q : Nat => s.heap.size ≤ q) q := fun _ h => h
  have hbA : ¬ (fun q : Nat => s.heap.size ≤ q) b := Nat.not_le.mpr hbl
  refine lv_aload_n hx hb dL_law_636 rfl (lv_at hl 2 rfl) ?_
  refine lv_aload_n hx hb dL_law_637 rfl (lv_at hl 3 rfl) ?_
  refine lv_iload_n hx hb dL_law_638 rfl (lv_at hl 0 rfl) ?_
  refine lv_iconst (v := 1) hx hb dL_law_639 (by decide) ?_
  refine lv_iadd hx hb dL_law_640 ?_
  refine ms_eqi (y := 1) (by decide) ?_
  refine ms_sld hx hb hX hbl hbA hS 1 rfl (by decide) (by decide) dL_law_641 ?_
  refine lv_aload_n hx hb dL_law_642 rfl (lv_at hl 3 rfl) ?_
  refine lv_iload_n hx hb dL_law_643 rfl (lv_at hl 0 rfl) ?_
  refine lv_iconst (v := 2) hx hb dL_law_644 (by decide) ?_
  refine lv_iadd hx hb dL_law_645 ?_
  refine ms_eqi (y := 2) (by decide) ?_
  refine ms_sld hx hb hX hbl hbA hS 2 rfl (by decide) (by decide) dL_law_646 ?_
  refine ms_cVi (qc := (RX10, TX10, 12)) (wc := [(hx0, .inr (10, [.ref ((ux 0)), .ref ((ux 11)), .ref ((ux 20)), .ref ((ux 22)), .ref ((ux 24)), .int 0, .ref ((ux 31)), .ref ((ux 38)), .ref ((ux 41)), .ref ((ux 44)), .ref ((ux 47)), .ref ((ux 48))])), ((ux 11), .inr (2, [.int 0, .int 0, .int 0, .int 0, .int 0, .ref ((ux 12)), .ref ((ux 13)), .ref ((ux 14)), .ref ((ux 15)), .ref ((ux 16)), .ref ((ux 17)), .ref ((ux 18)), .ref ((ux 19))]))]) (wr := ms_WM cA hm0 um) ⟨hx, hb, hml, hown, hts⟩ hE (cX10_deceive_1 l D cA hx0 ((ux 11)) ((ux 0)) ((ux 20)) ((ux 22)) ((ux 24)) ((ux 31)) ((ux 38)) ((ux 41)) ((ux 44)) ((ux 47)) ((ux 48)) ((ux 12)) ((ux 13)) ((ux 14)) ((ux 15)) ((ux 16)) ((ux 17)) ((ux 18)) ((ux 19)) ((xs 1)) ((xs 2))) (cwV 2 hts gL_law_X10_deceive rfl rfl rfl (by decide +kernel) ⟨Nat.le_of_ble_eq_true rfl, Nat.le_of_ble_eq_true rfl⟩) hP hD hS hA [0, 12] [50, 51, 52, 53, 54, 55, 56, 57, 58, 59, 60, 61, 62, 63, 64, 65, 66, 67, 68] rfl rfl rfl rfl (by decide) 0 10 rfl rfl rfl hl.1 rfl (Nat.le_of_ble_eq_true rfl) dL_law_647 ⟨Nat.le_of_ble_eq_true rfl, Nat.le_of_ble_eq_true rfl⟩ (fun r2 u1 H locs hp hP hD hS => ?_)
  subst hp
  refine lv_aload_n hx hb dL_law_650 rfl (lv_at hl 1 rfl) ?_
  refine lv_aload_n hx hb dL_law_651 rfl (lv_at hl 3 rfl) ?_
  refine lv_iload_n hx hb dL_law_652 rfl (lv_at hl 0 rfl) ?_
  refine lv_iconst (v := 1) hx hb dL_law_653 (by decide) ?_
  refine lv_iadd hx hb dL_law_654 ?_
  refine ms_eqi (y := 1) (by decide) ?_
  refine ms_sld hx hb hX hbl hbA hS 1 rfl (by decide) (by decide) dL_law_655 ?_
  refine lv_aload_n hx hb dL_law_656 rfl (lv_at hl 3 rfl) ?_
  refine lv_iload_n hx hb dL_law_657 rfl (lv_at hl 0 rfl) ?_
  refine lv_iconst (v := 2) hx hb dL_law_658 (by decide) ?_
  refine lv_iadd hx hb dL_law_659 ?_
  refine ms_eqi (y := 2) (by decide) ?_
  refine ms_sld hx hb hX hbl hbA hS 2 rfl (by decide) (by decide) dL_law_660 ?_
  refine ms_cVi (qc := (RX11, TX11, 32)) (wc := [(hm0, .inr (11, [.ref ((um 16)), .ref ((um 0)), .ref ((um 14)), .ref ((um 1)), .int 0, .ref ((um 2)), .ref ((um 15)), .long 0, .ref ((um 3)), .int 0, .int (-1), .ref ((um 17)), .ref ((um 4)), .int 0, .ref ((um 5)), .int 0, .int 0, .int 0, .int 0, .int 0, .int 0, .int 0, .ref ((um 6)), .ref ((um 7)), .ref ((um 8)), .int 0, .ref ((um 9)), .ref ((um 10)), .ref ((um 11)), .ref ((um 12)), .int 0, .ref ((um 13))])), ((um 16), .inl (cA 0, 68, .inl ms_z))]) (wr := []) ⟨hx, hb, hml, hown, hts⟩ hE (cX11_deceive_1 l D cA hm0 ((um 16)) ((um 0)) ((um 14)) ((um 1)) ((um 2)) ((um 15)) ((um 3)) ((um 17)) ((um 4)) ((um 5)) ((um 6)) ((um 7)) ((um 8)) ((um 9)) ((um 10)) ((um 11)) ((um 12)) ((um 13)) ((xs 1)) ((xs 2))) (cwV 2 hts gL_law_X11_deceive rfl rfl rfl (by decide +kernel) ⟨Nat.le_of_ble_eq_true rfl, Nat.le_of_ble_eq_true rfl⟩) hP hD hS hA [0, 17] [] rfl rfl rfl rfl (by decide) 0 11 rfl rfl rfl hl.1 rfl (Nat.le_of_ble_eq_true rfl) dL_law_661 ⟨Nat.le_of_ble_eq_true rfl, Nat.le_of_ble_eq_true rfl⟩ (fun r4 u3 H locs hp hP hD hS => ?_)
  subst hp
  refine lv_icmp_eq (tgt := 988) hx hb dL_law_664 (by decide) (fun _ => ?_) (fun c => absurd (by decide) c)
  exact law_end C0 (Nat.le_of_ble_eq_true rfl) (Nat.le_of_ble_eq_true rfl) hS hl
set_option maxHeartbeats 4000000 in
set_option maxRecDepth 100000 in
theorem law_19 (l : Launch) (D : va_G) (cA : Nat → ClassId) (hx0 hm0 : Nat) (ux um : Nat → Nat) {p : Program} {e : Env} {s : State} {m : MethodId} {below : List Frame} {meth : Method} {c : Code} {b : Nat} {xs : Nat → Int32} {H : Heap} {locs : List Loc} {ls : Array Slot} (C0 : lw_At p s m meth c b 4 xs) (hE : ms_EV D cA s) (hP : va_P D vwCl (ms_WX cA hx0 ux ++ ms_WM cA hm0 um) H) (hD : va_D (fun q : Nat => s.heap.size ≤ q) (ms_WX cA hx0 ux ++ ms_WM cA hm0 um)) (hS : va_S (fun q : Nat => s.heap.size ≤ q) s.heap H locs) (hl : lv_has ls 4 [(3, .int 0), (2, .ref hm0), (1, .ref hx0), (0, .ref b)]) : W p l e room_1 s m #[Value.ref b] below meth c H locs 69 1489 (lw_Z below #[Value.ref b] s) (F0 m 669 ls []) := by
  obtain ⟨hx, hb, hr, hml, hown, hts0, hX, hbl, hlocks, hgv⟩ := id C0
  have hb : c.code = cL_law := hb
  have hown : s.vm.findClass RL = some m.cls := hown
  have hts : ∀ w ∈ wsL_law, w.before #[Value.ref b] s = true := fun w h => hts0 w (wsL_law_in w h)
  have hA : ∀ q : Nat, s.heap.size ≤ q → (fun q : Nat => s.heap.size ≤ q) q := fun _ h => h
  have hbA : ¬ (fun q : Nat => s.heap.size ≤ q) b := Nat.not_le.mpr hbl
  refine lv_aload_n hx hb dL_law_669 rfl (lv_at hl 2 rfl) ?_
  refine lv_aload_n hx hb dL_law_670 rfl (lv_at hl 3 rfl) ?_
  refine lv_iload_n hx hb dL_law_671 rfl (lv_at hl 0 rfl) ?_
  refine lv_iconst (v := 1) hx hb dL_law_672 (by decide) ?_
  refine lv_iadd hx hb dL_law_673 ?_
  refine ms_eqi (y := 1) (by decide) ?_
  refine ms_sld hx hb hX hbl hbA hS 1 rfl (by decide) (by decide) dL_law_674 ?_
  refine lv_aload_n hx hb dL_law_675 rfl (lv_at hl 3 rfl) ?_
  refine lv_iload_n hx hb dL_law_676 rfl (lv_at hl 0 rfl) ?_
  refine lv_iconst (v := 2) hx hb dL_law_677 (by decide) ?_
  refine lv_iadd hx hb dL_law_678 ?_
  refine ms_eqi (y := 2) (by decide) ?_
  refine ms_sld hx hb hX hbl hbA hS 2 rfl (by decide) (by decide) dL_law_679 ?_
  refine lv_aload_n hx hb dL_law_680 rfl (lv_at hl 3 rfl) ?_
  refine lv_iload_n hx hb dL_law_681 rfl (lv_at hl 0 rfl) ?_
  refine lv_iconst (v := 3) hx hb dL_law_682 (by decide) ?_
  refine lv_iadd hx hb dL_law_683 ?_
  refine ms_eqi (y := 3) (by decide) ?_
  refine ms_sld hx hb hX hbl hbA hS 3 rfl (by decide) (by decide) dL_law_684 ?_
  refine ms_cVi (qc := (RX10, TX10, 12)) (wc := [(hx0, .inr (10, [.ref ((ux 0)), .ref ((ux 11)), .ref ((ux 20)), .ref ((ux 22)), .ref ((ux 24)), .int 0, .ref ((ux 31)), .ref ((ux 38)), .ref ((ux 41)), .ref ((ux 44)), .ref ((ux 47)), .ref ((ux 48))])), ((ux 11), .inr (2, [.int 0, .int 0, .int 0, .int 0, .int 0, .ref ((ux 12)), .ref ((ux 13)), .ref ((ux 14)), .ref ((ux 15)), .ref ((ux 16)), .ref ((ux 17)), .ref ((ux 18)), .ref ((ux 19))]))]) (wr := ms_WM cA hm0 um) ⟨hx, hb, hml, hown, hts⟩ hE (cX10_fee_1 l D cA hx0 ((ux 11)) ((ux 0)) ((ux 20)) ((ux 22)) ((ux 24)) ((ux 31)) ((ux 38)) ((ux 41)) ((ux 44)) ((ux 47)) ((ux 48)) ((ux 12)) ((ux 13)) ((ux 14)) ((ux 15)) ((ux 16)) ((ux 17)) ((ux 18)) ((ux 19)) ((xs 1)) ((xs 2)) ((xs 3))) (cwV 3 hts gL_law_X10_fee rfl rfl rfl (by decide +kernel) ⟨Nat.le_of_ble_eq_true rfl, Nat.le_of_ble_eq_true rfl⟩) hP hD hS hA [0, 12] [50, 51, 52, 53, 54, 55, 56, 57, 58, 59, 60, 61, 62, 63, 64, 65, 66, 67, 68] rfl rfl rfl rfl (by decide) 0 10 rfl rfl rfl hl.1 rfl (Nat.le_of_ble_eq_true rfl) dL_law_685 ⟨Nat.le_of_ble_eq_true rfl, Nat.le_of_ble_eq_true rfl⟩ (fun r2 u1 H locs hp hP hD hS => ?_)
  subst hp
  refine lv_aload_n hx hb dL_law_688 rfl (lv_at hl 1 rfl) ?_
  refine lv_aload_n hx hb dL_law_689 rfl (lv_at hl 3 rfl) ?_
  refine lv_iload_n hx hb dL_law_690 rfl (lv_at hl 0 rfl) ?_
  refine lv_iconst (v := 1) hx hb dL_law_691 (by decide) ?_
  refine lv_iadd hx hb dL_law_692 ?_
  refine ms_eqi (y := 1) (by decide) ?_
  refine ms_sld hx hb hX hbl hbA hS 1 rfl (by decide) (by decide) dL_law_693 ?_
  refine lv_aload_n hx hb dL_law_694 rfl (lv_at hl 3 rfl) ?_
  refine lv_iload_n hx hb dL_law_695 rfl (lv_at hl 0 rfl) ?_
  refine lv_iconst (v := 2) hx hb dL_law_696 (by decide) ?_
  refine lv_iadd hx hb dL_law_697 ?_
  refine ms_eqi (y := 2) (by decide) ?_
  refine ms_sld hx hb hX hbl hbA hS 2 rfl (by decide) (by decide) dL_law_698 ?_
  refine lv_aload_n hx hb dL_law_699 rfl (lv_at hl 3 rfl) ?_
  refine lv_iload_n hx hb dL_law_700 rfl (lv_at hl 0 rfl) ?_
  refine lv_iconst (v := 3) hx hb dL_law_701 (by decide) ?_
  refine lv_iadd hx hb dL_law_702 ?_
  refine ms_eqi (y := 3) (by decide) ?_
  refine ms_sld hx hb hX hbl hbA hS 3 rfl (by decide) (by decide) dL_law_703 ?_
  refine ms_cVi (qc := (RX11, TX11, 32)) (wc := [(hm0, .inr (11, [.ref ((um 16)), .ref ((um 0)), .ref ((um 14)), .ref ((um 1)), .int 0, .ref ((um 2)), .ref ((um 15)), .long 0, .ref ((um 3)), .int 0, .int (-1), .ref ((um 17)), .ref ((um 4)), .int 0, .ref ((um 5)), .int 0, .int 0, .int 0, .int 0, .int 0, .int 0, .int 0, .ref ((um 6)), .ref ((um 7)), .ref ((um 8)), .int 0, .ref ((um 9)), .ref ((um 10)), .ref ((um 11)), .ref ((um 12)), .int 0, .ref ((um 13))])), ((um 16), .inl (cA 0, 68, .inl ms_z))]) (wr := []) ⟨hx, hb, hml, hown, hts⟩ hE (cX11_fee_1 l D cA hm0 ((um 16)) ((um 0)) ((um 14)) ((um 1)) ((um 2)) ((um 15)) ((um 3)) ((um 17)) ((um 4)) ((um 5)) ((um 6)) ((um 7)) ((um 8)) ((um 9)) ((um 10)) ((um 11)) ((um 12)) ((um 13)) ((xs 1)) ((xs 2)) ((xs 3))) (cwV 3 hts gL_law_X11_fee rfl rfl rfl (by decide +kernel) ⟨Nat.le_of_ble_eq_true rfl, Nat.le_of_ble_eq_true rfl⟩) hP hD hS hA [0, 17] [] rfl rfl rfl rfl (by decide) 0 11 rfl rfl rfl hl.1 rfl (Nat.le_of_ble_eq_true rfl) dL_law_704 ⟨Nat.le_of_ble_eq_true rfl, Nat.le_of_ble_eq_true rfl⟩ (fun r4 u3 H locs hp hP hD hS => ?_)
  subst hp
  refine lv_icmp_eq (tgt := 988) hx hb dL_law_707 (by decide) (fun _ => ?_) (fun c => absurd (by decide) c)
  exact law_end C0 (Nat.le_of_ble_eq_true rfl) (Nat.le_of_ble_eq_true rfl) hS hl
set_option maxHeartbeats 4000000 in
set_option maxRecDepth 100000 in
theorem law_20 (l : Launch) (D : va_G) (cA : Nat → ClassId) (hx0 hm0 : Nat) (ux um : Nat → Nat) {p : Program} {e : Env} {s : State} {m : MethodId} {below : List Frame} {meth : Method} {c : Code} {b : Nat} {xs : Nat → Int32} {H : Heap} {locs : List Loc} {ls : Array Slot} (C0 : lw_At p s m meth c b 4 xs) (hE : ms_EV D cA s) (hP : va_P D vwCl (ms_WX cA hx0 ux ++ ms_WM cA hm0 um) H) (hD : va_D (fun q : Nat => s.heap.size ≤ q) (ms_WX cA hx0 ux ++ ms_WM cA hm0 um)) (hS : va_S (fun q : Nat => s.heap.size ≤ q) s.heap H locs) (hl : lv_has ls 4 [(3, .int 0), (2, .ref hm0), (1, .ref hx0), (0, .ref b)]) : W p l e room_1 s m #[Value.ref b] below meth c H locs 69 1489 (lw_Z below #[Value.ref b] s) (F0 m 712 ls []) := by
  obtain ⟨hx, hb, hr, hml, hown, hts0, hX, hbl, hlocks, hgv⟩ := id C0
  have hb : c.code = cL_law := hb
  have hown : s.vm.findClass RL = some m.cls := hown
  have hts : ∀ w ∈ wsL_law, w.before #[Value.ref b] s = true := fun w h => hts0 w (wsL_law_in w h)
  have hA : ∀ q : Nat, s.heap.size ≤ q → (fun q : Nat => s.heap.size ≤ q) q := fun _ h => h
  have hbA : ¬ (fun q : Nat => s.heap.size ≤ q) b := Nat.not_le.mpr hbl
  refine lv_aload_n hx hb dL_law_712 rfl (lv_at hl 2 rfl) ?_
  refine lv_aload_n hx hb dL_law_713 rfl (lv_at hl 3 rfl) ?_
  refine lv_iload_n hx hb dL_law_714 rfl (lv_at hl 0 rfl) ?_
  refine lv_iconst (v := 1) hx hb dL_law_715 (by decide) ?_
  refine lv_iadd hx hb dL_law_716 ?_
  refine ms_eqi (y := 1) (by decide) ?_
  refine ms_sld hx hb hX hbl hbA hS 1 rfl (by decide) (by decide) dL_law_717 ?_
  refine ms_cVi (qc := (RX10, TX10, 12)) (wc := [(hx0, .inr (10, [.ref ((ux 0)), .ref ((ux 11)), .ref ((ux 20)), .ref ((ux 22)), .ref ((ux 24)), .int 0, .ref ((ux 31)), .ref ((ux 38)), .ref ((ux 41)), .ref ((ux 44)), .ref ((ux 47)), .ref ((ux 48))])), ((ux 11), .inr (2, [.int 0, .int 0, .int 0, .int 0, .int 0, .ref ((ux 12)), .ref ((ux 13)), .ref ((ux 14)), .ref ((ux 15)), .ref ((ux 16)), .ref ((ux 17)), .ref ((ux 18)), .ref ((ux 19))]))]) (wr := ms_WM cA hm0 um) ⟨hx, hb, hml, hown, hts⟩ hE (cX10_owes_1 l D cA hx0 ((ux 11)) ((ux 0)) ((ux 20)) ((ux 22)) ((ux 24)) ((ux 31)) ((ux 38)) ((ux 41)) ((ux 44)) ((ux 47)) ((ux 48)) ((ux 12)) ((ux 13)) ((ux 14)) ((ux 15)) ((ux 16)) ((ux 17)) ((ux 18)) ((ux 19)) ((xs 1))) (cwV 1 hts gL_law_X10_owes rfl rfl rfl (by decide +kernel) ⟨Nat.le_of_ble_eq_true rfl, Nat.le_of_ble_eq_true rfl⟩) hP hD hS hA [0, 12] [50, 51, 52, 53, 54, 55, 56, 57, 58, 59, 60, 61, 62, 63, 64, 65, 66, 67, 68] rfl rfl rfl rfl (by decide) 0 10 rfl rfl rfl hl.1 rfl (Nat.le_of_ble_eq_true rfl) dL_law_718 ⟨Nat.le_of_ble_eq_true rfl, Nat.le_of_ble_eq_true rfl⟩ (fun r2 u1 H locs hp hP hD hS => ?_)
  subst hp
  refine lv_aload_n hx hb dL_law_721 rfl (lv_at hl 1 rfl) ?_
  refine lv_aload_n hx hb dL_law_722 rfl (lv_at hl 3 rfl) ?_
  refine lv_iload_n hx hb dL_law_723 rfl (lv_at hl 0 rfl) ?_
  refine lv_iconst (v := 1) hx hb dL_law_724 (by decide) ?_
  refine lv_iadd hx hb dL_law_725 ?_
  refine ms_eqi (y := 1) (by decide) ?_
  refine ms_sld hx hb hX hbl hbA hS 1 rfl (by decide) (by decide) dL_law_726 ?_
  refine ms_cVi (qc := (RX11, TX11, 32)) (wc := [(hm0, .inr (11, [.ref ((um 16)), .ref ((um 0)), .ref ((um 14)), .ref ((um 1)), .int 0, .ref ((um 2)), .ref ((um 15)), .long 0, .ref ((um 3)), .int 0, .int (-1), .ref ((um 17)), .ref ((um 4)), .int 0, .ref ((um 5)), .int 0, .int 0, .int 0, .int 0, .int 0, .int 0, .int 0, .ref ((um 6)), .ref ((um 7)), .ref ((um 8)), .int 0, .ref ((um 9)), .ref ((um 10)), .ref ((um 11)), .ref ((um 12)), .int 0, .ref ((um 13))])), ((um 16), .inl (cA 0, 68, .inl ms_z))]) (wr := []) ⟨hx, hb, hml, hown, hts⟩ hE (cX11_owes_1 l D cA hm0 ((um 16)) ((um 0)) ((um 14)) ((um 1)) ((um 2)) ((um 15)) ((um 3)) ((um 17)) ((um 4)) ((um 5)) ((um 6)) ((um 7)) ((um 8)) ((um 9)) ((um 10)) ((um 11)) ((um 12)) ((um 13)) ((xs 1))) (cwV 1 hts gL_law_X11_owes rfl rfl rfl (by decide +kernel) ⟨Nat.le_of_ble_eq_true rfl, Nat.le_of_ble_eq_true rfl⟩) hP hD hS hA [0, 17] [] rfl rfl rfl rfl (by decide) 0 11 rfl rfl rfl hl.1 rfl (Nat.le_of_ble_eq_true rfl) dL_law_727 ⟨Nat.le_of_ble_eq_true rfl, Nat.le_of_ble_eq_true rfl⟩ (fun r4 u3 H locs hp hP hD hS => ?_)
  subst hp
  refine lv_icmp_eq (tgt := 988) hx hb dL_law_730 (by decide) (fun _ => ?_) (fun c => absurd (by decide) c)
  exact law_end C0 (Nat.le_of_ble_eq_true rfl) (Nat.le_of_ble_eq_true rfl) hS hl
set_option maxHeartbeats 4000000 in
set_option maxRecDepth 100000 in
theorem law_21 (l : Launch) (D : va_G) (cA : Nat → ClassId) (hx0 hm0 : Nat) (ux um : Nat → Nat) {p : Program} {e : Env} {s : State} {m : MethodId} {below : List Frame} {meth : Method} {c : Code} {b : Nat} {xs : Nat → Int32} {H : Heap} {locs : List Loc} {ls : Array Slot} (C0 : lw_At p s m meth c b 4 xs) (hE : ms_EV D cA s) (hP : va_P D vwCl (ms_WX cA hx0 ux ++ ms_WM cA hm0 um) H) (hD : va_D (fun q : Nat => s.heap.size ≤ q) (ms_WX cA hx0 ux ++ ms_WM cA hm0 um)) (hS : va_S (fun q : Nat => s.heap.size ≤ q) s.heap H locs) (hl : lv_has ls 4 [(3, .int 0), (2, .ref hm0), (1, .ref hx0), (0, .ref b)]) : W p l e room_1 s m #[Value.ref b] below meth c H locs 69 1489 (lw_Z below #[Value.ref b] s) (F0 m 735 ls []) := by
  obtain ⟨hx, hb, hr, hml, hown, hts0, hX, hbl, hlocks, hgv⟩ := id C0
  have hb : c.code = cL_law := hb
  have hown : s.vm.findClass RL = some m.cls := hown
  have hts : ∀ w ∈ wsL_law, w.before #[Value.ref b] s = true := fun w h => hts0 w (wsL_law_in w h)
  have hA : ∀ q : Nat, s.heap.size ≤ q → (fun q : Nat => s.heap.size ≤ q) q := fun _ h => h
  have hbA : ¬ (fun q : Nat => s.heap.size ≤ q) b := Nat.not_le.mpr hbl
  refine lv_aload_n hx hb dL_law_735 rfl (lv_at hl 2 rfl) ?_
  refine ms_cVi (qc := (RX10, TX10, 12)) (wc := [(hx0, .inr (10, [.ref ((ux 0)), .ref ((ux 11)), .ref ((ux 20)), .ref ((ux 22)), .ref ((ux 24)), .int 0, .ref ((ux 31)), .ref ((ux 38)), .ref ((ux 41)), .ref ((ux 44)), .ref ((ux 47)), .ref ((ux 48))])), ((ux 11), .inr (2, [.int 0, .int 0, .int 0, .int 0, .int 0, .ref ((ux 12)), .ref ((ux 13)), .ref ((ux 14)), .ref ((ux 15)), .ref ((ux 16)), .ref ((ux 17)), .ref ((ux 18)), .ref ((ux 19))]))]) (wr := ms_WM cA hm0 um) ⟨hx, hb, hml, hown, hts⟩ hE (cX10_clash_1 l D cA hx0 ((ux 11)) ((ux 0)) ((ux 20)) ((ux 22)) ((ux 24)) ((ux 31)) ((ux 38)) ((ux 41)) ((ux 44)) ((ux 47)) ((ux 48)) ((ux 12)) ((ux 13)) ((ux 14)) ((ux 15)) ((ux 16)) ((ux 17)) ((ux 18)) ((ux 19))) (cwV 0 hts gL_law_X10_clash rfl rfl rfl (by decide +kernel) ⟨Nat.le_of_ble_eq_true rfl, Nat.le_of_ble_eq_true rfl⟩) hP hD hS hA [0, 12] [50, 51, 52, 53, 54, 55, 56, 57, 58, 59, 60, 61, 62, 63, 64, 65, 66, 67, 68] rfl rfl rfl rfl (by decide) 0 10 rfl rfl rfl hl.1 rfl (Nat.le_of_ble_eq_true rfl) dL_law_736 ⟨Nat.le_of_ble_eq_true rfl, Nat.le_of_ble_eq_true rfl⟩ (fun r2 u1 H locs hp hP hD hS => ?_)
  subst hp
  refine lv_aload_n hx hb dL_law_739 rfl (lv_at hl 1 rfl) ?_
  refine ms_cVi (qc := (RX11, TX11, 32)) (wc := [(hm0, .inr (11, [.ref ((um 16)), .ref ((um 0)), .ref ((um 14)), .ref ((um 1)), .int 0, .ref ((um 2)), .ref ((um 15)), .long 0, .ref ((um 3)), .int 0, .int (-1), .ref ((um 17)), .ref ((um 4)), .int 0, .ref ((um 5)), .int 0, .int 0, .int 0, .int 0, .int 0, .int 0, .int 0, .ref ((um 6)), .ref ((um 7)), .ref ((um 8)), .int 0, .ref ((um 9)), .ref ((um 10)), .ref ((um 11)), .ref ((um 12)), .int 0, .ref ((um 13))])), ((um 16), .inl (cA 0, 68, .inl ms_z))]) (wr := []) ⟨hx, hb, hml, hown, hts⟩ hE (cX11_clash_1 l D cA hm0 ((um 16)) ((um 0)) ((um 14)) ((um 1)) ((um 2)) ((um 15)) ((um 3)) ((um 17)) ((um 4)) ((um 5)) ((um 6)) ((um 7)) ((um 8)) ((um 9)) ((um 10)) ((um 11)) ((um 12)) ((um 13))) (cwV 0 hts gL_law_X11_clash rfl rfl rfl (by decide +kernel) ⟨Nat.le_of_ble_eq_true rfl, Nat.le_of_ble_eq_true rfl⟩) hP hD hS hA [0, 17] [] rfl rfl rfl rfl (by decide) 0 11 rfl rfl rfl hl.1 rfl (Nat.le_of_ble_eq_true rfl) dL_law_740 ⟨Nat.le_of_ble_eq_true rfl, Nat.le_of_ble_eq_true rfl⟩ (fun r4 u3 H locs hp hP hD hS => ?_)
  subst hp
  refine lv_icmp_eq (tgt := 988) hx hb dL_law_743 (by decide) (fun _ => ?_) (fun c => absurd (by decide) c)
  exact law_end C0 (Nat.le_of_ble_eq_true rfl) (Nat.le_of_ble_eq_true rfl) hS hl
set_option maxHeartbeats 4000000 in
set_option maxRecDepth 100000 in
theorem law_22 (l : Launch) (D : va_G) (cA : Nat → ClassId) (hx0 hm0 : Nat) (ux um : Nat → Nat) {p : Program} {e : Env} {s : State} {m : MethodId} {below : List Frame} {meth : Method} {c : Code} {b : Nat} {xs : Nat → Int32} {H : Heap} {locs : List Loc} {ls : Array Slot} (C0 : lw_At p s m meth c b 4 xs) (hE : ms_EV D cA s) (hP : va_P D vwCl (ms_WX cA hx0 ux ++ ms_WM cA hm0 um) H) (hD : va_D (fun q : Nat => s.heap.size ≤ q) (ms_WX cA hx0 ux ++ ms_WM cA hm0 um)) (hS : va_S (fun q : Nat => s.heap.size ≤ q) s.heap H locs) (hl : lv_has ls 4 [(3, .int 0), (2, .ref hm0), (1, .ref hx0), (0, .ref b)]) : W p l e room_1 s m #[Value.ref b] below meth c H locs 69 1489 (lw_Z below #[Value.ref b] s) (F0 m 748 ls []) := by
  obtain ⟨hx, hb, hr, hml, hown, hts0, hX, hbl, hlocks, hgv⟩ := id C0
  have hb : c.code = cL_law := hb
  have hown : s.vm.findClass RL = some m.cls := hown
  have hts : ∀ w ∈ wsL_law, w.before #[Value.ref b] s = true := fun w h => hts0 w (wsL_law_in w h)
  have hA : ∀ q : Nat, s.heap.size ≤ q → (fun q : Nat => s.heap.size ≤ q) q := fun _ h => h
  have hbA : ¬ (fun q : Nat => s.heap.size ≤ q) b := Nat.not_le.mpr hbl
  refine lv_aload_n hx hb dL_law_748 rfl (lv_at hl 2 rfl) ?_
  refine lv_aload_n hx hb dL_law_749 rfl (lv_at hl 3 rfl) ?_
  refine lv_iload_n hx hb dL_law_750 rfl (lv_at hl 0 rfl) ?_
  refine lv_iconst (v := 1) hx hb dL_law_751 (by decide) ?_
  refine lv_iadd hx hb dL_law_752 ?_
  refine ms_eqi (y := 1) (by decide) ?_
  refine ms_sld hx hb hX hbl hbA hS 1 rfl (by decide) (by decide) dL_law_753 ?_
  refine lv_aload_n hx hb dL_law_754 rfl (lv_at hl 3 rfl) ?_
  refine lv_iload_n hx hb dL_law_755 rfl (lv_at hl 0 rfl) ?_
  refine lv_iconst (v := 2) hx hb dL_law_756 (by decide) ?_
  refine lv_iadd hx hb dL_law_757 ?_
  refine ms_eqi (y := 2) (by decide) ?_
  refine ms_sld hx hb hX hbl hbA hS 2 rfl (by decide) (by decide) dL_law_758 ?_
  refine ms_cVi (qc := (RX10, TX10, 12)) (wc := [(hx0, .inr (10, [.ref ((ux 0)), .ref ((ux 11)), .ref ((ux 20)), .ref ((ux 22)), .ref ((ux 24)), .int 0, .ref ((ux 31)), .ref ((ux 38)), .ref ((ux 41)), .ref ((ux 44)), .ref ((ux 47)), .ref ((ux 48))])), ((ux 11), .inr (2, [.int 0, .int 0, .int 0, .int 0, .int 0, .ref ((ux 12)), .ref ((ux 13)), .ref ((ux 14)), .ref ((ux 15)), .ref ((ux 16)), .ref ((ux 17)), .ref ((ux 18)), .ref ((ux 19))]))]) (wr := ms_WM cA hm0 um) ⟨hx, hb, hml, hown, hts⟩ hE (cX10_rate_1 l D cA hx0 ((ux 11)) ((ux 0)) ((ux 20)) ((ux 22)) ((ux 24)) ((ux 31)) ((ux 38)) ((ux 41)) ((ux 44)) ((ux 47)) ((ux 48)) ((ux 12)) ((ux 13)) ((ux 14)) ((ux 15)) ((ux 16)) ((ux 17)) ((ux 18)) ((ux 19)) ((xs 1)) ((xs 2))) (cwV 2 hts gL_law_X10_rate rfl rfl rfl (by decide +kernel) ⟨Nat.le_of_ble_eq_true rfl, Nat.le_of_ble_eq_true rfl⟩) hP hD hS hA [0, 12] [50, 51, 52, 53, 54, 55, 56, 57, 58, 59, 60, 61, 62, 63, 64, 65, 66, 67, 68] rfl rfl rfl rfl (by decide) 0 10 rfl rfl rfl hl.1 rfl (Nat.le_of_ble_eq_true rfl) dL_law_759 ⟨Nat.le_of_ble_eq_true rfl, Nat.le_of_ble_eq_true rfl⟩ (fun r2 u1 H locs hp hP hD hS => ?_)
  subst hp
  refine lv_aload_n hx hb dL_law_762 rfl (lv_at hl 1 rfl) ?_
  refine lv_aload_n hx hb dL_law_763 rfl (lv_at hl 3 rfl) ?_
  refine lv_iload_n hx hb dL_law_764 rfl (lv_at hl 0 rfl) ?_
  refine lv_iconst (v := 1) hx hb dL_law_765 (by decide) ?_
  refine lv_iadd hx hb dL_law_766 ?_
  refine ms_eqi (y := 1) (by decide) ?_
  refine ms_sld hx hb hX hbl hbA hS 1 rfl (by decide) (by decide) dL_law_767 ?_
  refine lv_aload_n hx hb dL_law_768 rfl (lv_at hl 3 rfl) ?_
  refine lv_iload_n hx hb dL_law_769 rfl (lv_at hl 0 rfl) ?_
  refine lv_iconst (v := 2) hx hb dL_law_770 (by decide) ?_
  refine lv_iadd hx hb dL_law_771 ?_
  refine ms_eqi (y := 2) (by decide) ?_
  refine ms_sld hx hb hX hbl hbA hS 2 rfl (by decide) (by decide) dL_law_772 ?_
  refine ms_cVi (qc := (RX11, TX11, 32)) (wc := [(hm0, .inr (11, [.ref ((um 16)), .ref ((um 0)), .ref ((um 14)), .ref ((um 1)), .int 0, .ref ((um 2)), .ref ((um 15)), .long 0, .ref ((um 3)), .int 0, .int (-1), .ref ((um 17)), .ref ((um 4)), .int 0, .ref ((um 5)), .int 0, .int 0, .int 0, .int 0, .int 0, .int 0, .int 0, .ref ((um 6)), .ref ((um 7)), .ref ((um 8)), .int 0, .ref ((um 9)), .ref ((um 10)), .ref ((um 11)), .ref ((um 12)), .int 0, .ref ((um 13))])), ((um 16), .inl (cA 0, 68, .inl ms_z))]) (wr := []) ⟨hx, hb, hml, hown, hts⟩ hE (cX11_rate_1 l D cA hm0 ((um 16)) ((um 0)) ((um 14)) ((um 1)) ((um 2)) ((um 15)) ((um 3)) ((um 17)) ((um 4)) ((um 5)) ((um 6)) ((um 7)) ((um 8)) ((um 9)) ((um 10)) ((um 11)) ((um 12)) ((um 13)) ((xs 1)) ((xs 2))) (cwV 2 hts gL_law_X11_rate rfl rfl rfl (by decide +kernel) ⟨Nat.le_of_ble_eq_true rfl, Nat.le_of_ble_eq_true rfl⟩) hP hD hS hA [0, 17] [] rfl rfl rfl rfl (by decide) 0 11 rfl rfl rfl hl.1 rfl (Nat.le_of_ble_eq_true rfl) dL_law_773 ⟨Nat.le_of_ble_eq_true rfl, Nat.le_of_ble_eq_true rfl⟩ (fun r4 u3 H locs hp hP hD hS => ?_)
  subst hp
  refine lv_icmp_eq (tgt := 988) hx hb dL_law_776 (by decide) (fun _ => ?_) (fun c => absurd (by decide) c)
  exact law_end C0 (Nat.le_of_ble_eq_true rfl) (Nat.le_of_ble_eq_true rfl) hS hl
set_option maxHeartbeats 4000000 in
set_option maxRecDepth 100000 in
theorem law_23 (l : Launch) (D : va_G) (cA : Nat → ClassId) (hx0 hm0 : Nat) (ux um : Nat → Nat) {p : Program} {e : Env} {s : State} {m : MethodId} {below : List Frame} {meth : Method} {c : Code} {b : Nat} {xs : Nat → Int32} {H : Heap} {locs : List Loc} {ls : Array Slot} (C0 : lw_At p s m meth c b 4 xs) (hE : ms_EV D cA s) (hP : va_P D vwCl (ms_WX cA hx0 ux ++ ms_WM cA hm0 um) H) (hD : va_D (fun q : Nat => s.heap.size ≤ q) (ms_WX cA hx0 ux ++ ms_WM cA hm0 um)) (hS : va_S (fun q : Nat => s.heap.size ≤ q) s.heap H locs) (hl : lv_has ls 4 [(3, .int 0), (2, .ref hm0), (1, .ref hx0), (0, .ref b)]) : W p l e room_1 s m #[Value.ref b] below meth c H locs 69 1489 (lw_Z below #[Value.ref b] s) (F0 m 781 ls []) := by
  obtain ⟨hx, hb, hr, hml, hown, hts0, hX, hbl, hlocks, hgv⟩ := id C0
  have hb : c.code = cL_law := hb
  have hown : s.vm.findClass RL = some m.cls := hown
  have hts : ∀ w ∈ wsL_law, w.before #[Value.ref b] s = true := fun w h => hts0 w (wsL_law_in w h)
  have hA : ∀ q : Nat, s.heap.size ≤ q → (fun q : Nat => s.heap.size ≤ q) q := fun _ h => h
  have hbA : ¬ (fun q : Nat => s.heap.size ≤ q) b := Nat.not_le.mpr hbl
  by_cases g1_1 : (xs 1).toInt ≤ -1
  · skip
    refine lv_aload_n hx hb dL_law_781 rfl (lv_at hl 2 rfl) ?_
    refine lv_aload_n hx hb dL_law_782 rfl (lv_at hl 3 rfl) ?_
    refine lv_iload_n hx hb dL_law_783 rfl (lv_at hl 0 rfl) ?_
    refine lv_iconst (v := 1) hx hb dL_law_784 (by decide) ?_
    refine lv_iadd hx hb dL_law_785 ?_
    refine ms_eqi (y := 1) (by decide) ?_
    refine ms_sld hx hb hX hbl hbA hS 1 rfl (by decide) (by decide) dL_law_786 ?_
    refine lv_aload_n hx hb dL_law_787 rfl (lv_at hl 3 rfl) ?_
    refine lv_iload_n hx hb dL_law_788 rfl (lv_at hl 0 rfl) ?_
    refine lv_iconst (v := 2) hx hb dL_law_789 (by decide) ?_
    refine lv_iadd hx hb dL_law_790 ?_
    refine ms_eqi (y := 2) (by decide) ?_
    refine ms_sld hx hb hX hbl hbA hS 2 rfl (by decide) (by decide) dL_law_791 ?_
    refine ms_cVi (qc := (RX10, TX10, 12)) (wc := [(hx0, .inr (10, [.ref ((ux 0)), .ref ((ux 11)), .ref ((ux 20)), .ref ((ux 22)), .ref ((ux 24)), .int 0, .ref ((ux 31)), .ref ((ux 38)), .ref ((ux 41)), .ref ((ux 44)), .ref ((ux 47)), .ref ((ux 48))])), ((ux 11), .inr (2, [.int 0, .int 0, .int 0, .int 0, .int 0, .ref ((ux 12)), .ref ((ux 13)), .ref ((ux 14)), .ref ((ux 15)), .ref ((ux 16)), .ref ((ux 17)), .ref ((ux 18)), .ref ((ux 19))]))]) (wr := ms_WM cA hm0 um) ⟨hx, hb, hml, hown, hts⟩ hE (cX10_journey_1 l D cA hx0 ((ux 11)) ((ux 0)) ((ux 20)) ((ux 22)) ((ux 24)) ((ux 31)) ((ux 38)) ((ux 41)) ((ux 44)) ((ux 47)) ((ux 48)) ((ux 12)) ((ux 13)) ((ux 14)) ((ux 15)) ((ux 16)) ((ux 17)) ((ux 18)) ((ux 19)) ((xs 1)) ((xs 2)) (by omega)) (cwV 2 hts gL_law_X10_journey rfl rfl rfl (by decide +kernel) ⟨Nat.le_of_ble_eq_true rfl, Nat.le_of_ble_eq_true rfl⟩) hP hD hS hA [0, 12] [50, 51, 52, 53, 54, 55, 56, 57, 58, 59, 60, 61, 62, 63, 64, 65, 66, 67, 68] rfl rfl rfl rfl (by decide) 0 10 rfl rfl rfl hl.1 rfl (Nat.le_of_ble_eq_true rfl) dL_law_792 ⟨Nat.le_of_ble_eq_true rfl, Nat.le_of_ble_eq_true rfl⟩ (fun r3 u2 H locs hp hP hD hS => ?_)
    subst hp
    refine lv_aload_n hx hb dL_law_795 rfl (lv_at hl 1 rfl) ?_
    refine lv_aload_n hx hb dL_law_796 rfl (lv_at hl 3 rfl) ?_
    refine lv_iload_n hx hb dL_law_797 rfl (lv_at hl 0 rfl) ?_
    refine lv_iconst (v := 1) hx hb dL_law_798 (by decide) ?_
    refine lv_iadd hx hb dL_law_799 ?_
    refine ms_eqi (y := 1) (by decide) ?_
    refine ms_sld hx hb hX hbl hbA hS 1 rfl (by decide) (by decide) dL_law_800 ?_
    refine lv_aload_n hx hb dL_law_801 rfl (lv_at hl 3 rfl) ?_
    refine lv_iload_n hx hb dL_law_802 rfl (lv_at hl 0 rfl) ?_
    refine lv_iconst (v := 2) hx hb dL_law_803 (by decide) ?_
    refine lv_iadd hx hb dL_law_804 ?_
    refine ms_eqi (y := 2) (by decide) ?_
    refine ms_sld hx hb hX hbl hbA hS 2 rfl (by decide) (by decide) dL_law_805 ?_
    refine ms_cVi (qc := (RX11, TX11, 32)) (wc := [(hm0, .inr (11, [.ref ((um 16)), .ref ((um 0)), .ref ((um 14)), .ref ((um 1)), .int 0, .ref ((um 2)), .ref ((um 15)), .long 0, .ref ((um 3)), .int 0, .int (-1), .ref ((um 17)), .ref ((um 4)), .int 0, .ref ((um 5)), .int 0, .int 0, .int 0, .int 0, .int 0, .int 0, .int 0, .ref ((um 6)), .ref ((um 7)), .ref ((um 8)), .int 0, .ref ((um 9)), .ref ((um 10)), .ref ((um 11)), .ref ((um 12)), .int 0, .ref ((um 13))])), ((um 16), .inl (cA 0, 68, .inl ms_z))]) (wr := []) ⟨hx, hb, hml, hown, hts⟩ hE (cX11_journey_1 l D cA hm0 ((um 16)) ((um 0)) ((um 14)) ((um 1)) ((um 2)) ((um 15)) ((um 3)) ((um 17)) ((um 4)) ((um 5)) ((um 6)) ((um 7)) ((um 8)) ((um 9)) ((um 10)) ((um 11)) ((um 12)) ((um 13)) ((xs 1)) ((xs 2)) (by omega)) (cwV 2 hts gL_law_X11_journey rfl rfl rfl (by decide +kernel) ⟨Nat.le_of_ble_eq_true rfl, Nat.le_of_ble_eq_true rfl⟩) hP hD hS hA [0, 17] [] rfl rfl rfl rfl (by decide) 0 11 rfl rfl rfl hl.1 rfl (Nat.le_of_ble_eq_true rfl) dL_law_806 ⟨Nat.le_of_ble_eq_true rfl, Nat.le_of_ble_eq_true rfl⟩ (fun r5 u4 H locs hp hP hD hS => ?_)
    subst hp
    refine lv_icmp_eq (tgt := 988) hx hb dL_law_809 (by decide) (fun _ => ?_) (fun c => absurd (by decide) c)
    exact law_end C0 (Nat.le_of_ble_eq_true rfl) (Nat.le_of_ble_eq_true rfl) hS hl
  · skip
    by_cases g1_6 : (xs 1).toInt ≤ 0
    · skip
      have e1 : xs 1 = 0 := Int32.toInt_inj.mp (by have z : (0 : Int32).toInt = 0 := (by decide); omega)
      by_cases g2_7 : (xs 2).toInt ≤ -1
      · skip
        refine lv_aload_n hx hb dL_law_781 rfl (lv_at hl 2 rfl) ?_
        refine lv_aload_n hx hb dL_law_782 rfl (lv_at hl 3 rfl) ?_
        refine lv_iload_n hx hb dL_law_783 rfl (lv_at hl 0 rfl) ?_
        refine lv_iconst (v := 1) hx hb dL_law_784 (by decide) ?_
        refine lv_iadd hx hb dL_law_785 ?_
        refine ms_eqi (y := 1) (by decide) ?_
        refine ms_sld hx hb hX hbl hbA hS 1 rfl (by decide) (by decide) dL_law_786 ?_
        refine ms_eqi (y := 0) e1 ?_
        refine lv_aload_n hx hb dL_law_787 rfl (lv_at hl 3 rfl) ?_
        refine lv_iload_n hx hb dL_law_788 rfl (lv_at hl 0 rfl) ?_
        refine lv_iconst (v := 2) hx hb dL_law_789 (by decide) ?_
        refine lv_iadd hx hb dL_law_790 ?_
        refine ms_eqi (y := 2) (by decide) ?_
        refine ms_sld hx hb hX hbl hbA hS 2 rfl (by decide) (by decide) dL_law_791 ?_
        refine ms_cVi (qc := (RX10, TX10, 12)) (wc := [(hx0, .inr (10, [.ref ((ux 0)), .ref ((ux 11)), .ref ((ux 20)), .ref ((ux 22)), .ref ((ux 24)), .int 0, .ref ((ux 31)), .ref ((ux 38)), .ref ((ux 41)), .ref ((ux 44)), .ref ((ux 47)), .ref ((ux 48))])), ((ux 11), .inr (2, [.int 0, .int 0, .int 0, .int 0, .int 0, .ref ((ux 12)), .ref ((ux 13)), .ref ((ux 14)), .ref ((ux 15)), .ref ((ux 16)), .ref ((ux 17)), .ref ((ux 18)), .ref ((ux 19))]))]) (wr := ms_WM cA hm0 um) ⟨hx, hb, hml, hown, hts⟩ hE (cX10_journey_2 l D cA hx0 ((ux 11)) ((ux 0)) ((ux 20)) ((ux 22)) ((ux 24)) ((ux 31)) ((ux 38)) ((ux 41)) ((ux 44)) ((ux 47)) ((ux 48)) ((ux 12)) ((ux 13)) ((ux 14)) ((ux 15)) ((ux 16)) ((ux 17)) ((ux 18)) ((ux 19)) ((xs 2)) (by omega)) (cwV 2 hts gL_law_X10_journey rfl rfl rfl (by decide +kernel) ⟨Nat.le_of_ble_eq_true rfl, Nat.le_of_ble_eq_true rfl⟩) hP hD hS hA [0, 12] [50, 51, 52, 53, 54, 55, 56, 57, 58, 59, 60, 61, 62, 63, 64, 65, 66, 67, 68] rfl rfl rfl rfl (by decide) 0 10 rfl rfl rfl hl.1 rfl (Nat.le_of_ble_eq_true rfl) dL_law_792 ⟨Nat.le_of_ble_eq_true rfl, Nat.le_of_ble_eq_true rfl⟩ (fun r9 u8 H locs hp hP hD hS => ?_)
        subst hp
        refine lv_aload_n hx hb dL_law_795 rfl (lv_at hl 1 rfl) ?_
        refine lv_aload_n hx hb dL_law_796 rfl (lv_at hl 3 rfl) ?_
        refine lv_iload_n hx hb dL_law_797 rfl (lv_at hl 0 rfl) ?_
        refine lv_iconst (v := 1) hx hb dL_law_798 (by decide) ?_
        refine lv_iadd hx hb dL_law_799 ?_
        refine ms_eqi (y := 1) (by decide) ?_
        refine ms_sld hx hb hX hbl hbA hS 1 rfl (by decide) (by decide) dL_law_800 ?_
        refine ms_eqi (y := 0) e1 ?_
        refine lv_aload_n hx hb dL_law_801 rfl (lv_at hl 3 rfl) ?_
        refine lv_iload_n hx hb dL_law_802 rfl (lv_at hl 0 rfl) ?_
        refine lv_iconst (v := 2) hx hb dL_law_803 (by decide) ?_
        refine lv_iadd hx hb dL_law_804 ?_
        refine ms_eqi (y := 2) (by decide) ?_
        refine ms_sld hx hb hX hbl hbA hS 2 rfl (by decide) (by decide) dL_law_805 ?_
        refine ms_cVi (qc := (RX11, TX11, 32)) (wc := [(hm0, .inr (11, [.ref ((um 16)), .ref ((um 0)), .ref ((um 14)), .ref ((um 1)), .int 0, .ref ((um 2)), .ref ((um 15)), .long 0, .ref ((um 3)), .int 0, .int (-1), .ref ((um 17)), .ref ((um 4)), .int 0, .ref ((um 5)), .int 0, .int 0, .int 0, .int 0, .int 0, .int 0, .int 0, .ref ((um 6)), .ref ((um 7)), .ref ((um 8)), .int 0, .ref ((um 9)), .ref ((um 10)), .ref ((um 11)), .ref ((um 12)), .int 0, .ref ((um 13))])), ((um 16), .inl (cA 0, 68, .inl ms_z))]) (wr := []) ⟨hx, hb, hml, hown, hts⟩ hE (cX11_journey_2 l D cA hm0 ((um 16)) ((um 0)) ((um 14)) ((um 1)) ((um 2)) ((um 15)) ((um 3)) ((um 17)) ((um 4)) ((um 5)) ((um 6)) ((um 7)) ((um 8)) ((um 9)) ((um 10)) ((um 11)) ((um 12)) ((um 13)) ((xs 2)) (by omega)) (cwV 2 hts gL_law_X11_journey rfl rfl rfl (by decide +kernel) ⟨Nat.le_of_ble_eq_true rfl, Nat.le_of_ble_eq_true rfl⟩) hP hD hS hA [0, 17] [] rfl rfl rfl rfl (by decide) 0 11 rfl rfl rfl hl.1 rfl (Nat.le_of_ble_eq_true rfl) dL_law_806 ⟨Nat.le_of_ble_eq_true rfl, Nat.le_of_ble_eq_true rfl⟩ (fun r11 u10 H locs hp hP hD hS => ?_)
        subst hp
        refine lv_icmp_eq (tgt := 988) hx hb dL_law_809 (by decide) (fun _ => ?_) (fun c => absurd (by decide) c)
        exact law_end C0 (Nat.le_of_ble_eq_true rfl) (Nat.le_of_ble_eq_true rfl) hS hl
      · skip
        by_cases g2_12 : (xs 2).toInt ≤ 999
        · skip
          refine lv_aload_n hx hb dL_law_781 rfl (lv_at hl 2 rfl) ?_
          refine lv_aload_n hx hb dL_law_782 rfl (lv_at hl 3 rfl) ?_
          refine lv_iload_n hx hb dL_law_783 rfl (lv_at hl 0 rfl) ?_
          refine lv_iconst (v := 1) hx hb dL_law_784 (by decide) ?_
          refine lv_iadd hx hb dL_law_785 ?_
          refine ms_eqi (y := 1) (by decide) ?_
          refine ms_sld hx hb hX hbl hbA hS 1 rfl (by decide) (by decide) dL_law_786 ?_
          refine ms_eqi (y := 0) e1 ?_
          refine lv_aload_n hx hb dL_law_787 rfl (lv_at hl 3 rfl) ?_
          refine lv_iload_n hx hb dL_law_788 rfl (lv_at hl 0 rfl) ?_
          refine lv_iconst (v := 2) hx hb dL_law_789 (by decide) ?_
          refine lv_iadd hx hb dL_law_790 ?_
          refine ms_eqi (y := 2) (by decide) ?_
          refine ms_sld hx hb hX hbl hbA hS 2 rfl (by decide) (by decide) dL_law_791 ?_
          refine ms_cVi (qc := (RX10, TX10, 12)) (wc := [(hx0, .inr (10, [.ref ((ux 0)), .ref ((ux 11)), .ref ((ux 20)), .ref ((ux 22)), .ref ((ux 24)), .int 0, .ref ((ux 31)), .ref ((ux 38)), .ref ((ux 41)), .ref ((ux 44)), .ref ((ux 47)), .ref ((ux 48))])), ((ux 11), .inr (2, [.int 0, .int 0, .int 0, .int 0, .int 0, .ref ((ux 12)), .ref ((ux 13)), .ref ((ux 14)), .ref ((ux 15)), .ref ((ux 16)), .ref ((ux 17)), .ref ((ux 18)), .ref ((ux 19))])), ((ux 31), .inr (5, [.ref ((ux 32)), .ref ((ux 33)), .ref ((ux 34)), .ref ((ux 35)), .int 0, .ref ((ux 36)), .ref ((ux 37)), .int 0])), ((ux 33), .inl (cA 0, 8, .inl ms_z)), ((ux 34), .inl (cA 0, 8, .inl ms_z))]) (wr := ms_WM cA hm0 um) ⟨hx, hb, hml, hown, hts⟩ hE (cX10_journey_3 l D cA hx0 ((ux 11)) ((ux 31)) ((ux 33)) ((ux 34)) ((ux 0)) ((ux 20)) ((ux 22)) ((ux 24)) ((ux 38)) ((ux 41)) ((ux 44)) ((ux 47)) ((ux 48)) ((ux 12)) ((ux 13)) ((ux 14)) ((ux 15)) ((ux 16)) ((ux 17)) ((ux 18)) ((ux 19)) ((ux 32)) ((ux 35)) ((ux 36)) ((ux 37)) ((xs 2)) (by omega) (by omega)) (cwV 2 hts gL_law_X10_journey rfl rfl rfl (by decide +kernel) ⟨Nat.le_of_ble_eq_true rfl, Nat.le_of_ble_eq_true rfl⟩) hP hD hS hA [0, 12, 32, 34, 35] [50, 51, 52, 53, 54, 55, 56, 57, 58, 59, 60, 61, 62, 63, 64, 65, 66, 67, 68] rfl rfl rfl rfl (by decide) 0 10 rfl rfl rfl hl.1 rfl (Nat.le_of_ble_eq_true rfl) dL_law_792 ⟨Nat.le_of_ble_eq_true rfl, Nat.le_of_ble_eq_true rfl⟩ (fun r14 u13 H locs hp hP hD hS => ?_)
          subst hp
          refine lv_aload_n hx hb dL_law_795 rfl (lv_at hl 1 rfl) ?_
          refine lv_aload_n hx hb dL_law_796 rfl (lv_at hl 3 rfl) ?_
          refine lv_iload_n hx hb dL_law_797 rfl (lv_at hl 0 rfl) ?_
          refine lv_iconst (v := 1) hx hb dL_law_798 (by decide) ?_
          refine lv_iadd hx hb dL_law_799 ?_
          refine ms_eqi (y := 1) (by decide) ?_
          refine ms_sld hx hb hX hbl hbA hS 1 rfl (by decide) (by decide) dL_law_800 ?_
          refine ms_eqi (y := 0) e1 ?_
          refine lv_aload_n hx hb dL_law_801 rfl (lv_at hl 3 rfl) ?_
          refine lv_iload_n hx hb dL_law_802 rfl (lv_at hl 0 rfl) ?_
          refine lv_iconst (v := 2) hx hb dL_law_803 (by decide) ?_
          refine lv_iadd hx hb dL_law_804 ?_
          refine ms_eqi (y := 2) (by decide) ?_
          refine ms_sld hx hb hX hbl hbA hS 2 rfl (by decide) (by decide) dL_law_805 ?_
          refine ms_cVi (qc := (RX11, TX11, 32)) (wc := [(hm0, .inr (11, [.ref ((um 16)), .ref ((um 0)), .ref ((um 14)), .ref ((um 1)), .int 0, .ref ((um 2)), .ref ((um 15)), .long 0, .ref ((um 3)), .int 0, .int (-1), .ref ((um 17)), .ref ((um 4)), .int 0, .ref ((um 5)), .int 0, .int 0, .int 0, .int 0, .int 0, .int 0, .int 0, .ref ((um 6)), .ref ((um 7)), .ref ((um 8)), .int 0, .ref ((um 9)), .ref ((um 10)), .ref ((um 11)), .ref ((um 12)), .int 0, .ref ((um 13))])), ((um 16), .inl (cA 0, 68, .inl ms_z)), ((um 4), .inl (cA 0, 16, .inl ms_z))]) (wr := []) ⟨hx, hb, hml, hown, hts⟩ hE (cX11_journey_3 l D cA hm0 ((um 16)) ((um 4)) ((um 0)) ((um 14)) ((um 1)) ((um 2)) ((um 15)) ((um 3)) ((um 17)) ((um 5)) ((um 6)) ((um 7)) ((um 8)) ((um 9)) ((um 10)) ((um 11)) ((um 12)) ((um 13)) ((xs 2)) (by omega) (by omega)) (cwV 2 hts gL_law_X11_journey rfl rfl rfl (by decide +kernel) ⟨Nat.le_of_ble_eq_true rfl, Nat.le_of_ble_eq_true rfl⟩) hP hD hS hA [0, 17, 5] [] rfl rfl rfl rfl (by decide) 0 11 rfl rfl rfl hl.1 rfl (Nat.le_of_ble_eq_true rfl) dL_law_806 ⟨Nat.le_of_ble_eq_true rfl, Nat.le_of_ble_eq_true rfl⟩ (fun r16 u15 H locs hp hP hD hS => ?_)
          subst hp
          refine lv_icmp_eq (tgt := 988) hx hb dL_law_809 (by decide) (fun _ => ?_) (fun c => absurd (by decide) c)
          exact law_end C0 (Nat.le_of_ble_eq_true rfl) (Nat.le_of_ble_eq_true rfl) hS hl
        · skip
          refine lv_aload_n hx hb dL_law_781 rfl (lv_at hl 2 rfl) ?_
          refine lv_aload_n hx hb dL_law_782 rfl (lv_at hl 3 rfl) ?_
          refine lv_iload_n hx hb dL_law_783 rfl (lv_at hl 0 rfl) ?_
          refine lv_iconst (v := 1) hx hb dL_law_784 (by decide) ?_
          refine lv_iadd hx hb dL_law_785 ?_
          refine ms_eqi (y := 1) (by decide) ?_
          refine ms_sld hx hb hX hbl hbA hS 1 rfl (by decide) (by decide) dL_law_786 ?_
          refine ms_eqi (y := 0) e1 ?_
          refine lv_aload_n hx hb dL_law_787 rfl (lv_at hl 3 rfl) ?_
          refine lv_iload_n hx hb dL_law_788 rfl (lv_at hl 0 rfl) ?_
          refine lv_iconst (v := 2) hx hb dL_law_789 (by decide) ?_
          refine lv_iadd hx hb dL_law_790 ?_
          refine ms_eqi (y := 2) (by decide) ?_
          refine ms_sld hx hb hX hbl hbA hS 2 rfl (by decide) (by decide) dL_law_791 ?_
          refine ms_cVi (qc := (RX10, TX10, 12)) (wc := [(hx0, .inr (10, [.ref ((ux 0)), .ref ((ux 11)), .ref ((ux 20)), .ref ((ux 22)), .ref ((ux 24)), .int 0, .ref ((ux 31)), .ref ((ux 38)), .ref ((ux 41)), .ref ((ux 44)), .ref ((ux 47)), .ref ((ux 48))])), ((ux 11), .inr (2, [.int 0, .int 0, .int 0, .int 0, .int 0, .ref ((ux 12)), .ref ((ux 13)), .ref ((ux 14)), .ref ((ux 15)), .ref ((ux 16)), .ref ((ux 17)), .ref ((ux 18)), .ref ((ux 19))]))]) (wr := ms_WM cA hm0 um) ⟨hx, hb, hml, hown, hts⟩ hE (cX10_journey_4 l D cA hx0 ((ux 11)) ((ux 0)) ((ux 20)) ((ux 22)) ((ux 24)) ((ux 31)) ((ux 38)) ((ux 41)) ((ux 44)) ((ux 47)) ((ux 48)) ((ux 12)) ((ux 13)) ((ux 14)) ((ux 15)) ((ux 16)) ((ux 17)) ((ux 18)) ((ux 19)) ((xs 2)) (by omega)) (cwV 2 hts gL_law_X10_journey rfl rfl rfl (by decide +kernel) ⟨Nat.le_of_ble_eq_true rfl, Nat.le_of_ble_eq_true rfl⟩) hP hD hS hA [0, 12] [50, 51, 52, 53, 54, 55, 56, 57, 58, 59, 60, 61, 62, 63, 64, 65, 66, 67, 68] rfl rfl rfl rfl (by decide) 0 10 rfl rfl rfl hl.1 rfl (Nat.le_of_ble_eq_true rfl) dL_law_792 ⟨Nat.le_of_ble_eq_true rfl, Nat.le_of_ble_eq_true rfl⟩ (fun r18 u17 H locs hp hP hD hS => ?_)
          subst hp
          refine lv_aload_n hx hb dL_law_795 rfl (lv_at hl 1 rfl) ?_
          refine lv_aload_n hx hb dL_law_796 rfl (lv_at hl 3 rfl) ?_
          refine lv_iload_n hx hb dL_law_797 rfl (lv_at hl 0 rfl) ?_
          refine lv_iconst (v := 1) hx hb dL_law_798 (by decide) ?_
          refine lv_iadd hx hb dL_law_799 ?_
          refine ms_eqi (y := 1) (by decide) ?_
          refine ms_sld hx hb hX hbl hbA hS 1 rfl (by decide) (by decide) dL_law_800 ?_
          refine ms_eqi (y := 0) e1 ?_
          refine lv_aload_n hx hb dL_law_801 rfl (lv_at hl 3 rfl) ?_
          refine lv_iload_n hx hb dL_law_802 rfl (lv_at hl 0 rfl) ?_
          refine lv_iconst (v := 2) hx hb dL_law_803 (by decide) ?_
          refine lv_iadd hx hb dL_law_804 ?_
          refine ms_eqi (y := 2) (by decide) ?_
          refine ms_sld hx hb hX hbl hbA hS 2 rfl (by decide) (by decide) dL_law_805 ?_
          refine ms_cVi (qc := (RX11, TX11, 32)) (wc := [(hm0, .inr (11, [.ref ((um 16)), .ref ((um 0)), .ref ((um 14)), .ref ((um 1)), .int 0, .ref ((um 2)), .ref ((um 15)), .long 0, .ref ((um 3)), .int 0, .int (-1), .ref ((um 17)), .ref ((um 4)), .int 0, .ref ((um 5)), .int 0, .int 0, .int 0, .int 0, .int 0, .int 0, .int 0, .ref ((um 6)), .ref ((um 7)), .ref ((um 8)), .int 0, .ref ((um 9)), .ref ((um 10)), .ref ((um 11)), .ref ((um 12)), .int 0, .ref ((um 13))])), ((um 16), .inl (cA 0, 68, .inl ms_z))]) (wr := []) ⟨hx, hb, hml, hown, hts⟩ hE (cX11_journey_4 l D cA hm0 ((um 16)) ((um 0)) ((um 14)) ((um 1)) ((um 2)) ((um 15)) ((um 3)) ((um 17)) ((um 4)) ((um 5)) ((um 6)) ((um 7)) ((um 8)) ((um 9)) ((um 10)) ((um 11)) ((um 12)) ((um 13)) ((xs 2)) (by omega)) (cwV 2 hts gL_law_X11_journey rfl rfl rfl (by decide +kernel) ⟨Nat.le_of_ble_eq_true rfl, Nat.le_of_ble_eq_true rfl⟩) hP hD hS hA [0, 17] [] rfl rfl rfl rfl (by decide) 0 11 rfl rfl rfl hl.1 rfl (Nat.le_of_ble_eq_true rfl) dL_law_806 ⟨Nat.le_of_ble_eq_true rfl, Nat.le_of_ble_eq_true rfl⟩ (fun r20 u19 H locs hp hP hD hS => ?_)
          subst hp
          refine lv_icmp_eq (tgt := 988) hx hb dL_law_809 (by decide) (fun _ => ?_) (fun c => absurd (by decide) c)
          exact law_end C0 (Nat.le_of_ble_eq_true rfl) (Nat.le_of_ble_eq_true rfl) hS hl
    · skip
      refine lv_aload_n hx hb dL_law_781 rfl (lv_at hl 2 rfl) ?_
      refine lv_aload_n hx hb dL_law_782 rfl (lv_at hl 3 rfl) ?_
      refine lv_iload_n hx hb dL_law_783 rfl (lv_at hl 0 rfl) ?_
      refine lv_iconst (v := 1) hx hb dL_law_784 (by decide) ?_
      refine lv_iadd hx hb dL_law_785 ?_
      refine ms_eqi (y := 1) (by decide) ?_
      refine ms_sld hx hb hX hbl hbA hS 1 rfl (by decide) (by decide) dL_law_786 ?_
      refine lv_aload_n hx hb dL_law_787 rfl (lv_at hl 3 rfl) ?_
      refine lv_iload_n hx hb dL_law_788 rfl (lv_at hl 0 rfl) ?_
      refine lv_iconst (v := 2) hx hb dL_law_789 (by decide) ?_
      refine lv_iadd hx hb dL_law_790 ?_
      refine ms_eqi (y := 2) (by decide) ?_
      refine ms_sld hx hb hX hbl hbA hS 2 rfl (by decide) (by decide) dL_law_791 ?_
      refine ms_cVi (qc := (RX10, TX10, 12)) (wc := [(hx0, .inr (10, [.ref ((ux 0)), .ref ((ux 11)), .ref ((ux 20)), .ref ((ux 22)), .ref ((ux 24)), .int 0, .ref ((ux 31)), .ref ((ux 38)), .ref ((ux 41)), .ref ((ux 44)), .ref ((ux 47)), .ref ((ux 48))])), ((ux 11), .inr (2, [.int 0, .int 0, .int 0, .int 0, .int 0, .ref ((ux 12)), .ref ((ux 13)), .ref ((ux 14)), .ref ((ux 15)), .ref ((ux 16)), .ref ((ux 17)), .ref ((ux 18)), .ref ((ux 19))]))]) (wr := ms_WM cA hm0 um) ⟨hx, hb, hml, hown, hts⟩ hE (cX10_journey_5 l D cA hx0 ((ux 11)) ((ux 0)) ((ux 20)) ((ux 22)) ((ux 24)) ((ux 31)) ((ux 38)) ((ux 41)) ((ux 44)) ((ux 47)) ((ux 48)) ((ux 12)) ((ux 13)) ((ux 14)) ((ux 15)) ((ux 16)) ((ux 17)) ((ux 18)) ((ux 19)) ((xs 1)) ((xs 2)) (by omega)) (cwV 2 hts gL_law_X10_journey rfl rfl rfl (by decide +kernel) ⟨Nat.le_of_ble_eq_true rfl, Nat.le_of_ble_eq_true rfl⟩) hP hD hS hA [0, 12] [50, 51, 52, 53, 54, 55, 56, 57, 58, 59, 60, 61, 62, 63, 64, 65, 66, 67, 68] rfl rfl rfl rfl (by decide) 0 10 rfl rfl rfl hl.1 rfl (Nat.le_of_ble_eq_true rfl) dL_law_792 ⟨Nat.le_of_ble_eq_true rfl, Nat.le_of_ble_eq_true rfl⟩ (fun r22 u21 H locs hp hP hD hS => ?_)
      subst hp
      refine lv_aload_n hx hb dL_law_795 rfl (lv_at hl 1 rfl) ?_
      refine lv_aload_n hx hb dL_law_796 rfl (lv_at hl 3 rfl) ?_
      refine lv_iload_n hx hb dL_law_797 rfl (lv_at hl 0 rfl) ?_
      refine lv_iconst (v := 1) hx hb dL_law_798 (by decide) ?_
      refine lv_iadd hx hb dL_law_799 ?_
      refine ms_eqi (y := 1) (by decide) ?_
      refine ms_sld hx hb hX hbl hbA hS 1 rfl (by decide) (by decide) dL_law_800 ?_
      refine lv_aload_n hx hb dL_law_801 rfl (lv_at hl 3 rfl) ?_
      refine lv_iload_n hx hb dL_law_802 rfl (lv_at hl 0 rfl) ?_
      refine lv_iconst (v := 2) hx hb dL_law_803 (by decide) ?_
      refine lv_iadd hx hb dL_law_804 ?_
      refine ms_eqi (y := 2) (by decide) ?_
      refine ms_sld hx hb hX hbl hbA hS 2 rfl (by decide) (by decide) dL_law_805 ?_
      refine ms_cVi (qc := (RX11, TX11, 32)) (wc := [(hm0, .inr (11, [.ref ((um 16)), .ref ((um 0)), .ref ((um 14)), .ref ((um 1)), .int 0, .ref ((um 2)), .ref ((um 15)), .long 0, .ref ((um 3)), .int 0, .int (-1), .ref ((um 17)), .ref ((um 4)), .int 0, .ref ((um 5)), .int 0, .int 0, .int 0, .int 0, .int 0, .int 0, .int 0, .ref ((um 6)), .ref ((um 7)), .ref ((um 8)), .int 0, .ref ((um 9)), .ref ((um 10)), .ref ((um 11)), .ref ((um 12)), .int 0, .ref ((um 13))])), ((um 16), .inl (cA 0, 68, .inl ms_z))]) (wr := []) ⟨hx, hb, hml, hown, hts⟩ hE (cX11_journey_5 l D cA hm0 ((um 16)) ((um 0)) ((um 14)) ((um 1)) ((um 2)) ((um 15)) ((um 3)) ((um 17)) ((um 4)) ((um 5)) ((um 6)) ((um 7)) ((um 8)) ((um 9)) ((um 10)) ((um 11)) ((um 12)) ((um 13)) ((xs 1)) ((xs 2)) (by omega)) (cwV 2 hts gL_law_X11_journey rfl rfl rfl (by decide +kernel) ⟨Nat.le_of_ble_eq_true rfl, Nat.le_of_ble_eq_true rfl⟩) hP hD hS hA [0, 17] [] rfl rfl rfl rfl (by decide) 0 11 rfl rfl rfl hl.1 rfl (Nat.le_of_ble_eq_true rfl) dL_law_806 ⟨Nat.le_of_ble_eq_true rfl, Nat.le_of_ble_eq_true rfl⟩ (fun r24 u23 H locs hp hP hD hS => ?_)
      subst hp
      refine lv_icmp_eq (tgt := 988) hx hb dL_law_809 (by decide) (fun _ => ?_) (fun c => absurd (by decide) c)
      exact law_end C0 (Nat.le_of_ble_eq_true rfl) (Nat.le_of_ble_eq_true rfl) hS hl
