set_option maxHeartbeats 4000000 in
set_option maxRecDepth 100000 in
theorem law_8 (l : Launch) (D : va_G) (cA : Nat → ClassId) (hx0 hm0 : Nat) (ux um : Nat → Nat) {p : Program} {e : Env} {s : State} {m : MethodId} {below : List Frame} {meth : Method} {c : Code} {b : Nat} {xs : Nat → Int32} {H : Heap} {locs : List Loc} {ls : Array Slot} (C0 : lw_At p s m meth c b 4 xs) (hE : ms_EV D cA s) (hP : va_P D vwCl (ms_WX cA hx0 ux ++ ms_WM cA hm0 um) H) (hD : va_D (fun q : Nat => s.heap.size ≤ q) (ms_WX cA hx0 ux ++ ms_WM cA hm0 um)) (hS : va_S (fun q : Nat => s.heap.size ≤ q) s.heap H locs) (hl : lv_has ls 4 [(3, .int 0), (2, .ref hm0), (1, .ref hx0), (0, .ref b)]) : W p l e room_1 s m #[Value.ref b] below meth c H locs 69 1489 (lw_Z below #[Value.ref b] s) (F0 m 370 ls []) := by
  obtain ⟨hx, hb, hr, hml, hown, hts0, hX, hbl, hlocks, hgv⟩ := id C0
  have hb : c.code = cL_law := hb
  have hown : s.vm.findClass RL = some m.cls := hown
  have hts : ∀ w ∈ wsL_law, w.before #[Value.ref b] s = true := fun w h => hts0 w (wsL_law_in w h)
  have hA : ∀ q : Nat, s.heap.size ≤ q → (fun q : Nat => s.heap.size ≤ q) q := fun _ h => h
  have hbA : ¬ (fun q : Nat => s.heap.size ≤ q) b := Nat.not_le.mpr hbl
  refine lv_aload_n hx hb dL_law_370 rfl (lv_at hl 2 rfl) ?_
  refine ms_cVi (qc := (RX10, TX10, 12)) (wc := [(hx0, .inr (10, [.ref ((ux 0)), .ref ((ux 11)), .ref ((ux 20)), .ref ((ux 22)), .ref ((ux 24)), .int 0, .ref ((ux 31)), .ref ((ux 38)), .ref ((ux 41)), .ref ((ux 44)), .ref ((ux 47)), .ref ((ux 48))])), ((ux 11), .inr (2, [.int 0, .int 0, .int 0, .int 0, .int 0, .ref ((ux 12)), .ref ((ux 13)), .ref ((ux 14)), .ref ((ux 15)), .ref ((ux 16)), .ref ((ux 17)), .ref ((ux 18)), .ref ((ux 19))]))]) (wr := ms_WM cA hm0 um) ⟨hx, hb, hml, hown, hts⟩ hE (cX10_strike_1 l D cA hx0 ((ux 11)) ((ux 0)) ((ux 20)) ((ux 22)) ((ux 24)) ((ux 31)) ((ux 38)) ((ux 41)) ((ux 44)) ((ux 47)) ((ux 48)) ((ux 12)) ((ux 13)) ((ux 14)) ((ux 15)) ((ux 16)) ((ux 17)) ((ux 18)) ((ux 19))) (cwV 0 hts gL_law_X10_strike rfl rfl rfl (by decide +kernel) ⟨Nat.le_of_ble_eq_true rfl, Nat.le_of_ble_eq_true rfl⟩) hP hD hS hA [0, 12] [50, 51, 52, 53, 54, 55, 56, 57, 58, 59, 60, 61, 62, 63, 64, 65, 66, 67, 68] rfl rfl rfl rfl (by decide) 0 10 rfl rfl rfl hl.1 rfl (Nat.le_of_ble_eq_true rfl) dL_law_371 ⟨Nat.le_of_ble_eq_true rfl, Nat.le_of_ble_eq_true rfl⟩ (fun r2 u1 H locs hp hP hD hS => ?_)
  subst hp
  refine lv_aload_n hx hb dL_law_374 rfl (lv_at hl 1 rfl) ?_
  refine ms_cVi (qc := (RX11, TX11, 32)) (wc := [(hm0, .inr (11, [.ref ((um 16)), .ref ((um 0)), .ref ((um 14)), .ref ((um 1)), .int 0, .ref ((um 2)), .ref ((um 15)), .long 0, .ref ((um 3)), .int 0, .int (-1), .ref ((um 17)), .ref ((um 4)), .int 0, .ref ((um 5)), .int 0, .int 0, .int 0, .int 0, .int 0, .int 0, .int 0, .ref ((um 6)), .ref ((um 7)), .ref ((um 8)), .int 0, .ref ((um 9)), .ref ((um 10)), .ref ((um 11)), .ref ((um 12)), .int 0, .ref ((um 13))])), ((um 16), .inl (cA 0, 68, .inl ms_z))]) (wr := []) ⟨hx, hb, hml, hown, hts⟩ hE (cX11_strike_1 l D cA hm0 ((um 16)) ((um 0)) ((um 14)) ((um 1)) ((um 2)) ((um 15)) ((um 3)) ((um 17)) ((um 4)) ((um 5)) ((um 6)) ((um 7)) ((um 8)) ((um 9)) ((um 10)) ((um 11)) ((um 12)) ((um 13))) (cwV 0 hts gL_law_X11_strike rfl rfl rfl (by decide +kernel) ⟨Nat.le_of_ble_eq_true rfl, Nat.le_of_ble_eq_true rfl⟩) hP hD hS hA [0, 17] [] rfl rfl rfl rfl (by decide) 0 11 rfl rfl rfl hl.1 rfl (Nat.le_of_ble_eq_true rfl) dL_law_375 ⟨Nat.le_of_ble_eq_true rfl, Nat.le_of_ble_eq_true rfl⟩ (fun r4 u3 H locs hp hP hD hS => ?_)
  subst hp
  refine lv_icmp_eq (tgt := 988) hx hb dL_law_378 (by decide) (fun _ => ?_) (fun c => absurd (by decide) c)
  exact law_end C0 (Nat.le_of_ble_eq_true rfl) (Nat.le_of_ble_eq_true rfl) hS hl
set_option maxHeartbeats 4000000 in
set_option maxRecDepth 100000 in
theorem law_9 (l : Launch) (D : va_G) (cA : Nat → ClassId) (hx0 hm0 : Nat) (ux um : Nat → Nat) {p : Program} {e : Env} {s : State} {m : MethodId} {below : List Frame} {meth : Method} {c : Code} {b : Nat} {xs : Nat → Int32} {H : Heap} {locs : List Loc} {ls : Array Slot} (C0 : lw_At p s m meth c b 4 xs) (hE : ms_EV D cA s) (hP : va_P D vwCl (ms_WX cA hx0 ux ++ ms_WM cA hm0 um) H) (hD : va_D (fun q : Nat => s.heap.size ≤ q) (ms_WX cA hx0 ux ++ ms_WM cA hm0 um)) (hS : va_S (fun q : Nat => s.heap.size ≤ q) s.heap H locs) (hl : lv_has ls 4 [(3, .int 0), (2, .ref hm0), (1, .ref hx0), (0, .ref b)]) : W p l e room_1 s m #[Value.ref b] below meth c H locs 69 1489 (lw_Z below #[Value.ref b] s) (F0 m 383 ls []) := by
  obtain ⟨hx, hb, hr, hml, hown, hts0, hX, hbl, hlocks, hgv⟩ := id C0
  have hb : c.code = cL_law := hb
  have hown : s.vm.findClass RL = some m.cls := hown
  have hts : ∀ w ∈ wsL_law, w.before #[Value.ref b] s = true := fun w h => hts0 w (wsL_law_in w h)
  have hA : ∀ q : Nat, s.heap.size ≤ q → (fun q : Nat => s.heap.size ≤ q) q := fun _ h => h
  have hbA : ¬ (fun q : Nat => s.heap.size ≤ q) b := Nat.not_le.mpr hbl
  by_cases g1_1 : (xs 1).toInt ≤ 0
  · skip
    refine lv_aload_n hx hb dL_law_383 rfl (lv_at hl 2 rfl) ?_
    refine lv_aload_n hx hb dL_law_384 rfl (lv_at hl 3 rfl) ?_
    refine lv_iload_n hx hb dL_law_385 rfl (lv_at hl 0 rfl) ?_
    refine lv_iconst (v := 1) hx hb dL_law_386 (by decide) ?_
    refine lv_iadd hx hb dL_law_387 ?_
    refine ms_eqi (y := 1) (by decide) ?_
    refine ms_sld hx hb hX hbl hbA hS 1 rfl (by decide) (by decide) dL_law_388 ?_
    refine ms_cVi (qc := (RX10, TX10, 12)) (wc := [(hx0, .inr (10, [.ref ((ux 0)), .ref ((ux 11)), .ref ((ux 20)), .ref ((ux 22)), .ref ((ux 24)), .int 0, .ref ((ux 31)), .ref ((ux 38)), .ref ((ux 41)), .ref ((ux 44)), .ref ((ux 47)), .ref ((ux 48))]))]) (wr := ms_WM cA hm0 um) ⟨hx, hb, hml, hown, hts⟩ hE (cX10_drift_1 l D cA hx0 ((ux 0)) ((ux 11)) ((ux 20)) ((ux 22)) ((ux 24)) ((ux 31)) ((ux 38)) ((ux 41)) ((ux 44)) ((ux 47)) ((ux 48)) ((xs 1)) (by omega)) (cwV 1 hts gL_law_X10_drift rfl rfl rfl (by decide +kernel) ⟨Nat.le_of_ble_eq_true rfl, Nat.le_of_ble_eq_true rfl⟩) hP hD hS hA [0] [50, 51, 52, 53, 54, 55, 56, 57, 58, 59, 60, 61, 62, 63, 64, 65, 66, 67, 68] rfl rfl rfl rfl (by decide) 0 10 rfl rfl rfl hl.1 rfl (Nat.le_of_ble_eq_true rfl) dL_law_389 ⟨Nat.le_of_ble_eq_true rfl, Nat.le_of_ble_eq_true rfl⟩ (fun r3 u2 H locs hp hP hD hS => ?_)
    subst hp
    refine lv_aload_n hx hb dL_law_392 rfl (lv_at hl 1 rfl) ?_
    refine lv_aload_n hx hb dL_law_393 rfl (lv_at hl 3 rfl) ?_
    refine lv_iload_n hx hb dL_law_394 rfl (lv_at hl 0 rfl) ?_
    refine lv_iconst (v := 1) hx hb dL_law_395 (by decide) ?_
    refine lv_iadd hx hb dL_law_396 ?_
    refine ms_eqi (y := 1) (by decide) ?_
    refine ms_sld hx hb hX hbl hbA hS 1 rfl (by decide) (by decide) dL_law_397 ?_
    refine ms_cVi (qc := (RX11, TX11, 32)) (wc := [(hm0, .inr (11, [.ref ((um 16)), .ref ((um 0)), .ref ((um 14)), .ref ((um 1)), .int 0, .ref ((um 2)), .ref ((um 15)), .long 0, .ref ((um 3)), .int 0, .int (-1), .ref ((um 17)), .ref ((um 4)), .int 0, .ref ((um 5)), .int 0, .int 0, .int 0, .int 0, .int 0, .int 0, .int 0, .ref ((um 6)), .ref ((um 7)), .ref ((um 8)), .int 0, .ref ((um 9)), .ref ((um 10)), .ref ((um 11)), .ref ((um 12)), .int 0, .ref ((um 13))]))]) (wr := []) ⟨hx, hb, hml, hown, hts⟩ hE (cX11_drift_1 l D cA hm0 ((um 16)) ((um 0)) ((um 14)) ((um 1)) ((um 2)) ((um 15)) ((um 3)) ((um 17)) ((um 4)) ((um 5)) ((um 6)) ((um 7)) ((um 8)) ((um 9)) ((um 10)) ((um 11)) ((um 12)) ((um 13)) ((xs 1)) (by omega)) (cwV 1 hts gL_law_X11_drift rfl rfl rfl (by decide +kernel) ⟨Nat.le_of_ble_eq_true rfl, Nat.le_of_ble_eq_true rfl⟩) hP hD hS hA [0] [] rfl rfl rfl rfl (by decide) 0 11 rfl rfl rfl hl.1 rfl (Nat.le_of_ble_eq_true rfl) dL_law_398 ⟨Nat.le_of_ble_eq_true rfl, Nat.le_of_ble_eq_true rfl⟩ (fun r5 u4 H locs hp hP hD hS => ?_)
    subst hp
    refine lv_icmp_eq (tgt := 988) hx hb dL_law_401 (by decide) (fun _ => ?_) (fun c => absurd (by decide) c)
    exact law_end C0 (Nat.le_of_ble_eq_true rfl) (Nat.le_of_ble_eq_true rfl) hS hl
  · skip
    by_cases g1_6 : (xs 1).toInt ≤ 99
    · skip
      refine lv_aload_n hx hb dL_law_383 rfl (lv_at hl 2 rfl) ?_
      refine lv_aload_n hx hb dL_law_384 rfl (lv_at hl 3 rfl) ?_
      refine lv_iload_n hx hb dL_law_385 rfl (lv_at hl 0 rfl) ?_
      refine lv_iconst (v := 1) hx hb dL_law_386 (by decide) ?_
      refine lv_iadd hx hb dL_law_387 ?_
      refine ms_eqi (y := 1) (by decide) ?_
      refine ms_sld hx hb hX hbl hbA hS 1 rfl (by decide) (by decide) dL_law_388 ?_
      refine ms_cVi (qc := (RX10, TX10, 12)) (wc := [(hx0, .inr (10, [.ref ((ux 0)), .ref ((ux 11)), .ref ((ux 20)), .ref ((ux 22)), .ref ((ux 24)), .int 0, .ref ((ux 31)), .ref ((ux 38)), .ref ((ux 41)), .ref ((ux 44)), .ref ((ux 47)), .ref ((ux 48))])), ((ux 11), .inr (2, [.int 0, .int 0, .int 0, .int 0, .int 0, .ref ((ux 12)), .ref ((ux 13)), .ref ((ux 14)), .ref ((ux 15)), .ref ((ux 16)), .ref ((ux 17)), .ref ((ux 18)), .ref ((ux 19))]))]) (wr := ms_WM cA hm0 um) ⟨hx, hb, hml, hown, hts⟩ hE (cX10_drift_2 l D cA hx0 ((ux 11)) ((ux 0)) ((ux 20)) ((ux 22)) ((ux 24)) ((ux 31)) ((ux 38)) ((ux 41)) ((ux 44)) ((ux 47)) ((ux 48)) ((ux 12)) ((ux 13)) ((ux 14)) ((ux 15)) ((ux 16)) ((ux 17)) ((ux 18)) ((ux 19)) ((xs 1)) (by omega) (by omega)) (cwV 1 hts gL_law_X10_drift rfl rfl rfl (by decide +kernel) ⟨Nat.le_of_ble_eq_true rfl, Nat.le_of_ble_eq_true rfl⟩) hP hD hS hA [0, 12] [50, 51, 52, 53, 54, 55, 56, 57, 58, 59, 60, 61, 62, 63, 64, 65, 66, 67, 68] rfl rfl rfl rfl (by decide) 0 10 rfl rfl rfl hl.1 rfl (Nat.le_of_ble_eq_true rfl) dL_law_389 ⟨Nat.le_of_ble_eq_true rfl, Nat.le_of_ble_eq_true rfl⟩ (fun r8 u7 H locs hp hP hD hS => ?_)
      subst hp
      refine lv_aload_n hx hb dL_law_392 rfl (lv_at hl 1 rfl) ?_
      refine lv_aload_n hx hb dL_law_393 rfl (lv_at hl 3 rfl) ?_
      refine lv_iload_n hx hb dL_law_394 rfl (lv_at hl 0 rfl) ?_
      refine lv_iconst (v := 1) hx hb dL_law_395 (by decide) ?_
      refine lv_iadd hx hb dL_law_396 ?_
      refine ms_eqi (y := 1) (by decide) ?_
      refine ms_sld hx hb hX hbl hbA hS 1 rfl (by decide) (by decide) dL_law_397 ?_
      refine ms_cVi (qc := (RX11, TX11, 32)) (wc := [(hm0, .inr (11, [.ref ((um 16)), .ref ((um 0)), .ref ((um 14)), .ref ((um 1)), .int 0, .ref ((um 2)), .ref ((um 15)), .long 0, .ref ((um 3)), .int 0, .int (-1), .ref ((um 17)), .ref ((um 4)), .int 0, .ref ((um 5)), .int 0, .int 0, .int 0, .int 0, .int 0, .int 0, .int 0, .ref ((um 6)), .ref ((um 7)), .ref ((um 8)), .int 0, .ref ((um 9)), .ref ((um 10)), .ref ((um 11)), .ref ((um 12)), .int 0, .ref ((um 13))])), ((um 16), .inl (cA 0, 68, .inl ms_z))]) (wr := []) ⟨hx, hb, hml, hown, hts⟩ hE (cX11_drift_2 l D cA hm0 ((um 16)) ((um 0)) ((um 14)) ((um 1)) ((um 2)) ((um 15)) ((um 3)) ((um 17)) ((um 4)) ((um 5)) ((um 6)) ((um 7)) ((um 8)) ((um 9)) ((um 10)) ((um 11)) ((um 12)) ((um 13)) ((xs 1)) (by omega) (by omega)) (cwV 1 hts gL_law_X11_drift rfl rfl rfl (by decide +kernel) ⟨Nat.le_of_ble_eq_true rfl, Nat.le_of_ble_eq_true rfl⟩) hP hD hS hA [0, 17] [] rfl rfl rfl rfl (by decide) 0 11 rfl rfl rfl hl.1 rfl (Nat.le_of_ble_eq_true rfl) dL_law_398 ⟨Nat.le_of_ble_eq_true rfl, Nat.le_of_ble_eq_true rfl⟩ (fun r10 u9 H locs hp hP hD hS => ?_)
      subst hp
      refine lv_icmp_eq (tgt := 988) hx hb dL_law_401 (by decide) (fun _ => ?_) (fun c => absurd (by decide) c)
      exact law_end C0 (Nat.le_of_ble_eq_true rfl) (Nat.le_of_ble_eq_true rfl) hS hl
    · skip
      refine lv_aload_n hx hb dL_law_383 rfl (lv_at hl 2 rfl) ?_
      refine lv_aload_n hx hb dL_law_384 rfl (lv_at hl 3 rfl) ?_
      refine lv_iload_n hx hb dL_law_385 rfl (lv_at hl 0 rfl) ?_
      refine lv_iconst (v := 1) hx hb dL_law_386 (by decide) ?_
      refine lv_iadd hx hb dL_law_387 ?_
      refine ms_eqi (y := 1) (by decide) ?_
      refine ms_sld hx hb hX hbl hbA hS 1 rfl (by decide) (by decide) dL_law_388 ?_
      refine ms_cVi (qc := (RX10, TX10, 12)) (wc := [(hx0, .inr (10, [.ref ((ux 0)), .ref ((ux 11)), .ref ((ux 20)), .ref ((ux 22)), .ref ((ux 24)), .int 0, .ref ((ux 31)), .ref ((ux 38)), .ref ((ux 41)), .ref ((ux 44)), .ref ((ux 47)), .ref ((ux 48))]))]) (wr := ms_WM cA hm0 um) ⟨hx, hb, hml, hown, hts⟩ hE (cX10_drift_3 l D cA hx0 ((ux 0)) ((ux 11)) ((ux 20)) ((ux 22)) ((ux 24)) ((ux 31)) ((ux 38)) ((ux 41)) ((ux 44)) ((ux 47)) ((ux 48)) ((xs 1)) (by omega)) (cwV 1 hts gL_law_X10_drift rfl rfl rfl (by decide +kernel) ⟨Nat.le_of_ble_eq_true rfl, Nat.le_of_ble_eq_true rfl⟩) hP hD hS hA [0] [50, 51, 52, 53, 54, 55, 56, 57, 58, 59, 60, 61, 62, 63, 64, 65, 66, 67, 68] rfl rfl rfl rfl (by decide) 0 10 rfl rfl rfl hl.1 rfl (Nat.le_of_ble_eq_true rfl) dL_law_389 ⟨Nat.le_of_ble_eq_true rfl, Nat.le_of_ble_eq_true rfl⟩ (fun r12 u11 H locs hp hP hD hS => ?_)
      subst hp
      refine lv_aload_n hx hb dL_law_392 rfl (lv_at hl 1 rfl) ?_
      refine lv_aload_n hx hb dL_law_393 rfl (lv_at hl 3 rfl) ?_
      refine lv_iload_n hx hb dL_law_394 rfl (lv_at hl 0 rfl) ?_
      refine lv_iconst (v := 1) hx hb dL_law_395 (by decide) ?_
      refine lv_iadd hx hb dL_law_396 ?_
      refine ms_eqi (y := 1) (by decide) ?_
      refine ms_sld hx hb hX hbl hbA hS 1 rfl (by decide) (by decide) dL_law_397 ?_
      refine ms_cVi (qc := (RX11, TX11, 32)) (wc := [(hm0, .inr (11, [.ref ((um 16)), .ref ((um 0)), .ref ((um 14)), .ref ((um 1)), .int 0, .ref ((um 2)), .ref ((um 15)), .long 0, .ref ((um 3)), .int 0, .int (-1), .ref ((um 17)), .ref ((um 4)), .int 0, .ref ((um 5)), .int 0, .int 0, .int 0, .int 0, .int 0, .int 0, .int 0, .ref ((um 6)), .ref ((um 7)), .ref ((um 8)), .int 0, .ref ((um 9)), .ref ((um 10)), .ref ((um 11)), .ref ((um 12)), .int 0, .ref ((um 13))]))]) (wr := []) ⟨hx, hb, hml, hown, hts⟩ hE (cX11_drift_3 l D cA hm0 ((um 16)) ((um 0)) ((um 14)) ((um 1)) ((um 2)) ((um 15)) ((um 3)) ((um 17)) ((um 4)) ((um 5)) ((um 6)) ((um 7)) ((um 8)) ((um 9)) ((um 10)) ((um 11)) ((um 12)) ((um 13)) ((xs 1)) (by omega)) (cwV 1 hts gL_law_X11_drift rfl rfl rfl (by decide +kernel) ⟨Nat.le_of_ble_eq_true rfl, Nat.le_of_ble_eq_true rfl⟩) hP hD hS hA [0] [] rfl rfl rfl rfl (by decide) 0 11 rfl rfl rfl hl.1 rfl (Nat.le_of_ble_eq_true rfl) dL_law_398 ⟨Nat.le_of_ble_eq_true rfl, Nat.le_of_ble_eq_true rfl⟩ (fun r14 u13 H locs hp hP hD hS => ?_)
      subst hp
      refine lv_icmp_eq (tgt := 988) hx hb dL_law_401 (by decide) (fun _ => ?_) (fun c => absurd (by decide) c)
      exact law_end C0 (Nat.le_of_ble_eq_true rfl) (Nat.le_of_ble_eq_true rfl) hS hl
set_option maxHeartbeats 4000000 in
set_option maxRecDepth 100000 in
theorem law_10 (l : Launch) (D : va_G) (cA : Nat → ClassId) (hx0 hm0 : Nat) (ux um : Nat → Nat) {p : Program} {e : Env} {s : State} {m : MethodId} {below : List Frame} {meth : Method} {c : Code} {b : Nat} {xs : Nat → Int32} {H : Heap} {locs : List Loc} {ls : Array Slot} (C0 : lw_At p s m meth c b 4 xs) (hE : ms_EV D cA s) (hP : va_P D vwCl (ms_WX cA hx0 ux ++ ms_WM cA hm0 um) H) (hD : va_D (fun q : Nat => s.heap.size ≤ q) (ms_WX cA hx0 ux ++ ms_WM cA hm0 um)) (hS : va_S (fun q : Nat => s.heap.size ≤ q) s.heap H locs) (hl : lv_has ls 4 [(3, .int 0), (2, .ref hm0), (1, .ref hx0), (0, .ref b)]) : W p l e room_1 s m #[Value.ref b] below meth c H locs 69 1489 (lw_Z below #[Value.ref b] s) (F0 m 406 ls []) := by
  obtain ⟨hx, hb, hr, hml, hown, hts0, hX, hbl, hlocks, hgv⟩ := id C0
  have hb : c.code = cL_law := hb
  have hown : s.vm.findClass RL = some m.cls := hown
  have hts : ∀ w ∈ wsL_law, w.before #[Value.ref b] s = true := fun w h => hts0 w (wsL_law_in w h)
  have hA : ∀ q : Nat, s.heap.size ≤ q → (fun q : Nat => s.heap.size ≤ q) q := fun _ h => h
  have hbA : ¬ (fun q : Nat => s.heap.size ≤ q) b := Nat.not_le.mpr hbl
  refine lv_aload_n hx hb dL_law_406 rfl (lv_at hl 2 rfl) ?_
  refine ms_cVi (qc := (RX10, TX10, 12)) (wc := [(hx0, .inr (10, [.ref ((ux 0)), .ref ((ux 11)), .ref ((ux 20)), .ref ((ux 22)), .ref ((ux 24)), .int 0, .ref ((ux 31)), .ref ((ux 38)), .ref ((ux 41)), .ref ((ux 44)), .ref ((ux 47)), .ref ((ux 48))])), ((ux 22), .inr (0, [.ref ((ux 23)), .int 0, .int 0]))]) (wr := ms_WM cA hm0 um) ⟨hx, hb, hml, hown, hts⟩ hE (cX10_undo_1 l D cA hx0 ((ux 22)) ((ux 0)) ((ux 11)) ((ux 20)) ((ux 24)) ((ux 31)) ((ux 38)) ((ux 41)) ((ux 44)) ((ux 47)) ((ux 48)) ((ux 23))) (cwV 0 hts gL_law_X10_undo rfl rfl rfl (by decide +kernel) ⟨Nat.le_of_ble_eq_true rfl, Nat.le_of_ble_eq_true rfl⟩) hP hD hS hA [0, 23] [50, 51, 52, 53, 54, 55, 56, 57, 58, 59, 60, 61, 62, 63, 64, 65, 66, 67, 68] rfl rfl rfl rfl (by decide) 0 10 rfl rfl rfl hl.1 rfl (Nat.le_of_ble_eq_true rfl) dL_law_407 ⟨Nat.le_of_ble_eq_true rfl, Nat.le_of_ble_eq_true rfl⟩ (fun r2 u1 H locs hp hP hD hS => ?_)
  subst hp
  refine lv_aload_n hx hb dL_law_410 rfl (lv_at hl 1 rfl) ?_
  refine ms_cVi (qc := (RX11, TX11, 32)) (wc := [(hm0, .inr (11, [.ref ((um 16)), .ref ((um 0)), .ref ((um 14)), .ref ((um 1)), .int 0, .ref ((um 2)), .ref ((um 15)), .long 0, .ref ((um 3)), .int 0, .int (-1), .ref ((um 17)), .ref ((um 4)), .int 0, .ref ((um 5)), .int 0, .int 0, .int 0, .int 0, .int 0, .int 0, .int 0, .ref ((um 6)), .ref ((um 7)), .ref ((um 8)), .int 0, .ref ((um 9)), .ref ((um 10)), .ref ((um 11)), .ref ((um 12)), .int 0, .ref ((um 13))]))]) (wr := []) ⟨hx, hb, hml, hown, hts⟩ hE (cX11_undo_1 l D cA hm0 ((um 16)) ((um 0)) ((um 14)) ((um 1)) ((um 2)) ((um 15)) ((um 3)) ((um 17)) ((um 4)) ((um 5)) ((um 6)) ((um 7)) ((um 8)) ((um 9)) ((um 10)) ((um 11)) ((um 12)) ((um 13))) (cwV 0 hts gL_law_X11_undo rfl rfl rfl (by decide +kernel) ⟨Nat.le_of_ble_eq_true rfl, Nat.le_of_ble_eq_true rfl⟩) hP hD hS hA [0] [] rfl rfl rfl rfl (by decide) 0 11 rfl rfl rfl hl.1 rfl (Nat.le_of_ble_eq_true rfl) dL_law_411 ⟨Nat.le_of_ble_eq_true rfl, Nat.le_of_ble_eq_true rfl⟩ (fun r4 u3 H locs hp hP hD hS => ?_)
  subst hp
  refine lv_icmp_eq (tgt := 988) hx hb dL_law_414 (by decide) (fun _ => ?_) (fun c => absurd (by decide) c)
  exact law_end C0 (Nat.le_of_ble_eq_true rfl) (Nat.le_of_ble_eq_true rfl) hS hl
set_option maxHeartbeats 4000000 in
set_option maxRecDepth 100000 in
theorem law_11 (l : Launch) (D : va_G) (cA : Nat → ClassId) (hx0 hm0 : Nat) (ux um : Nat → Nat) {p : Program} {e : Env} {s : State} {m : MethodId} {below : List Frame} {meth : Method} {c : Code} {b : Nat} {xs : Nat → Int32} {H : Heap} {locs : List Loc} {ls : Array Slot} (C0 : lw_At p s m meth c b 4 xs) (hE : ms_EV D cA s) (hP : va_P D vwCl (ms_WX cA hx0 ux ++ ms_WM cA hm0 um) H) (hD : va_D (fun q : Nat => s.heap.size ≤ q) (ms_WX cA hx0 ux ++ ms_WM cA hm0 um)) (hS : va_S (fun q : Nat => s.heap.size ≤ q) s.heap H locs) (hl : lv_has ls 4 [(3, .int 0), (2, .ref hm0), (1, .ref hx0), (0, .ref b)]) : W p l e room_1 s m #[Value.ref b] below meth c H locs 69 1489 (lw_Z below #[Value.ref b] s) (F0 m 419 ls []) := by
  obtain ⟨hx, hb, hr, hml, hown, hts0, hX, hbl, hlocks, hgv⟩ := id C0
  have hb : c.code = cL_law := hb
  have hown : s.vm.findClass RL = some m.cls := hown
  have hts : ∀ w ∈ wsL_law, w.before #[Value.ref b] s = true := fun w h => hts0 w (wsL_law_in w h)
  have hA : ∀ q : Nat, s.heap.size ≤ q → (fun q : Nat => s.heap.size ≤ q) q := fun _ h => h
  have hbA : ¬ (fun q : Nat => s.heap.size ≤ q) b := Nat.not_le.mpr hbl
  by_cases g3_1 : (xs 3).toInt ≤ -1
  · skip
    refine lv_aload_n hx hb dL_law_419 rfl (lv_at hl 2 rfl) ?_
    refine lv_aload_n hx hb dL_law_420 rfl (lv_at hl 3 rfl) ?_
    refine lv_iload_n hx hb dL_law_421 rfl (lv_at hl 0 rfl) ?_
    refine lv_iconst (v := 1) hx hb dL_law_422 (by decide) ?_
    refine lv_iadd hx hb dL_law_423 ?_
    refine ms_eqi (y := 1) (by decide) ?_
    refine ms_sld hx hb hX hbl hbA hS 1 rfl (by decide) (by decide) dL_law_424 ?_
    refine lv_aload_n hx hb dL_law_425 rfl (lv_at hl 3 rfl) ?_
    refine lv_iload_n hx hb dL_law_426 rfl (lv_at hl 0 rfl) ?_
    refine lv_iconst (v := 2) hx hb dL_law_427 (by decide) ?_
    refine lv_iadd hx hb dL_law_428 ?_
    refine ms_eqi (y := 2) (by decide) ?_
    refine ms_sld hx hb hX hbl hbA hS 2 rfl (by decide) (by decide) dL_law_429 ?_
    refine lv_aload_n hx hb dL_law_430 rfl (lv_at hl 3 rfl) ?_
    refine lv_iload_n hx hb dL_law_431 rfl (lv_at hl 0 rfl) ?_
    refine lv_iconst (v := 3) hx hb dL_law_432 (by decide) ?_
    refine lv_iadd hx hb dL_law_433 ?_
    refine ms_eqi (y := 3) (by decide) ?_
    refine ms_sld hx hb hX hbl hbA hS 3 rfl (by decide) (by decide) dL_law_434 ?_
    refine lv_if_eq (tgt := 442) hx hb dL_law_435 (by decide) (fun c => by exfalso; have hc2 := congrArg Int32.toInt c; have z3 : (0 : Int32).toInt = 0 := (by decide); omega) (fun _ => ?_)
    refine lv_iconst (v := 1) hx hb dL_law_438 (by decide) ?_
    refine lv_goto (tgt := 443) hx hb dL_law_439 (by decide) ?_
    refine ms_cVi (qc := (RX10, TX10, 12)) (wc := [(hx0, .inr (10, [.ref ((ux 0)), .ref ((ux 11)), .ref ((ux 20)), .ref ((ux 22)), .ref ((ux 24)), .int 0, .ref ((ux 31)), .ref ((ux 38)), .ref ((ux 41)), .ref ((ux 44)), .ref ((ux 47)), .ref ((ux 48))])), ((ux 11), .inr (2, [.int 0, .int 0, .int 0, .int 0, .int 0, .ref ((ux 12)), .ref ((ux 13)), .ref ((ux 14)), .ref ((ux 15)), .ref ((ux 16)), .ref ((ux 17)), .ref ((ux 18)), .ref ((ux 19))]))]) (wr := ms_WM cA hm0 um) ⟨hx, hb, hml, hown, hts⟩ hE (cX10_way_1 l D cA hx0 ((ux 11)) ((ux 0)) ((ux 20)) ((ux 22)) ((ux 24)) ((ux 31)) ((ux 38)) ((ux 41)) ((ux 44)) ((ux 47)) ((ux 48)) ((ux 12)) ((ux 13)) ((ux 14)) ((ux 15)) ((ux 16)) ((ux 17)) ((ux 18)) ((ux 19)) ((xs 1)) ((xs 2))) (cwV 3 hts gL_law_X10_way rfl rfl rfl (by decide +kernel) ⟨Nat.le_of_ble_eq_true rfl, Nat.le_of_ble_eq_true rfl⟩) hP hD hS hA [0, 12] [50, 51, 52, 53, 54, 55, 56, 57, 58, 59, 60, 61, 62, 63, 64, 65, 66, 67, 68] rfl rfl rfl rfl (by decide) 0 10 rfl rfl rfl hl.1 rfl (Nat.le_of_ble_eq_true rfl) dL_law_443 ⟨Nat.le_of_ble_eq_true rfl, Nat.le_of_ble_eq_true rfl⟩ (fun r5 u4 H locs hp hP hD hS => ?_)
    subst hp
    refine lv_aload_n hx hb dL_law_446 rfl (lv_at hl 1 rfl) ?_
    refine lv_aload_n hx hb dL_law_447 rfl (lv_at hl 3 rfl) ?_
    refine lv_iload_n hx hb dL_law_448 rfl (lv_at hl 0 rfl) ?_
    refine lv_iconst (v := 1) hx hb dL_law_449 (by decide) ?_
    refine lv_iadd hx hb dL_law_450 ?_
    refine ms_eqi (y := 1) (by decide) ?_
    refine ms_sld hx hb hX hbl hbA hS 1 rfl (by decide) (by decide) dL_law_451 ?_
    refine lv_aload_n hx hb dL_law_452 rfl (lv_at hl 3 rfl) ?_
    refine lv_iload_n hx hb dL_law_453 rfl (lv_at hl 0 rfl) ?_
    refine lv_iconst (v := 2) hx hb dL_law_454 (by decide) ?_
    refine lv_iadd hx hb dL_law_455 ?_
    refine ms_eqi (y := 2) (by decide) ?_
    refine ms_sld hx hb hX hbl hbA hS 2 rfl (by decide) (by decide) dL_law_456 ?_
    refine lv_aload_n hx hb dL_law_457 rfl (lv_at hl 3 rfl) ?_
    refine lv_iload_n hx hb dL_law_458 rfl (lv_at hl 0 rfl) ?_
    refine lv_iconst (v := 3) hx hb dL_law_459 (by decide) ?_
    refine lv_iadd hx hb dL_law_460 ?_
    refine ms_eqi (y := 3) (by decide) ?_
    refine ms_sld hx hb hX hbl hbA hS 3 rfl (by decide) (by decide) dL_law_461 ?_
    refine lv_if_eq (tgt := 469) hx hb dL_law_462 (by decide) (fun c => by exfalso; have hc6 := congrArg Int32.toInt c; have z7 : (0 : Int32).toInt = 0 := (by decide); omega) (fun _ => ?_)
    refine lv_iconst (v := 1) hx hb dL_law_465 (by decide) ?_
    refine lv_goto (tgt := 470) hx hb dL_law_466 (by decide) ?_
    refine ms_cVi (qc := (RX11, TX11, 32)) (wc := [(hm0, .inr (11, [.ref ((um 16)), .ref ((um 0)), .ref ((um 14)), .ref ((um 1)), .int 0, .ref ((um 2)), .ref ((um 15)), .long 0, .ref ((um 3)), .int 0, .int (-1), .ref ((um 17)), .ref ((um 4)), .int 0, .ref ((um 5)), .int 0, .int 0, .int 0, .int 0, .int 0, .int 0, .int 0, .ref ((um 6)), .ref ((um 7)), .ref ((um 8)), .int 0, .ref ((um 9)), .ref ((um 10)), .ref ((um 11)), .ref ((um 12)), .int 0, .ref ((um 13))])), ((um 16), .inl (cA 0, 68, .inl ms_z))]) (wr := []) ⟨hx, hb, hml, hown, hts⟩ hE (cX11_way_1 l D cA hm0 ((um 16)) ((um 0)) ((um 14)) ((um 1)) ((um 2)) ((um 15)) ((um 3)) ((um 17)) ((um 4)) ((um 5)) ((um 6)) ((um 7)) ((um 8)) ((um 9)) ((um 10)) ((um 11)) ((um 12)) ((um 13)) ((xs 1)) ((xs 2))) (cwV 3 hts gL_law_X11_way rfl rfl rfl (by decide +kernel) ⟨Nat.le_of_ble_eq_true rfl, Nat.le_of_ble_eq_true rfl⟩) hP hD hS hA [0, 17] [] rfl rfl rfl rfl (by decide) 0 11 rfl rfl rfl hl.1 rfl (Nat.le_of_ble_eq_true rfl) dL_law_470 ⟨Nat.le_of_ble_eq_true rfl, Nat.le_of_ble_eq_true rfl⟩ (fun r9 u8 H locs hp hP hD hS => ?_)
    subst hp
    refine lv_icmp_eq (tgt := 988) hx hb dL_law_473 (by decide) (fun _ => ?_) (fun c => absurd (by decide) c)
    exact law_end C0 (Nat.le_of_ble_eq_true rfl) (Nat.le_of_ble_eq_true rfl) hS hl
  · skip
    by_cases g3_10 : (xs 3).toInt ≤ 0
    · skip
      have e3 : xs 3 = 0 := Int32.toInt_inj.mp (by have z : (0 : Int32).toInt = 0 := (by decide); omega)
      refine lv_aload_n hx hb dL_law_419 rfl (lv_at hl 2 rfl) ?_
      refine lv_aload_n hx hb dL_law_420 rfl (lv_at hl 3 rfl) ?_
      refine lv_iload_n hx hb dL_law_421 rfl (lv_at hl 0 rfl) ?_
      refine lv_iconst (v := 1) hx hb dL_law_422 (by decide) ?_
      refine lv_iadd hx hb dL_law_423 ?_
      refine ms_eqi (y := 1) (by decide) ?_
      refine ms_sld hx hb hX hbl hbA hS 1 rfl (by decide) (by decide) dL_law_424 ?_
      refine lv_aload_n hx hb dL_law_425 rfl (lv_at hl 3 rfl) ?_
      refine lv_iload_n hx hb dL_law_426 rfl (lv_at hl 0 rfl) ?_
      refine lv_iconst (v := 2) hx hb dL_law_427 (by decide) ?_
      refine lv_iadd hx hb dL_law_428 ?_
      refine ms_eqi (y := 2) (by decide) ?_
      refine ms_sld hx hb hX hbl hbA hS 2 rfl (by decide) (by decide) dL_law_429 ?_
      refine lv_aload_n hx hb dL_law_430 rfl (lv_at hl 3 rfl) ?_
      refine lv_iload_n hx hb dL_law_431 rfl (lv_at hl 0 rfl) ?_
      refine lv_iconst (v := 3) hx hb dL_law_432 (by decide) ?_
      refine lv_iadd hx hb dL_law_433 ?_
      refine ms_eqi (y := 3) (by decide) ?_
      refine ms_sld hx hb hX hbl hbA hS 3 rfl (by decide) (by decide) dL_law_434 ?_
      refine ms_eqi (y := 0) e3 ?_
      refine lv_if_eq (tgt := 442) hx hb dL_law_435 (by decide) (fun _ => ?_) (fun c => absurd (by decide) c)
      refine lv_iconst (v := 0) hx hb dL_law_442 (by decide) ?_
      refine ms_cVi (qc := (RX10, TX10, 12)) (wc := [(hx0, .inr (10, [.ref ((ux 0)), .ref ((ux 11)), .ref ((ux 20)), .ref ((ux 22)), .ref ((ux 24)), .int 0, .ref ((ux 31)), .ref ((ux 38)), .ref ((ux 41)), .ref ((ux 44)), .ref ((ux 47)), .ref ((ux 48))])), ((ux 11), .inr (2, [.int 0, .int 0, .int 0, .int 0, .int 0, .ref ((ux 12)), .ref ((ux 13)), .ref ((ux 14)), .ref ((ux 15)), .ref ((ux 16)), .ref ((ux 17)), .ref ((ux 18)), .ref ((ux 19))]))]) (wr := ms_WM cA hm0 um) ⟨hx, hb, hml, hown, hts⟩ hE (cX10_way_2 l D cA hx0 ((ux 11)) ((ux 0)) ((ux 20)) ((ux 22)) ((ux 24)) ((ux 31)) ((ux 38)) ((ux 41)) ((ux 44)) ((ux 47)) ((ux 48)) ((ux 12)) ((ux 13)) ((ux 14)) ((ux 15)) ((ux 16)) ((ux 17)) ((ux 18)) ((ux 19)) ((xs 1)) ((xs 2))) (cwV 3 hts gL_law_X10_way rfl rfl rfl (by decide +kernel) ⟨Nat.le_of_ble_eq_true rfl, Nat.le_of_ble_eq_true rfl⟩) hP hD hS hA [0, 12] [50, 51, 52, 53, 54, 55, 56, 57, 58, 59, 60, 61, 62, 63, 64, 65, 66, 67, 68] rfl rfl rfl rfl (by decide) 0 10 rfl rfl rfl hl.1 rfl (Nat.le_of_ble_eq_true rfl) dL_law_443 ⟨Nat.le_of_ble_eq_true rfl, Nat.le_of_ble_eq_true rfl⟩ (fun r12 u11 H locs hp hP hD hS => ?_)
      subst hp
      refine lv_aload_n hx hb dL_law_446 rfl (lv_at hl 1 rfl) ?_
      refine lv_aload_n hx hb dL_law_447 rfl (lv_at hl 3 rfl) ?_
      refine lv_iload_n hx hb dL_law_448 rfl (lv_at hl 0 rfl) ?_
      refine lv_iconst (v := 1) hx hb dL_law_449 (by decide) ?_
      refine lv_iadd hx hb dL_law_450 ?_
      refine ms_eqi (y := 1) (by decide) ?_
      refine ms_sld hx hb hX hbl hbA hS 1 rfl (by decide) (by decide) dL_law_451 ?_
      refine lv_aload_n hx hb dL_law_452 rfl (lv_at hl 3 rfl) ?_
      refine lv_iload_n hx hb dL_law_453 rfl (lv_at hl 0 rfl) ?_
      refine lv_iconst (v := 2) hx hb dL_law_454 (by decide) ?_
      refine lv_iadd hx hb dL_law_455 ?_
      refine ms_eqi (y := 2) (by decide) ?_
      refine ms_sld hx hb hX hbl hbA hS 2 rfl (by decide) (by decide) dL_law_456 ?_
      refine lv_aload_n hx hb dL_law_457 rfl (lv_at hl 3 rfl) ?_
      refine lv_iload_n hx hb dL_law_458 rfl (lv_at hl 0 rfl) ?_
      refine lv_iconst (v := 3) hx hb dL_law_459 (by decide) ?_
      refine lv_iadd hx hb dL_law_460 ?_
      refine ms_eqi (y := 3) (by decide) ?_
      refine ms_sld hx hb hX hbl hbA hS 3 rfl (by decide) (by decide) dL_law_461 ?_
      refine ms_eqi (y := 0) e3 ?_
      refine lv_if_eq (tgt := 469) hx hb dL_law_462 (by decide) (fun _ => ?_) (fun c => absurd (by decide) c)
      refine lv_iconst (v := 0) hx hb dL_law_469 (by decide) ?_
      refine ms_cVi (qc := (RX11, TX11, 32)) (wc := [(hm0, .inr (11, [.ref ((um 16)), .ref ((um 0)), .ref ((um 14)), .ref ((um 1)), .int 0, .ref ((um 2)), .ref ((um 15)), .long 0, .ref ((um 3)), .int 0, .int (-1), .ref ((um 17)), .ref ((um 4)), .int 0, .ref ((um 5)), .int 0, .int 0, .int 0, .int 0, .int 0, .int 0, .int 0, .ref ((um 6)), .ref ((um 7)), .ref ((um 8)), .int 0, .ref ((um 9)), .ref ((um 10)), .ref ((um 11)), .ref ((um 12)), .int 0, .ref ((um 13))])), ((um 16), .inl (cA 0, 68, .inl ms_z))]) (wr := []) ⟨hx, hb, hml, hown, hts⟩ hE (cX11_way_2 l D cA hm0 ((um 16)) ((um 0)) ((um 14)) ((um 1)) ((um 2)) ((um 15)) ((um 3)) ((um 17)) ((um 4)) ((um 5)) ((um 6)) ((um 7)) ((um 8)) ((um 9)) ((um 10)) ((um 11)) ((um 12)) ((um 13)) ((xs 1)) ((xs 2))) (cwV 3 hts gL_law_X11_way rfl rfl rfl (by decide +kernel) ⟨Nat.le_of_ble_eq_true rfl, Nat.le_of_ble_eq_true rfl⟩) hP hD hS hA [0, 17] [] rfl rfl rfl rfl (by decide) 0 11 rfl rfl rfl hl.1 rfl (Nat.le_of_ble_eq_true rfl) dL_law_470 ⟨Nat.le_of_ble_eq_true rfl, Nat.le_of_ble_eq_true rfl⟩ (fun r14 u13 H locs hp hP hD hS => ?_)
      subst hp
      refine lv_icmp_eq (tgt := 988) hx hb dL_law_473 (by decide) (fun _ => ?_) (fun c => absurd (by decide) c)
      exact law_end C0 (Nat.le_of_ble_eq_true rfl) (Nat.le_of_ble_eq_true rfl) hS hl
    · skip
      refine lv_aload_n hx hb dL_law_419 rfl (lv_at hl 2 rfl) ?_
      refine lv_aload_n hx hb dL_law_420 rfl (lv_at hl 3 rfl) ?_
      refine lv_iload_n hx hb dL_law_421 rfl (lv_at hl 0 rfl) ?_
      refine lv_iconst (v := 1) hx hb dL_law_422 (by decide) ?_
      refine lv_iadd hx hb dL_law_423 ?_
      refine ms_eqi (y := 1) (by decide) ?_
      refine ms_sld hx hb hX hbl hbA hS 1 rfl (by decide) (by decide) dL_law_424 ?_
      refine lv_aload_n hx hb dL_law_425 rfl (lv_at hl 3 rfl) ?_
      refine lv_iload_n hx hb dL_law_426 rfl (lv_at hl 0 rfl) ?_
      refine lv_iconst (v := 2) hx hb dL_law_427 (by decide) ?_
      refine lv_iadd hx hb dL_law_428 ?_
      refine ms_eqi (y := 2) (by decide) ?_
      refine ms_sld hx hb hX hbl hbA hS 2 rfl (by decide) (by decide) dL_law_429 ?_
      refine lv_aload_n hx hb dL_law_430 rfl (lv_at hl 3 rfl) ?_
      refine lv_iload_n hx hb dL_law_431 rfl (lv_at hl 0 rfl) ?_
      refine lv_iconst (v := 3) hx hb dL_law_432 (by decide) ?_
      refine lv_iadd hx hb dL_law_433 ?_
      refine ms_eqi (y := 3) (by decide) ?_
      refine ms_sld hx hb hX hbl hbA hS 3 rfl (by decide) (by decide) dL_law_434 ?_
      refine lv_if_eq (tgt := 442) hx hb dL_law_435 (by decide) (fun c => by exfalso; have hc15 := congrArg Int32.toInt c; have z16 : (0 : Int32).toInt = 0 := (by decide); omega) (fun _ => ?_)
      refine lv_iconst (v := 1) hx hb dL_law_438 (by decide) ?_
      refine lv_goto (tgt := 443) hx hb dL_law_439 (by decide) ?_
      refine ms_cVi (qc := (RX10, TX10, 12)) (wc := [(hx0, .inr (10, [.ref ((ux 0)), .ref ((ux 11)), .ref ((ux 20)), .ref ((ux 22)), .ref ((ux 24)), .int 0, .ref ((ux 31)), .ref ((ux 38)), .ref ((ux 41)), .ref ((ux 44)), .ref ((ux 47)), .ref ((ux 48))])), ((ux 11), .inr (2, [.int 0, .int 0, .int 0, .int 0, .int 0, .ref ((ux 12)), .ref ((ux 13)), .ref ((ux 14)), .ref ((ux 15)), .ref ((ux 16)), .ref ((ux 17)), .ref ((ux 18)), .ref ((ux 19))]))]) (wr := ms_WM cA hm0 um) ⟨hx, hb, hml, hown, hts⟩ hE (cX10_way_1 l D cA hx0 ((ux 11)) ((ux 0)) ((ux 20)) ((ux 22)) ((ux 24)) ((ux 31)) ((ux 38)) ((ux 41)) ((ux 44)) ((ux 47)) ((ux 48)) ((ux 12)) ((ux 13)) ((ux 14)) ((ux 15)) ((ux 16)) ((ux 17)) ((ux 18)) ((ux 19)) ((xs 1)) ((xs 2))) (cwV 3 hts gL_law_X10_way rfl rfl rfl (by decide +kernel) ⟨Nat.le_of_ble_eq_true rfl, Nat.le_of_ble_eq_true rfl⟩) hP hD hS hA [0, 12] [50, 51, 52, 53, 54, 55, 56, 57, 58, 59, 60, 61, 62, 63, 64, 65, 66, 67, 68] rfl rfl rfl rfl (by decide) 0 10 rfl rfl rfl hl.1 rfl (Nat.le_of_ble_eq_true rfl) dL_law_443 ⟨Nat.le_of_ble_eq_true rfl, Nat.le_of_ble_eq_true rfl⟩ (fun r18 u17 H locs hp hP hD hS => ?_)
      subst hp
      refine lv_aload_n hx hb dL_law_446 rfl (lv_at hl 1 rfl) ?_
      refine lv_aload_n hx hb dL_law_447 rfl (lv_at hl 3 rfl) ?_
      refine lv_iload_n hx hb dL_law_448 rfl (lv_at hl 0 rfl) ?_
      refine lv_iconst (v := 1) hx hb dL_law_449 (by decide) ?_
      refine lv_iadd hx hb dL_law_450 ?_
      refine ms_eqi (y := 1) (by decide) ?_
      refine ms_sld hx hb hX hbl hbA hS 1 rfl (by decide) (by decide) dL_law_451 ?_
      refine lv_aload_n hx hb dL_law_452 rfl (lv_at hl 3 rfl) ?_
      refine lv_iload_n hx hb dL_law_453 rfl (lv_at hl 0 rfl) ?_
      refine lv_iconst (v := 2) hx hb dL_law_454 (by decide) ?_
      refine lv_iadd hx hb dL_law_455 ?_
      refine ms_eqi (y := 2) (by decide) ?_
      refine ms_sld hx hb hX hbl hbA hS 2 rfl (by decide) (by decide) dL_law_456 ?_
      refine lv_aload_n hx hb dL_law_457 rfl (lv_at hl 3 rfl) ?_
      refine lv_iload_n hx hb dL_law_458 rfl (lv_at hl 0 rfl) ?_
      refine lv_iconst (v := 3) hx hb dL_law_459 (by decide) ?_
      refine lv_iadd hx hb dL_law_460 ?_
      refine ms_eqi (y := 3) (by decide) ?_
      refine ms_sld hx hb hX hbl hbA hS 3 rfl (by decide) (by decide) dL_law_461 ?_
      refine lv_if_eq (tgt := 469) hx hb dL_law_462 (by decide) (fun c => by exfalso; have hc19 := congrArg Int32.toInt c; have z20 : (0 : Int32).toInt = 0 := (by decide); omega) (fun _ => ?_)
      refine lv_iconst (v := 1) hx hb dL_law_465 (by decide) ?_
      refine lv_goto (tgt := 470) hx hb dL_law_466 (by decide) ?_
      refine ms_cVi (qc := (RX11, TX11, 32)) (wc := [(hm0, .inr (11, [.ref ((um 16)), .ref ((um 0)), .ref ((um 14)), .ref ((um 1)), .int 0, .ref ((um 2)), .ref ((um 15)), .long 0, .ref ((um 3)), .int 0, .int (-1), .ref ((um 17)), .ref ((um 4)), .int 0, .ref ((um 5)), .int 0, .int 0, .int 0, .int 0, .int 0, .int 0, .int 0, .ref ((um 6)), .ref ((um 7)), .ref ((um 8)), .int 0, .ref ((um 9)), .ref ((um 10)), .ref ((um 11)), .ref ((um 12)), .int 0, .ref ((um 13))])), ((um 16), .inl (cA 0, 68, .inl ms_z))]) (wr := []) ⟨hx, hb, hml, hown, hts⟩ hE (cX11_way_1 l D cA hm0 ((um 16)) ((um 0)) ((um 14)) ((um 1)) ((um 2)) ((um 15)) ((um 3)) ((um 17)) ((um 4)) ((um 5)) ((um 6)) ((um 7)) ((um 8)) ((um 9)) ((um 10)) ((um 11)) ((um 12)) ((um 13)) ((xs 1)) ((xs 2))) (cwV 3 hts gL_law_X11_way rfl rfl rfl (by decide +kernel) ⟨Nat.le_of_ble_eq_true rfl, Nat.le_of_ble_eq_true rfl⟩) hP hD hS hA [0, 17] [] rfl rfl rfl rfl (by decide) 0 11 rfl rfl rfl hl.1 rfl (Nat.le_of_ble_eq_true rfl) dL_law_470 ⟨Nat.le_of_ble_eq_true rfl, Nat.le_of_ble_eq_true rfl⟩ (fun r22 u21 H locs hp hP hD hS => ?_)
      subst hp
      refine lv_icmp_eq (tgt := 988) hx hb dL_law_473 (by decide) (fun _ => ?_) (fun c => absurd (by decide) c)
      exact law_end C0 (Nat.le_of_ble_eq_true rfl) (Nat.le_of_ble_eq_true rfl) hS hl
set_option maxHeartbeats 4000000 in
set_option maxRecDepth 100000 in
theorem law_12 (l : Launch) (D : va_G) (cA : Nat → ClassId) (hx0 hm0 : Nat) (ux um : Nat → Nat) {p : Program} {e : Env} {s : State} {m : MethodId} {below : List Frame} {meth : Method} {c : Code} {b : Nat} {xs : Nat → Int32} {H : Heap} {locs : List Loc} {ls : Array Slot} (C0 : lw_At p s m meth c b 4 xs) (hE : ms_EV D cA s) (hP : va_P D vwCl (ms_WX cA hx0 ux ++ ms_WM cA hm0 um) H) (hD : va_D (fun q : Nat => s.heap.size ≤ q) (ms_WX cA hx0 ux ++ ms_WM cA hm0 um)) (hS : va_S (fun q : Nat => s.heap.size ≤ q) s.heap H locs) (hl : lv_has ls 4 [(3, .int 0), (2, .ref hm0), (1, .ref hx0), (0, .ref b)]) : W p l e room_1 s m #[Value.ref b] below meth c H locs 69 1489 (lw_Z below #[Value.ref b] s) (F0 m 478 ls []) := by
  obtain ⟨hx, hb, hr, hml, hown, hts0, hX, hbl, hlocks, hgv⟩ := id C0
  have hb : c.code = cL_law := hb
  have hown : s.vm.findClass RL = some m.cls := hown
  have hts : ∀ w ∈ wsL_law, w.before #[Value.ref b] s = true := fun w h => hts0 w (wsL_law_in w h)
  have hA : ∀ q : Nat, s.heap.size ≤ q → (fun q : Nat => s.heap.size ≤ q) q := fun _ h => h
  have hbA : ¬ (fun q : Nat => s.heap.size ≤ q) b := Nat.not_le.mpr hbl
  refine lv_aload_n hx hb dL_law_478 rfl (lv_at hl 2 rfl) ?_
  refine lv_aload_n hx hb dL_law_479 rfl (lv_at hl 3 rfl) ?_
  refine lv_iload_n hx hb dL_law_480 rfl (lv_at hl 0 rfl) ?_
  refine lv_iconst (v := 1) hx hb dL_law_481 (by decide) ?_
  refine lv_iadd hx hb dL_law_482 ?_
  refine ms_eqi (y := 1) (by decide) ?_
  refine ms_sld hx hb hX hbl hbA hS 1 rfl (by decide) (by decide) dL_law_483 ?_
  refine lv_aload_n hx hb dL_law_484 rfl (lv_at hl 3 rfl) ?_
  refine lv_iload_n hx hb dL_law_485 rfl (lv_at hl 0 rfl) ?_
  refine lv_iconst (v := 2) hx hb dL_law_486 (by decide) ?_
  refine lv_iadd hx hb dL_law_487 ?_
  refine ms_eqi (y := 2) (by decide) ?_
  refine ms_sld hx hb hX hbl hbA hS 2 rfl (by decide) (by decide) dL_law_488 ?_
  refine lv_aload_n hx hb dL_law_489 rfl (lv_at hl 3 rfl) ?_
  refine lv_iload_n hx hb dL_law_490 rfl (lv_at hl 0 rfl) ?_
  refine lv_iconst (v := 3) hx hb dL_law_491 (by decide) ?_
  refine lv_iadd hx hb dL_law_492 ?_
  refine ms_eqi (y := 3) (by decide) ?_
  refine ms_sld hx hb hX hbl hbA hS 3 rfl (by decide) (by decide) dL_law_493 ?_
  refine ms_cVi (qc := (RX10, TX10, 12)) (wc := [(hx0, .inr (10, [.ref ((ux 0)), .ref ((ux 11)), .ref ((ux 20)), .ref ((ux 22)), .ref ((ux 24)), .int 0, .ref ((ux 31)), .ref ((ux 38)), .ref ((ux 41)), .ref ((ux 44)), .ref ((ux 47)), .ref ((ux 48))])), ((ux 11), .inr (2, [.int 0, .int 0, .int 0, .int 0, .int 0, .ref ((ux 12)), .ref ((ux 13)), .ref ((ux 14)), .ref ((ux 15)), .ref ((ux 16)), .ref ((ux 17)), .ref ((ux 18)), .ref ((ux 19))]))]) (wr := ms_WM cA hm0 um) ⟨hx, hb, hml, hown, hts⟩ hE (cX10_truly_1 l D cA hx0 ((ux 11)) ((ux 0)) ((ux 20)) ((ux 22)) ((ux 24)) ((ux 31)) ((ux 38)) ((ux 41)) ((ux 44)) ((ux 47)) ((ux 48)) ((ux 12)) ((ux 13)) ((ux 14)) ((ux 15)) ((ux 16)) ((ux 17)) ((ux 18)) ((ux 19)) ((xs 1)) ((xs 2)) ((xs 3))) (cwV 3 hts gL_law_X10_truly rfl rfl rfl (by decide +kernel) ⟨Nat.le_of_ble_eq_true rfl, Nat.le_of_ble_eq_true rfl⟩) hP hD hS hA [0, 12] [50, 51, 52, 53, 54, 55, 56, 57, 58, 59, 60, 61, 62, 63, 64, 65, 66, 67, 68] rfl rfl rfl rfl (by decide) 0 10 rfl rfl rfl hl.1 rfl (Nat.le_of_ble_eq_true rfl) dL_law_494 ⟨Nat.le_of_ble_eq_true rfl, Nat.le_of_ble_eq_true rfl⟩ (fun r2 u1 H locs hp hP hD hS => ?_)
  subst hp
  refine lv_aload_n hx hb dL_law_497 rfl (lv_at hl 1 rfl) ?_
  refine lv_aload_n hx hb dL_law_498 rfl (lv_at hl 3 rfl) ?_
  refine lv_iload_n hx hb dL_law_499 rfl (lv_at hl 0 rfl) ?_
  refine lv_iconst (v := 1) hx hb dL_law_500 (by decide) ?_
  refine lv_iadd hx hb dL_law_501 ?_
  refine ms_eqi (y := 1) (by decide) ?_
  refine ms_sld hx hb hX hbl hbA hS 1 rfl (by decide) (by decide) dL_law_502 ?_
  refine lv_aload_n hx hb dL_law_503 rfl (lv_at hl 3 rfl) ?_
  refine lv_iload_n hx hb dL_law_504 rfl (lv_at hl 0 rfl) ?_
  refine lv_iconst (v := 2) hx hb dL_law_505 (by decide) ?_
  refine lv_iadd hx hb dL_law_506 ?_
  refine ms_eqi (y := 2) (by decide) ?_
  refine ms_sld hx hb hX hbl hbA hS 2 rfl (by decide) (by decide) dL_law_507 ?_
  refine lv_aload_n hx hb dL_law_508 rfl (lv_at hl 3 rfl) ?_
  refine lv_iload_n hx hb dL_law_509 rfl (lv_at hl 0 rfl) ?_
  refine lv_iconst (v := 3) hx hb dL_law_510 (by decide) ?_
  refine lv_iadd hx hb dL_law_511 ?_
  refine ms_eqi (y := 3) (by decide) ?_
  refine ms_sld hx hb hX hbl hbA hS 3 rfl (by decide) (by decide) dL_law_512 ?_
  refine ms_cVi (qc := (RX11, TX11, 32)) (wc := [(hm0, .inr (11, [.ref ((um 16)), .ref ((um 0)), .ref ((um 14)), .ref ((um 1)), .int 0, .ref ((um 2)), .ref ((um 15)), .long 0, .ref ((um 3)), .int 0, .int (-1), .ref ((um 17)), .ref ((um 4)), .int 0, .ref ((um 5)), .int 0, .int 0, .int 0, .int 0, .int 0, .int 0, .int 0, .ref ((um 6)), .ref ((um 7)), .ref ((um 8)), .int 0, .ref ((um 9)), .ref ((um 10)), .ref ((um 11)), .ref ((um 12)), .int 0, .ref ((um 13))])), ((um 16), .inl (cA 0, 68, .inl ms_z))]) (wr := []) ⟨hx, hb, hml, hown, hts⟩ hE (cX11_truly_1 l D cA hm0 ((um 16)) ((um 0)) ((um 14)) ((um 1)) ((um 2)) ((um 15)) ((um 3)) ((um 17)) ((um 4)) ((um 5)) ((um 6)) ((um 7)) ((um 8)) ((um 9)) ((um 10)) ((um 11)) ((um 12)) ((um 13)) ((xs 1)) ((xs 2)) ((xs 3))) (cwV 3 hts gL_law_X11_truly rfl rfl rfl (by decide +kernel) ⟨Nat.le_of_ble_eq_true rfl, Nat.le_of_ble_eq_true rfl⟩) hP hD hS hA [0, 17] [] rfl rfl rfl rfl (by decide) 0 11 rfl rfl rfl hl.1 rfl (Nat.le_of_ble_eq_true rfl) dL_law_513 ⟨Nat.le_of_ble_eq_true rfl, Nat.le_of_ble_eq_true rfl⟩ (fun r4 u3 H locs hp hP hD hS => ?_)
  subst hp
  refine lv_icmp_eq (tgt := 988) hx hb dL_law_516 (by decide) (fun _ => ?_) (fun c => absurd (by decide) c)
  exact law_end C0 (Nat.le_of_ble_eq_true rfl) (Nat.le_of_ble_eq_true rfl) hS hl
set_option maxHeartbeats 4000000 in
set_option maxRecDepth 100000 in
theorem law_13 (l : Launch) (D : va_G) (cA : Nat → ClassId) (hx0 hm0 : Nat) (ux um : Nat → Nat) {p : Program} {e : Env} {s : State} {m : MethodId} {below : List Frame} {meth : Method} {c : Code} {b : Nat} {xs : Nat → Int32} {H : Heap} {locs : List Loc} {ls : Array Slot} (C0 : lw_At p s m meth c b 4 xs) (hE : ms_EV D cA s) (hP : va_P D vwCl (ms_WX cA hx0 ux ++ ms_WM cA hm0 um) H) (hD : va_D (fun q : Nat => s.heap.size ≤ q) (ms_WX cA hx0 ux ++ ms_WM cA hm0 um)) (hS : va_S (fun q : Nat => s.heap.size ≤ q) s.heap H locs) (hl : lv_has ls 4 [(3, .int 0), (2, .ref hm0), (1, .ref hx0), (0, .ref b)]) : W p l e room_1 s m #[Value.ref b] below meth c H locs 69 1489 (lw_Z below #[Value.ref b] s) (F0 m 521 ls []) := by
  obtain ⟨hx, hb, hr, hml, hown, hts0, hX, hbl, hlocks, hgv⟩ := id C0
  have hb : c.code = cL_law := hb
  have hown : s.vm.findClass RL = some m.cls := hown
  have hts : ∀ w ∈ wsL_law, w.before #[Value.ref b] s = true := fun w h => hts0 w (wsL_law_in w h)
  have hA : ∀ q : Nat, s.heap.size ≤ q → (fun q : Nat => s.heap.size ≤ q) q := fun _ h => h
  have hbA : ¬ (fun q : Nat => s.heap.size ≤ q) b := Nat.not_le.mpr hbl
  refine lv_aload_n hx hb dL_law_521 rfl (lv_at hl 2 rfl) ?_
  refine ms_cVi (qc := (RX10, TX10, 12)) (wc := [(hx0, .inr (10, [.ref ((ux 0)), .ref ((ux 11)), .ref ((ux 20)), .ref ((ux 22)), .ref ((ux 24)), .int 0, .ref ((ux 31)), .ref ((ux 38)), .ref ((ux 41)), .ref ((ux 44)), .ref ((ux 47)), .ref ((ux 48))])), ((ux 11), .inr (2, [.int 0, .int 0, .int 0, .int 0, .int 0, .ref ((ux 12)), .ref ((ux 13)), .ref ((ux 14)), .ref ((ux 15)), .ref ((ux 16)), .ref ((ux 17)), .ref ((ux 18)), .ref ((ux 19))]))]) (wr := ms_WM cA hm0 um) ⟨hx, hb, hml, hown, hts⟩ hE (cX10_adds_1 l D cA hx0 ((ux 11)) ((ux 0)) ((ux 20)) ((ux 22)) ((ux 24)) ((ux 31)) ((ux 38)) ((ux 41)) ((ux 44)) ((ux 47)) ((ux 48)) ((ux 12)) ((ux 13)) ((ux 14)) ((ux 15)) ((ux 16)) ((ux 17)) ((ux 18)) ((ux 19))) (cwV 0 hts gL_law_X10_adds rfl rfl rfl (by decide +kernel) ⟨Nat.le_of_ble_eq_true rfl, Nat.le_of_ble_eq_true rfl⟩) hP hD hS hA [0, 12] [50, 51, 52, 53, 54, 55, 56, 57, 58, 59, 60, 61, 62, 63, 64, 65, 66, 67, 68] rfl rfl rfl rfl (by decide) 0 10 rfl rfl rfl hl.1 rfl (Nat.le_of_ble_eq_true rfl) dL_law_522 ⟨Nat.le_of_ble_eq_true rfl, Nat.le_of_ble_eq_true rfl⟩ (fun r2 u1 H locs hp hP hD hS => ?_)
  subst hp
  refine lv_aload_n hx hb dL_law_525 rfl (lv_at hl 1 rfl) ?_
  refine ms_cVi (qc := (RX11, TX11, 32)) (wc := [(hm0, .inr (11, [.ref ((um 16)), .ref ((um 0)), .ref ((um 14)), .ref ((um 1)), .int 0, .ref ((um 2)), .ref ((um 15)), .long 0, .ref ((um 3)), .int 0, .int (-1), .ref ((um 17)), .ref ((um 4)), .int 0, .ref ((um 5)), .int 0, .int 0, .int 0, .int 0, .int 0, .int 0, .int 0, .ref ((um 6)), .ref ((um 7)), .ref ((um 8)), .int 0, .ref ((um 9)), .ref ((um 10)), .ref ((um 11)), .ref ((um 12)), .int 0, .ref ((um 13))])), ((um 16), .inl (cA 0, 68, .inl ms_z))]) (wr := []) ⟨hx, hb, hml, hown, hts⟩ hE (cX11_adds_1 l D cA hm0 ((um 16)) ((um 0)) ((um 14)) ((um 1)) ((um 2)) ((um 15)) ((um 3)) ((um 17)) ((um 4)) ((um 5)) ((um 6)) ((um 7)) ((um 8)) ((um 9)) ((um 10)) ((um 11)) ((um 12)) ((um 13))) (cwV 0 hts gL_law_X11_adds rfl rfl rfl (by decide +kernel) ⟨Nat.le_of_ble_eq_true rfl, Nat.le_of_ble_eq_true rfl⟩) hP hD hS hA [0, 17] [] rfl rfl rfl rfl (by decide) 0 11 rfl rfl rfl hl.1 rfl (Nat.le_of_ble_eq_true rfl) dL_law_526 ⟨Nat.le_of_ble_eq_true rfl, Nat.le_of_ble_eq_true rfl⟩ (fun r4 u3 H locs hp hP hD hS => ?_)
  subst hp
  refine lv_icmp_eq (tgt := 988) hx hb dL_law_529 (by decide) (fun _ => ?_) (fun c => absurd (by decide) c)
  exact law_end C0 (Nat.le_of_ble_eq_true rfl) (Nat.le_of_ble_eq_true rfl) hS hl
set_option maxHeartbeats 4000000 in
set_option maxRecDepth 100000 in
theorem law_14 (l : Launch) (D : va_G) (cA : Nat → ClassId) (hx0 hm0 : Nat) (ux um : Nat → Nat) {p : Program} {e : Env} {s : State} {m : MethodId} {below : List Frame} {meth : Method} {c : Code} {b : Nat} {xs : Nat → Int32} {H : Heap} {locs : List Loc} {ls : Array Slot} (C0 : lw_At p s m meth c b 4 xs) (hE : ms_EV D cA s) (hP : va_P D vwCl (ms_WX cA hx0 ux ++ ms_WM cA hm0 um) H) (hD : va_D (fun q : Nat => s.heap.size ≤ q) (ms_WX cA hx0 ux ++ ms_WM cA hm0 um)) (hS : va_S (fun q : Nat => s.heap.size ≤ q) s.heap H locs) (hl : lv_has ls 4 [(3, .int 0), (2, .ref hm0), (1, .ref hx0), (0, .ref b)]) : W p l e room_1 s m #[Value.ref b] below meth c H locs 69 1489 (lw_Z below #[Value.ref b] s) (F0 m 534 ls []) := by
  obtain ⟨hx, hb, hr, hml, hown, hts0, hX, hbl, hlocks, hgv⟩ := id C0
  have hb : c.code = cL_law := hb
  have hown : s.vm.findClass RL = some m.cls := hown
  have hts : ∀ w ∈ wsL_law, w.before #[Value.ref b] s = true := fun w h => hts0 w (wsL_law_in w h)
  have hA : ∀ q : Nat, s.heap.size ≤ q → (fun q : Nat => s.heap.size ≤ q) q := fun _ h => h
  have hbA : ¬ (fun q : Nat => s.heap.size ≤ q) b := Nat.not_le.mpr hbl
  by_cases g1_1 : (xs 1).toInt ≤ -2
  · skip
    refine lv_aload_n hx hb dL_law_534 rfl (lv_at hl 2 rfl) ?_
    refine lv_aload_n hx hb dL_law_535 rfl (lv_at hl 3 rfl) ?_
    refine lv_iload_n hx hb dL_law_536 rfl (lv_at hl 0 rfl) ?_
    refine lv_iconst (v := 1) hx hb dL_law_537 (by decide) ?_
    refine lv_iadd hx hb dL_law_538 ?_
    refine ms_eqi (y := 1) (by decide) ?_
    refine ms_sld hx hb hX hbl hbA hS 1 rfl (by decide) (by decide) dL_law_539 ?_
    refine ms_cVi (qc := (RX10, TX10, 12)) (wc := [(hx0, .inr (10, [.ref ((ux 0)), .ref ((ux 11)), .ref ((ux 20)), .ref ((ux 22)), .ref ((ux 24)), .int 0, .ref ((ux 31)), .ref ((ux 38)), .ref ((ux 41)), .ref ((ux 44)), .ref ((ux 47)), .ref ((ux 48))])), ((ux 11), .inr (2, [.int 0, .int 0, .int 0, .int 0, .int 0, .ref ((ux 12)), .ref ((ux 13)), .ref ((ux 14)), .ref ((ux 15)), .ref ((ux 16)), .ref ((ux 17)), .ref ((ux 18)), .ref ((ux 19))]))]) (wr := ms_WM cA hm0 um) ⟨hx, hb, hml, hown, hts⟩ hE (cX10_mend_1 l D cA hx0 ((ux 11)) ((ux 0)) ((ux 20)) ((ux 22)) ((ux 24)) ((ux 31)) ((ux 38)) ((ux 41)) ((ux 44)) ((ux 47)) ((ux 48)) ((ux 12)) ((ux 13)) ((ux 14)) ((ux 15)) ((ux 16)) ((ux 17)) ((ux 18)) ((ux 19)) ((xs 1)) (by omega)) (cwV 1 hts gL_law_X10_mend rfl rfl rfl (by decide +kernel) ⟨Nat.le_of_ble_eq_true rfl, Nat.le_of_ble_eq_true rfl⟩) hP hD hS hA [0, 12] [50, 51, 52, 53, 54, 55, 56, 57, 58, 59, 60, 61, 62, 63, 64, 65, 66, 67, 68] rfl rfl rfl rfl (by decide) 0 10 rfl rfl rfl hl.1 rfl (Nat.le_of_ble_eq_true rfl) dL_law_540 ⟨Nat.le_of_ble_eq_true rfl, Nat.le_of_ble_eq_true rfl⟩ (fun r3 u2 H locs hp hP hD hS => ?_)
    subst hp
    refine lv_aload_n hx hb dL_law_543 rfl (lv_at hl 1 rfl) ?_
    refine lv_aload_n hx hb dL_law_544 rfl (lv_at hl 3 rfl) ?_
    refine lv_iload_n hx hb dL_law_545 rfl (lv_at hl 0 rfl) ?_
    refine lv_iconst (v := 1) hx hb dL_law_546 (by decide) ?_
    refine lv_iadd hx hb dL_law_547 ?_
    refine ms_eqi (y := 1) (by decide) ?_
    refine ms_sld hx hb hX hbl hbA hS 1 rfl (by decide) (by decide) dL_law_548 ?_
    refine ms_cVi (qc := (RX11, TX11, 32)) (wc := [(hm0, .inr (11, [.ref ((um 16)), .ref ((um 0)), .ref ((um 14)), .ref ((um 1)), .int 0, .ref ((um 2)), .ref ((um 15)), .long 0, .ref ((um 3)), .int 0, .int (-1), .ref ((um 17)), .ref ((um 4)), .int 0, .ref ((um 5)), .int 0, .int 0, .int 0, .int 0, .int 0, .int 0, .int 0, .ref ((um 6)), .ref ((um 7)), .ref ((um 8)), .int 0, .ref ((um 9)), .ref ((um 10)), .ref ((um 11)), .ref ((um 12)), .int 0, .ref ((um 13))])), ((um 16), .inl (cA 0, 68, .inl ms_z))]) (wr := []) ⟨hx, hb, hml, hown, hts⟩ hE (cX11_mend_1 l D cA hm0 ((um 16)) ((um 0)) ((um 14)) ((um 1)) ((um 2)) ((um 15)) ((um 3)) ((um 17)) ((um 4)) ((um 5)) ((um 6)) ((um 7)) ((um 8)) ((um 9)) ((um 10)) ((um 11)) ((um 12)) ((um 13)) ((xs 1)) (by omega)) (cwV 1 hts gL_law_X11_mend rfl rfl rfl (by decide +kernel) ⟨Nat.le_of_ble_eq_true rfl, Nat.le_of_ble_eq_true rfl⟩) hP hD hS hA [0, 17] [] rfl rfl rfl rfl (by decide) 0 11 rfl rfl rfl hl.1 rfl (Nat.le_of_ble_eq_true rfl) dL_law_549 ⟨Nat.le_of_ble_eq_true rfl, Nat.le_of_ble_eq_true rfl⟩ (fun r5 u4 H locs hp hP hD hS => ?_)
    subst hp
    refine lv_icmp_eq (tgt := 988) hx hb dL_law_552 (by decide) (fun _ => ?_) (fun c => absurd (by decide) c)
    exact law_end C0 (Nat.le_of_ble_eq_true rfl) (Nat.le_of_ble_eq_true rfl) hS hl
  · skip
    by_cases g1_6 : (xs 1).toInt ≤ -1
    · skip
      have e1 : xs 1 = (-1) := Int32.toInt_inj.mp (by have z : ((-1) : Int32).toInt = -1 := (by decide); omega)
      refine lv_aload_n hx hb dL_law_534 rfl (lv_at hl 2 rfl) ?_
      refine lv_aload_n hx hb dL_law_535 rfl (lv_at hl 3 rfl) ?_
      refine lv_iload_n hx hb dL_law_536 rfl (lv_at hl 0 rfl) ?_
      refine lv_iconst (v := 1) hx hb dL_law_537 (by decide) ?_
      refine lv_iadd hx hb dL_law_538 ?_
      refine ms_eqi (y := 1) (by decide) ?_
      refine ms_sld hx hb hX hbl hbA hS 1 rfl (by decide) (by decide) dL_law_539 ?_
      refine ms_eqi (y := (-1)) e1 ?_
      refine ms_cVi (qc := (RX10, TX10, 12)) (wc := [(hx0, .inr (10, [.ref ((ux 0)), .ref ((ux 11)), .ref ((ux 20)), .ref ((ux 22)), .ref ((ux 24)), .int 0, .ref ((ux 31)), .ref ((ux 38)), .ref ((ux 41)), .ref ((ux 44)), .ref ((ux 47)), .ref ((ux 48))])), ((ux 20), .inr (8, [.ref ((ux 21)), .int 0, .int 0, .int 0, .int (-1), .int (-1)])), ((ux 41), .inr (3, [.ref ((ux 42)), .ref ((ux 43))])), ((ux 11), .inr (2, [.int 0, .int 0, .int 0, .int 0, .int 0, .ref ((ux 12)), .ref ((ux 13)), .ref ((ux 14)), .ref ((ux 15)), .ref ((ux 16)), .ref ((ux 17)), .ref ((ux 18)), .ref ((ux 19))]))]) (wr := ms_WM cA hm0 um) ⟨hx, hb, hml, hown, hts⟩ hE (cX10_mend_2 l D cA hx0 ((ux 20)) ((ux 41)) ((ux 11)) ((ux 0)) ((ux 22)) ((ux 24)) ((ux 31)) ((ux 38)) ((ux 44)) ((ux 47)) ((ux 48)) ((ux 21)) ((ux 42)) ((ux 43)) ((ux 12)) ((ux 13)) ((ux 14)) ((ux 15)) ((ux 16)) ((ux 17)) ((ux 18)) ((ux 19))) (cwV 1 hts gL_law_X10_mend rfl rfl rfl (by decide +kernel) ⟨Nat.le_of_ble_eq_true rfl, Nat.le_of_ble_eq_true rfl⟩) hP hD hS hA [0, 21, 42, 12] [50, 51, 52, 53, 54, 55, 56, 57, 58, 59, 60, 61, 62, 63, 64, 65, 66, 67, 68] rfl rfl rfl rfl (by decide) 0 10 rfl rfl rfl hl.1 rfl (Nat.le_of_ble_eq_true rfl) dL_law_540 ⟨Nat.le_of_ble_eq_true rfl, Nat.le_of_ble_eq_true rfl⟩ (fun r8 u7 H locs hp hP hD hS => ?_)
      subst hp
      refine lv_aload_n hx hb dL_law_543 rfl (lv_at hl 1 rfl) ?_
      refine lv_aload_n hx hb dL_law_544 rfl (lv_at hl 3 rfl) ?_
      refine lv_iload_n hx hb dL_law_545 rfl (lv_at hl 0 rfl) ?_
      refine lv_iconst (v := 1) hx hb dL_law_546 (by decide) ?_
      refine lv_iadd hx hb dL_law_547 ?_
      refine ms_eqi (y := 1) (by decide) ?_
      refine ms_sld hx hb hX hbl hbA hS 1 rfl (by decide) (by decide) dL_law_548 ?_
      refine ms_eqi (y := (-1)) e1 ?_
      refine ms_cVi (qc := (RX11, TX11, 32)) (wc := [(hm0, .inr (11, [.ref ((um 16)), .ref ((um 0)), .ref ((um 14)), .ref ((um 1)), .int 0, .ref ((um 2)), .ref ((um 15)), .long 0, .ref ((um 3)), .int 0, .int (-1), .ref ((um 17)), .ref ((um 4)), .int 0, .ref ((um 5)), .int 0, .int 0, .int 0, .int 0, .int 0, .int 0, .int 0, .ref ((um 6)), .ref ((um 7)), .ref ((um 8)), .int 0, .ref ((um 9)), .ref ((um 10)), .ref ((um 11)), .ref ((um 12)), .int 0, .ref ((um 13))])), ((um 16), .inl (cA 0, 68, .inl ms_z))]) (wr := []) ⟨hx, hb, hml, hown, hts⟩ hE (cX11_mend_2 l D cA hm0 ((um 16)) ((um 0)) ((um 14)) ((um 1)) ((um 2)) ((um 15)) ((um 3)) ((um 17)) ((um 4)) ((um 5)) ((um 6)) ((um 7)) ((um 8)) ((um 9)) ((um 10)) ((um 11)) ((um 12)) ((um 13))) (cwV 1 hts gL_law_X11_mend rfl rfl rfl (by decide +kernel) ⟨Nat.le_of_ble_eq_true rfl, Nat.le_of_ble_eq_true rfl⟩) hP hD hS hA [0, 17] [] rfl rfl rfl rfl (by decide) 0 11 rfl rfl rfl hl.1 rfl (Nat.le_of_ble_eq_true rfl) dL_law_549 ⟨Nat.le_of_ble_eq_true rfl, Nat.le_of_ble_eq_true rfl⟩ (fun r10 u9 H locs hp hP hD hS => ?_)
      subst hp
      refine lv_icmp_eq (tgt := 988) hx hb dL_law_552 (by decide) (fun _ => ?_) (fun c => absurd (by decide) c)
      exact law_end C0 (Nat.le_of_ble_eq_true rfl) (Nat.le_of_ble_eq_true rfl) hS hl
    · skip
      refine lv_aload_n hx hb dL_law_534 rfl (lv_at hl 2 rfl) ?_
      refine lv_aload_n hx hb dL_law_535 rfl (lv_at hl 3 rfl) ?_
      refine lv_iload_n hx hb dL_law_536 rfl (lv_at hl 0 rfl) ?_
      refine lv_iconst (v := 1) hx hb dL_law_537 (by decide) ?_
      refine lv_iadd hx hb dL_law_538 ?_
      refine ms_eqi (y := 1) (by decide) ?_
      refine ms_sld hx hb hX hbl hbA hS 1 rfl (by decide) (by decide) dL_law_539 ?_
      refine ms_cVi (qc := (RX10, TX10, 12)) (wc := [(hx0, .inr (10, [.ref ((ux 0)), .ref ((ux 11)), .ref ((ux 20)), .ref ((ux 22)), .ref ((ux 24)), .int 0, .ref ((ux 31)), .ref ((ux 38)), .ref ((ux 41)), .ref ((ux 44)), .ref ((ux 47)), .ref ((ux 48))])), ((ux 11), .inr (2, [.int 0, .int 0, .int 0, .int 0, .int 0, .ref ((ux 12)), .ref ((ux 13)), .ref ((ux 14)), .ref ((ux 15)), .ref ((ux 16)), .ref ((ux 17)), .ref ((ux 18)), .ref ((ux 19))]))]) (wr := ms_WM cA hm0 um) ⟨hx, hb, hml, hown, hts⟩ hE (cX10_mend_3 l D cA hx0 ((ux 11)) ((ux 0)) ((ux 20)) ((ux 22)) ((ux 24)) ((ux 31)) ((ux 38)) ((ux 41)) ((ux 44)) ((ux 47)) ((ux 48)) ((ux 12)) ((ux 13)) ((ux 14)) ((ux 15)) ((ux 16)) ((ux 17)) ((ux 18)) ((ux 19)) ((xs 1)) (by omega)) (cwV 1 hts gL_law_X10_mend rfl rfl rfl (by decide +kernel) ⟨Nat.le_of_ble_eq_true rfl, Nat.le_of_ble_eq_true rfl⟩) hP hD hS hA [0, 12] [50, 51, 52, 53, 54, 55, 56, 57, 58, 59, 60, 61, 62, 63, 64, 65, 66, 67, 68] rfl rfl rfl rfl (by decide) 0 10 rfl rfl rfl hl.1 rfl (Nat.le_of_ble_eq_true rfl) dL_law_540 ⟨Nat.le_of_ble_eq_true rfl, Nat.le_of_ble_eq_true rfl⟩ (fun r12 u11 H locs hp hP hD hS => ?_)
      subst hp
      refine lv_aload_n hx hb dL_law_543 rfl (lv_at hl 1 rfl) ?_
      refine lv_aload_n hx hb dL_law_544 rfl (lv_at hl 3 rfl) ?_
      refine lv_iload_n hx hb dL_law_545 rfl (lv_at hl 0 rfl) ?_
      refine lv_iconst (v := 1) hx hb dL_law_546 (by decide) ?_
      refine lv_iadd hx hb dL_law_547 ?_
      refine ms_eqi (y := 1) (by decide) ?_
      refine ms_sld hx hb hX hbl hbA hS 1 rfl (by decide) (by decide) dL_law_548 ?_
      refine ms_cVi (qc := (RX11, TX11, 32)) (wc := [(hm0, .inr (11, [.ref ((um 16)), .ref ((um 0)), .ref ((um 14)), .ref ((um 1)), .int 0, .ref ((um 2)), .ref ((um 15)), .long 0, .ref ((um 3)), .int 0, .int (-1), .ref ((um 17)), .ref ((um 4)), .int 0, .ref ((um 5)), .int 0, .int 0, .int 0, .int 0, .int 0, .int 0, .int 0, .ref ((um 6)), .ref ((um 7)), .ref ((um 8)), .int 0, .ref ((um 9)), .ref ((um 10)), .ref ((um 11)), .ref ((um 12)), .int 0, .ref ((um 13))])), ((um 16), .inl (cA 0, 68, .inl ms_z))]) (wr := []) ⟨hx, hb, hml, hown, hts⟩ hE (cX11_mend_3 l D cA hm0 ((um 16)) ((um 0)) ((um 14)) ((um 1)) ((um 2)) ((um 15)) ((um 3)) ((um 17)) ((um 4)) ((um 5)) ((um 6)) ((um 7)) ((um 8)) ((um 9)) ((um 10)) ((um 11)) ((um 12)) ((um 13)) ((xs 1)) (by omega)) (cwV 1 hts gL_law_X11_mend rfl rfl rfl (by decide +kernel) ⟨Nat.le_of_ble_eq_true rfl, Nat.le_of_ble_eq_true rfl⟩) hP hD hS hA [0, 17] [] rfl rfl rfl rfl (by decide) 0 11 rfl rfl rfl hl.1 rfl (Nat.le_of_ble_eq_true rfl) dL_law_549 ⟨Nat.le_of_ble_eq_true rfl, Nat.le_of_ble_eq_true rfl⟩ (fun r14 u13 H locs hp hP hD hS => ?_)
      subst hp
      refine lv_icmp_eq (tgt := 988) hx hb dL_law_552 (by decide) (fun _ => ?_) (fun c => absurd (by decide) c)
      exact law_end C0 (Nat.le_of_ble_eq_true rfl) (Nat.le_of_ble_eq_true rfl) hS hl
set_option maxHeartbeats 4000000 in
set_option maxRecDepth 100000 in
theorem law_15 (l : Launch) (D : va_G) (cA : Nat → ClassId) (hx0 hm0 : Nat) (ux um : Nat → Nat) {p : Program} {e : Env} {s : State} {m : MethodId} {below : List Frame} {meth : Method} {c : Code} {b : Nat} {xs : Nat → Int32} {H : Heap} {locs : List Loc} {ls : Array Slot} (C0 : lw_At p s m meth c b 4 xs) (hE : ms_EV D cA s) (hP : va_P D vwCl (ms_WX cA hx0 ux ++ ms_WM cA hm0 um) H) (hD : va_D (fun q : Nat => s.heap.size ≤ q) (ms_WX cA hx0 ux ++ ms_WM cA hm0 um)) (hS : va_S (fun q : Nat => s.heap.size ≤ q) s.heap H locs) (hl : lv_has ls 4 [(3, .int 0), (2, .ref hm0), (1, .ref hx0), (0, .ref b)]) : W p l e room_1 s m #[Value.ref b] below meth c H locs 69 1489 (lw_Z below #[Value.ref b] s) (F0 m 557 ls []) := by
  obtain ⟨hx, hb, hr, hml, hown, hts0, hX, hbl, hlocks, hgv⟩ := id C0
  have hb : c.code = cL_law := hb
  have hown : s.vm.findClass RL = some m.cls := hown
  have hts : ∀ w ∈ wsL_law, w.before #[Value.ref b] s = true := fun w h => hts0 w (wsL_law_in w h)
  have hA : ∀ q : Nat, s.heap.size ≤ q → (fun q : Nat => s.heap.size ≤ q) q := fun _ h => h
  have hbA : ¬ (fun q : Nat => s.heap.size ≤ q) b := Nat.not_le.mpr hbl
  refine lv_aload_n hx hb dL_law_557 rfl (lv_at hl 2 rfl) ?_
  refine lv_aload_n hx hb dL_law_558 rfl (lv_at hl 3 rfl) ?_
  refine lv_iload_n hx hb dL_law_559 rfl (lv_at hl 0 rfl) ?_
  refine lv_iconst (v := 1) hx hb dL_law_560 (by decide) ?_
  refine lv_iadd hx hb dL_law_561 ?_
  refine ms_eqi (y := 1) (by decide) ?_
  refine ms_sld hx hb hX hbl hbA hS 1 rfl (by decide) (by decide) dL_law_562 ?_
  refine lv_aload_n hx hb dL_law_563 rfl (lv_at hl 3 rfl) ?_
  refine lv_iload_n hx hb dL_law_564 rfl (lv_at hl 0 rfl) ?_
  refine lv_iconst (v := 2) hx hb dL_law_565 (by decide) ?_
  refine lv_iadd hx hb dL_law_566 ?_
  refine ms_eqi (y := 2) (by decide) ?_
  refine ms_sld hx hb hX hbl hbA hS 2 rfl (by decide) (by decide) dL_law_567 ?_
  refine ms_cVi (qc := (RX10, TX10, 12)) (wc := [(hx0, .inr (10, [.ref ((ux 0)), .ref ((ux 11)), .ref ((ux 20)), .ref ((ux 22)), .ref ((ux 24)), .int 0, .ref ((ux 31)), .ref ((ux 38)), .ref ((ux 41)), .ref ((ux 44)), .ref ((ux 47)), .ref ((ux 48))])), ((ux 11), .inr (2, [.int 0, .int 0, .int 0, .int 0, .int 0, .ref ((ux 12)), .ref ((ux 13)), .ref ((ux 14)), .ref ((ux 15)), .ref ((ux 16)), .ref ((ux 17)), .ref ((ux 18)), .ref ((ux 19))]))]) (wr := ms_WM cA hm0 um) ⟨hx, hb, hml, hown, hts⟩ hE (cX10_want_1 l D cA hx0 ((ux 11)) ((ux 0)) ((ux 20)) ((ux 22)) ((ux 24)) ((ux 31)) ((ux 38)) ((ux 41)) ((ux 44)) ((ux 47)) ((ux 48)) ((ux 12)) ((ux 13)) ((ux 14)) ((ux 15)) ((ux 16)) ((ux 17)) ((ux 18)) ((ux 19)) ((xs 1)) ((xs 2))) (cwV 2 hts gL_law_X10_want rfl rfl rfl (by decide +kernel) ⟨Nat.le_of_ble_eq_true rfl, Nat.le_of_ble_eq_true rfl⟩) hP hD hS hA [0, 12] [50, 51, 52, 53, 54, 55, 56, 57, 58, 59, 60, 61, 62, 63, 64, 65, 66, 67, 68] rfl rfl rfl rfl (by decide) 0 10 rfl rfl rfl hl.1 rfl (Nat.le_of_ble_eq_true rfl) dL_law_568 ⟨Nat.le_of_ble_eq_true rfl, Nat.le_of_ble_eq_true rfl⟩ (fun r2 u1 H locs hp hP hD hS => ?_)
  subst hp
  refine lv_aload_n hx hb dL_law_571 rfl (lv_at hl 1 rfl) ?_
  refine lv_aload_n hx hb dL_law_572 rfl (lv_at hl 3 rfl) ?_
  refine lv_iload_n hx hb dL_law_573 rfl (lv_at hl 0 rfl) ?_
  refine lv_iconst (v := 1) hx hb dL_law_574 (by decide) ?_
  refine lv_iadd hx hb dL_law_575 ?_
  refine ms_eqi (y := 1) (by decide) ?_
  refine ms_sld hx hb hX hbl hbA hS 1 rfl (by decide) (by decide) dL_law_576 ?_
  refine lv_aload_n hx hb dL_law_577 rfl (lv_at hl 3 rfl) ?_
  refine lv_iload_n hx hb dL_law_578 rfl (lv_at hl 0 rfl) ?_
  refine lv_iconst (v := 2) hx hb dL_law_579 (by decide) ?_
  refine lv_iadd hx hb dL_law_580 ?_
  refine ms_eqi (y := 2) (by decide) ?_
  refine ms_sld hx hb hX hbl hbA hS 2 rfl (by decide) (by decide) dL_law_581 ?_
  refine ms_cVi (qc := (RX11, TX11, 32)) (wc := [(hm0, .inr (11, [.ref ((um 16)), .ref ((um 0)), .ref ((um 14)), .ref ((um 1)), .int 0, .ref ((um 2)), .ref ((um 15)), .long 0, .ref ((um 3)), .int 0, .int (-1), .ref ((um 17)), .ref ((um 4)), .int 0, .ref ((um 5)), .int 0, .int 0, .int 0, .int 0, .int 0, .int 0, .int 0, .ref ((um 6)), .ref ((um 7)), .ref ((um 8)), .int 0, .ref ((um 9)), .ref ((um 10)), .ref ((um 11)), .ref ((um 12)), .int 0, .ref ((um 13))])), ((um 16), .inl (cA 0, 68, .inl ms_z))]) (wr := []) ⟨hx, hb, hml, hown, hts⟩ hE (cX11_want_1 l D cA hm0 ((um 16)) ((um 0)) ((um 14)) ((um 1)) ((um 2)) ((um 15)) ((um 3)) ((um 17)) ((um 4)) ((um 5)) ((um 6)) ((um 7)) ((um 8)) ((um 9)) ((um 10)) ((um 11)) ((um 12)) ((um 13)) ((xs 1)) ((xs 2))) (cwV 2 hts gL_law_X11_want rfl rfl rfl (by decide +kernel) ⟨Nat.le_of_ble_eq_true rfl, Nat.le_of_ble_eq_true rfl⟩) hP hD hS hA [0, 17] [] rfl rfl rfl rfl (by decide) 0 11 rfl rfl rfl hl.1 rfl (Nat.le_of_ble_eq_true rfl) dL_law_582 ⟨Nat.le_of_ble_eq_true rfl, Nat.le_of_ble_eq_true rfl⟩ (fun r4 u3 H locs hp hP hD hS => ?_)
  subst hp
  refine lv_icmp_eq (tgt := 988) hx hb dL_law_585 (by decide) (fun _ => ?_) (fun c => absurd (by decide) c)
  exact law_end C0 (Nat.le_of_ble_eq_true rfl) (Nat.le_of_ble_eq_true rfl) hS hl
