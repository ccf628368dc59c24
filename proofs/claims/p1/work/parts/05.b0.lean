set_option maxHeartbeats 4000000 in
set_option maxRecDepth 100000 in
theorem law_0 (l : Launch) (D : va_G) (cA : Nat → ClassId) (hx0 hm0 : Nat) (ux um : Nat → Nat) {p : Program} {e : Env} {s : State} {m : MethodId} {below : List Frame} {meth : Method} {c : Code} {b : Nat} {xs : Nat → Int32} {H : Heap} {locs : List Loc} {ls : Array Slot} (C0 : lw_At p s m meth c b 4 xs) (hE : ms_EV D cA s) (hP : va_P D vwCl (ms_WX cA hx0 ux ++ ms_WM cA hm0 um) H) (hD : va_D (fun q : Nat => s.heap.size ≤ q) (ms_WX cA hx0 ux ++ ms_WM cA hm0 um)) (hS : va_S (fun q : Nat => s.heap.size ≤ q) s.heap H locs) (hl : lv_has ls 4 [(3, .int 0), (2, .ref hm0), (1, .ref hx0), (0, .ref b)]) : W p l e room_1 s m #[Value.ref b] below meth c H locs 69 1489 (lw_Z below #[Value.ref b] s) (F0 m 176 ls []) := by
  obtain ⟨hx, hb, hr, hml, hown, hts0, hX, hbl, hlocks, hgv⟩ := id C0
  have hb : c.code = cL_law := hb
  have hown : s.vm.findClass RL = some m.cls := hown
  have hts : ∀ w ∈ wsL_law, w.before #[Value.ref b] s = true := fun w h => hts0 w (wsL_law_in w h)
  have hA : ∀ q : Nat, s.heap.size ≤ q → (fun q : Nat => s.heap.size ≤ q) q := fun _ h => h
  have hbA : ¬ (fun q : Nat => s.heap.size ≤ q) b := Nat.not_le.mpr hbl
  by_cases g1_1 : (xs 1).toInt ≤ -1
  · skip
    refine lv_aload_n hx hb dL_law_176 rfl (lv_at hl 2 rfl) ?_
    refine lv_aload_n hx hb dL_law_177 rfl (lv_at hl 3 rfl) ?_
    refine lv_iload_n hx hb dL_law_178 rfl (lv_at hl 0 rfl) ?_
    refine lv_iconst (v := 1) hx hb dL_law_179 (by decide) ?_
    refine lv_iadd hx hb dL_law_180 ?_
    refine ms_eqi (y := 1) (by decide) ?_
    refine ms_sld hx hb hX hbl hbA hS 1 rfl (by decide) (by decide) dL_law_181 ?_
    refine ms_cVi (qc := (RX10, TX10, 12)) (wc := [(hx0, .inr (10, [.ref ((ux 0)), .ref ((ux 11)), .ref ((ux 20)), .ref ((ux 22)), .ref ((ux 24)), .int 0, .ref ((ux 31)), .ref ((ux 38)), .ref ((ux 41)), .ref ((ux 44)), .ref ((ux 47)), .ref ((ux 48))]))]) (wr := ms_WM cA hm0 um) ⟨hx, hb, hml, hown, hts⟩ hE (cX10_feed_1 l D cA hx0 ((ux 0)) ((ux 11)) ((ux 20)) ((ux 22)) ((ux 24)) ((ux 31)) ((ux 38)) ((ux 41)) ((ux 44)) ((ux 47)) ((ux 48)) ((xs 1)) (by omega)) (cwV 1 hts gL_law_X10_feed rfl rfl rfl (by decide +kernel) ⟨Nat.le_of_ble_eq_true rfl, Nat.le_of_ble_eq_true rfl⟩) hP hD hS hA [0] [50, 51, 52, 53, 54, 55, 56, 57, 58, 59, 60, 61, 62, 63, 64, 65, 66, 67, 68] rfl rfl rfl rfl (by decide) 0 10 rfl rfl rfl hl.1 rfl (Nat.le_of_ble_eq_true rfl) dL_law_182 ⟨Nat.le_of_ble_eq_true rfl, Nat.le_of_ble_eq_true rfl⟩ (fun r3 u2 H locs hp hP hD hS => ?_)
    subst hp
    refine lv_aload_n hx hb dL_law_185 rfl (lv_at hl 1 rfl) ?_
    refine lv_aload_n hx hb dL_law_186 rfl (lv_at hl 3 rfl) ?_
    refine lv_iload_n hx hb dL_law_187 rfl (lv_at hl 0 rfl) ?_
    refine lv_iconst (v := 1) hx hb dL_law_188 (by decide) ?_
    refine lv_iadd hx hb dL_law_189 ?_
    refine ms_eqi (y := 1) (by decide) ?_
    refine ms_sld hx hb hX hbl hbA hS 1 rfl (by decide) (by decide) dL_law_190 ?_
    refine ms_cVi (qc := (RX11, TX11, 32)) (wc := [(hm0, .inr (11, [.ref ((um 16)), .ref ((um 0)), .ref ((um 14)), .ref ((um 1)), .int 0, .ref ((um 2)), .ref ((um 15)), .long 0, .ref ((um 3)), .int 0, .int (-1), .ref ((um 17)), .ref ((um 4)), .int 0, .ref ((um 5)), .int 0, .int 0, .int 0, .int 0, .int 0, .int 0, .int 0, .ref ((um 6)), .ref ((um 7)), .ref ((um 8)), .int 0, .ref ((um 9)), .ref ((um 10)), .ref ((um 11)), .ref ((um 12)), .int 0, .ref ((um 13))]))]) (wr := []) ⟨hx, hb, hml, hown, hts⟩ hE (cX11_feed_1 l D cA hm0 ((um 16)) ((um 0)) ((um 14)) ((um 1)) ((um 2)) ((um 15)) ((um 3)) ((um 17)) ((um 4)) ((um 5)) ((um 6)) ((um 7)) ((um 8)) ((um 9)) ((um 10)) ((um 11)) ((um 12)) ((um 13)) ((xs 1)) (by omega)) (cwV 1 hts gL_law_X11_feed rfl rfl rfl (by decide +kernel) ⟨Nat.le_of_ble_eq_true rfl, Nat.le_of_ble_eq_true rfl⟩) hP hD hS hA [0] [] rfl rfl rfl rfl (by decide) 0 11 rfl rfl rfl hl.1 rfl (Nat.le_of_ble_eq_true rfl) dL_law_191 ⟨Nat.le_of_ble_eq_true rfl, Nat.le_of_ble_eq_true rfl⟩ (fun r5 u4 H locs hp hP hD hS => ?_)
    subst hp
    refine lv_icmp_eq (tgt := 988) hx hb dL_law_194 (by decide) (fun _ => ?_) (fun c => absurd (by decide) c)
    exact law_end C0 (Nat.le_of_ble_eq_true rfl) (Nat.le_of_ble_eq_true rfl) hS hl
  · skip
    by_cases g1_6 : (xs 1).toInt ≤ 255
    · skip
      refine lv_aload_n hx hb dL_law_176 rfl (lv_at hl 2 rfl) ?_
      refine lv_aload_n hx hb dL_law_177 rfl (lv_at hl 3 rfl) ?_
      refine lv_iload_n hx hb dL_law_178 rfl (lv_at hl 0 rfl) ?_
      refine lv_iconst (v := 1) hx hb dL_law_179 (by decide) ?_
      refine lv_iadd hx hb dL_law_180 ?_
      refine ms_eqi (y := 1) (by decide) ?_
      refine ms_sld hx hb hX hbl hbA hS 1 rfl (by decide) (by decide) dL_law_181 ?_
      refine ms_cVi (qc := (RX10, TX10, 12)) (wc := [(hx0, .inr (10, [.ref ((ux 0)), .ref ((ux 11)), .ref ((ux 20)), .ref ((ux 22)), .ref ((ux 24)), .int 0, .ref ((ux 31)), .ref ((ux 38)), .ref ((ux 41)), .ref ((ux 44)), .ref ((ux 47)), .ref ((ux 48))])), ((ux 0), .inr (6, [.ref ((ux 1)), .int 0, .int 0, .int 0, .int 0, .ref ((ux 2)), .int 0, .int (-1)])), ((ux 1), .inl (cA 0, 250, .inl ms_z))]) (wr := ms_WM cA hm0 um) ⟨hx, hb, hml, hown, hts⟩ hE (cX10_feed_2 l D cA hx0 ((ux 0)) ((ux 1)) ((ux 11)) ((ux 20)) ((ux 22)) ((ux 24)) ((ux 31)) ((ux 38)) ((ux 41)) ((ux 44)) ((ux 47)) ((ux 48)) ((ux 2)) ((xs 1)) (by omega) (by omega)) (cwV 1 hts gL_law_X10_feed rfl rfl rfl (by decide +kernel) ⟨Nat.le_of_ble_eq_true rfl, Nat.le_of_ble_eq_true rfl⟩) hP hD hS hA [0, 1, 2] [50, 51, 52, 53, 54, 55, 56, 57, 58, 59, 60, 61, 62, 63, 64, 65, 66, 67, 68] rfl rfl rfl rfl (by decide) 0 10 rfl rfl rfl hl.1 rfl (Nat.le_of_ble_eq_true rfl) dL_law_182 ⟨Nat.le_of_ble_eq_true rfl, Nat.le_of_ble_eq_true rfl⟩ (fun r8 u7 H locs hp hP hD hS => ?_)
      subst hp
      refine lv_aload_n hx hb dL_law_185 rfl (lv_at hl 1 rfl) ?_
      refine lv_aload_n hx hb dL_law_186 rfl (lv_at hl 3 rfl) ?_
      refine lv_iload_n hx hb dL_law_187 rfl (lv_at hl 0 rfl) ?_
      refine lv_iconst (v := 1) hx hb dL_law_188 (by decide) ?_
      refine lv_iadd hx hb dL_law_189 ?_
      refine ms_eqi (y := 1) (by decide) ?_
      refine ms_sld hx hb hX hbl hbA hS 1 rfl (by decide) (by decide) dL_law_190 ?_
      refine ms_cVi (qc := (RX11, TX11, 32)) (wc := [(hm0, .inr (11, [.ref ((um 16)), .ref ((um 0)), .ref ((um 14)), .ref ((um 1)), .int 0, .ref ((um 2)), .ref ((um 15)), .long 0, .ref ((um 3)), .int 0, .int (-1), .ref ((um 17)), .ref ((um 4)), .int 0, .ref ((um 5)), .int 0, .int 0, .int 0, .int 0, .int 0, .int 0, .int 0, .ref ((um 6)), .ref ((um 7)), .ref ((um 8)), .int 0, .ref ((um 9)), .ref ((um 10)), .ref ((um 11)), .ref ((um 12)), .int 0, .ref ((um 13))])), ((um 3), .inl (cA 0, 250, .inl ms_z))]) (wr := []) ⟨hx, hb, hml, hown, hts⟩ hE (cX11_feed_2 l D cA hm0 ((um 3)) ((um 16)) ((um 0)) ((um 14)) ((um 1)) ((um 2)) ((um 15)) ((um 17)) ((um 4)) ((um 5)) ((um 6)) ((um 7)) ((um 8)) ((um 9)) ((um 10)) ((um 11)) ((um 12)) ((um 13)) ((xs 1)) (by omega) (by omega)) (cwV 1 hts gL_law_X11_feed rfl rfl rfl (by decide +kernel) ⟨Nat.le_of_ble_eq_true rfl, Nat.le_of_ble_eq_true rfl⟩) hP hD hS hA [0, 4] [] rfl rfl rfl rfl (by decide) 0 11 rfl rfl rfl hl.1 rfl (Nat.le_of_ble_eq_true rfl) dL_law_191 ⟨Nat.le_of_ble_eq_true rfl, Nat.le_of_ble_eq_true rfl⟩ (fun r10 u9 H locs hp hP hD hS => ?_)
      subst hp
      refine lv_icmp_eq (tgt := 988) hx hb dL_law_194 (by decide) (fun _ => ?_) (fun c => absurd (by decide) c)
      exact law_end C0 (Nat.le_of_ble_eq_true rfl) (Nat.le_of_ble_eq_true rfl) hS hl
    · skip
      refine lv_aload_n hx hb dL_law_176 rfl (lv_at hl 2 rfl) ?_
      refine lv_aload_n hx hb dL_law_177 rfl (lv_at hl 3 rfl) ?_
      refine lv_iload_n hx hb dL_law_178 rfl (lv_at hl 0 rfl) ?_
      refine lv_iconst (v := 1) hx hb dL_law_179 (by decide) ?_
      refine lv_iadd hx hb dL_law_180 ?_
      refine ms_eqi (y := 1) (by decide) ?_
      refine ms_sld hx hb hX hbl hbA hS 1 rfl (by decide) (by decide) dL_law_181 ?_
      refine ms_cVi (qc := (RX10, TX10, 12)) (wc := [(hx0, .inr (10, [.ref ((ux 0)), .ref ((ux 11)), .ref ((ux 20)), .ref ((ux 22)), .ref ((ux 24)), .int 0, .ref ((ux 31)), .ref ((ux 38)), .ref ((ux 41)), .ref ((ux 44)), .ref ((ux 47)), .ref ((ux 48))]))]) (wr := ms_WM cA hm0 um) ⟨hx, hb, hml, hown, hts⟩ hE (cX10_feed_3 l D cA hx0 ((ux 0)) ((ux 11)) ((ux 20)) ((ux 22)) ((ux 24)) ((ux 31)) ((ux 38)) ((ux 41)) ((ux 44)) ((ux 47)) ((ux 48)) ((xs 1)) (by omega)) (cwV 1 hts gL_law_X10_feed rfl rfl rfl (by decide +kernel) ⟨Nat.le_of_ble_eq_true rfl, Nat.le_of_ble_eq_true rfl⟩) hP hD hS hA [0] [50, 51, 52, 53, 54, 55, 56, 57, 58, 59, 60, 61, 62, 63, 64, 65, 66, 67, 68] rfl rfl rfl rfl (by decide) 0 10 rfl rfl rfl hl.1 rfl (Nat.le_of_ble_eq_true rfl) dL_law_182 ⟨Nat.le_of_ble_eq_true rfl, Nat.le_of_ble_eq_true rfl⟩ (fun r12 u11 H locs hp hP hD hS => ?_)
      subst hp
      refine lv_aload_n hx hb dL_law_185 rfl (lv_at hl 1 rfl) ?_
      refine lv_aload_n hx hb dL_law_186 rfl (lv_at hl 3 rfl) ?_
      refine lv_iload_n hx hb dL_law_187 rfl (lv_at hl 0 rfl) ?_
      refine lv_iconst (v := 1) hx hb dL_law_188 (by decide) ?_
      refine lv_iadd hx hb dL_law_189 ?_
      refine ms_eqi (y := 1) (by decide) ?_
      refine ms_sld hx hb hX hbl hbA hS 1 rfl (by decide) (by decide) dL_law_190 ?_
      refine ms_cVi (qc := (RX11, TX11, 32)) (wc := [(hm0, .inr (11, [.ref ((um 16)), .ref ((um 0)), .ref ((um 14)), .ref ((um 1)), .int 0, .ref ((um 2)), .ref ((um 15)), .long 0, .ref ((um 3)), .int 0, .int (-1), .ref ((um 17)), .ref ((um 4)), .int 0, .ref ((um 5)), .int 0, .int 0, .int 0, .int 0, .int 0, .int 0, .int 0, .ref ((um 6)), .ref ((um 7)), .ref ((um 8)), .int 0, .ref ((um 9)), .ref ((um 10)), .ref ((um 11)), .ref ((um 12)), .int 0, .ref ((um 13))]))]) (wr := []) ⟨hx, hb, hml, hown, hts⟩ hE (cX11_feed_3 l D cA hm0 ((um 16)) ((um 0)) ((um 14)) ((um 1)) ((um 2)) ((um 15)) ((um 3)) ((um 17)) ((um 4)) ((um 5)) ((um 6)) ((um 7)) ((um 8)) ((um 9)) ((um 10)) ((um 11)) ((um 12)) ((um 13)) ((xs 1)) (by omega)) (cwV 1 hts gL_law_X11_feed rfl rfl rfl (by decide +kernel) ⟨Nat.le_of_ble_eq_true rfl, Nat.le_of_ble_eq_true rfl⟩) hP hD hS hA [0] [] rfl rfl rfl rfl (by decide) 0 11 rfl rfl rfl hl.1 rfl (Nat.le_of_ble_eq_true rfl) dL_law_191 ⟨Nat.le_of_ble_eq_true rfl, Nat.le_of_ble_eq_true rfl⟩ (fun r14 u13 H locs hp hP hD hS => ?_)
      subst hp
      refine lv_icmp_eq (tgt := 988) hx hb dL_law_194 (by decide) (fun _ => ?_) (fun c => absurd (by decide) c)
      exact law_end C0 (Nat.le_of_ble_eq_true rfl) (Nat.le_of_ble_eq_true rfl) hS hl
set_option maxHeartbeats 4000000 in
set_option maxRecDepth 100000 in
theorem law_1 (l : Launch) (D : va_G) (cA : Nat → ClassId) (hx0 hm0 : Nat) (ux um : Nat → Nat) {p : Program} {e : Env} {s : State} {m : MethodId} {below : List Frame} {meth : Method} {c : Code} {b : Nat} {xs : Nat → Int32} {H : Heap} {locs : List Loc} {ls : Array Slot} (C0 : lw_At p s m meth c b 4 xs) (hE : ms_EV D cA s) (hP : va_P D vwCl (ms_WX cA hx0 ux ++ ms_WM cA hm0 um) H) (hD : va_D (fun q : Nat => s.heap.size ≤ q) (ms_WX cA hx0 ux ++ ms_WM cA hm0 um)) (hS : va_S (fun q : Nat => s.heap.size ≤ q) s.heap H locs) (hl : lv_has ls 4 [(3, .int 0), (2, .ref hm0), (1, .ref hx0), (0, .ref b)]) : W p l e room_1 s m #[Value.ref b] below meth c H locs 69 1489 (lw_Z below #[Value.ref b] s) (F0 m 199 ls []) := by
  obtain ⟨hx, hb, hr, hml, hown, hts0, hX, hbl, hlocks, hgv⟩ := id C0
  have hb : c.code = cL_law := hb
  have hown : s.vm.findClass RL = some m.cls := hown
  have hts : ∀ w ∈ wsL_law, w.before #[Value.ref b] s = true := fun w h => hts0 w (wsL_law_in w h)
  have hA : ∀ q : Nat, s.heap.size ≤ q → (fun q : Nat => s.heap.size ≤ q) q := fun _ h => h
  have hbA : ¬ (fun q : Nat => s.heap.size ≤ q) b := Nat.not_le.mpr hbl
  refine lv_aload_n hx hb dL_law_199 rfl (lv_at hl 2 rfl) ?_
  refine ms_cVi (qc := (RX10, TX10, 12)) (wc := [(hx0, .inr (10, [.ref ((ux 0)), .ref ((ux 11)), .ref ((ux 20)), .ref ((ux 22)), .ref ((ux 24)), .int 0, .ref ((ux 31)), .ref ((ux 38)), .ref ((ux 41)), .ref ((ux 44)), .ref ((ux 47)), .ref ((ux 48))])), ((ux 0), .inr (6, [.ref ((ux 1)), .int 0, .int 0, .int 0, .int 0, .ref ((ux 2)), .int 0, .int (-1)])), ((ux 2), .inr (2, [.int 0, .int 0, .int 0, .int 0, .int 0, .ref ((ux 3)), .ref ((ux 4)), .ref ((ux 5)), .ref ((ux 6)), .ref ((ux 7)), .ref ((ux 8)), .ref ((ux 9)), .ref ((ux 10))])), ((ux 20), .inr (8, [.ref ((ux 21)), .int 0, .int 0, .int 0, .int (-1), .int (-1)])), ((ux 6), .inl (cA 0, 9, .inl ms_z)), ((ux 21), .inl (cA 0, 9, .inl ms_z)), ((ux 31), .inr (5, [.ref ((ux 32)), .ref ((ux 33)), .ref ((ux 34)), .ref ((ux 35)), .int 0, .ref ((ux 36)), .ref ((ux 37)), .int 0])), ((ux 32), .inl (cA 0, 9, .inl ms_z)), ((ux 22), .inr (0, [.ref ((ux 23)), .int 0, .int 0])), ((ux 24), .inl (cA 2, 2, .inr (.inr (.inr (.inr (va_up (va_up (fun _ => none) 0 (some ((ux 25)))) 1 (some ((ux 28))))))))), ((ux 25), .inr (1, [.ref ((ux 26)), .int 0, .int 0])), ((ux 28), .inr (1, [.ref ((ux 29)), .int 0, .int 0]))]) (wr := ms_WM cA hm0 um) ⟨hx, hb, hml, hown, hts⟩ hE (cX10_march_1 l D cA hx0 ((ux 0)) ((ux 2)) ((ux 20)) ((ux 6)) ((ux 21)) ((ux 31)) ((ux 32)) ((ux 22)) ((ux 24)) ((ux 25)) ((ux 28)) ((ux 11)) ((ux 38)) ((ux 41)) ((ux 44)) ((ux 47)) ((ux 48)) ((ux 1)) ((ux 3)) ((ux 4)) ((ux 5)) ((ux 7)) ((ux 8)) ((ux 9)) ((ux 10)) ((ux 33)) ((ux 34)) ((ux 35)) ((ux 36)) ((ux 37)) ((ux 23)) ((ux 26)) ((ux 29))) (cwV 0 hts gL_law_X10_march rfl rfl rfl (by decide +kernel) ⟨Nat.le_of_ble_eq_true rfl, Nat.le_of_ble_eq_true rfl⟩) hP hD hS hA [0, 1, 3, 21, 7, 22, 32, 33, 23, 25, 26, 29] [50, 51, 52, 53, 54, 55, 56, 57, 58, 59, 60, 61, 62, 63, 64, 65, 66, 67, 68] rfl rfl rfl rfl (by decide) 0 10 rfl rfl rfl hl.1 rfl (Nat.le_of_ble_eq_true rfl) dL_law_200 ⟨Nat.le_of_ble_eq_true rfl, Nat.le_of_ble_eq_true rfl⟩ (fun r2 u1 H locs hp hP hD hS => ?_)
  subst hp
  refine lv_aload_n hx hb dL_law_203 rfl (lv_at hl 1 rfl) ?_
  refine ms_cVi (qc := (RX11, TX11, 32)) (wc := [(hm0, .inr (11, [.ref ((um 16)), .ref ((um 0)), .ref ((um 14)), .ref ((um 1)), .int 0, .ref ((um 2)), .ref ((um 15)), .long 0, .ref ((um 3)), .int 0, .int (-1), .ref ((um 17)), .ref ((um 4)), .int 0, .ref ((um 5)), .int 0, .int 0, .int 0, .int 0, .int 0, .int 0, .int 0, .ref ((um 6)), .ref ((um 7)), .ref ((um 8)), .int 0, .ref ((um 9)), .ref ((um 10)), .ref ((um 11)), .ref ((um 12)), .int 0, .ref ((um 13))])), ((um 14), .inl (cA 0, 14, .inl ms_n)), ((um 15), .inl (cA 1, 2, .inl ms_z)), ((um 16), .inl (cA 0, 68, .inl ms_z)), ((um 17), .inl (cA 0, 9, .inl ms_z)), ((um 0), .inl (cA 0, 68, .inl ms_z))]) (wr := []) ⟨hx, hb, hml, hown, hts⟩ hE (cX11_march_1 l D cA hm0 ((um 14)) ((um 15)) ((um 16)) ((um 17)) ((um 0)) ((um 1)) ((um 2)) ((um 3)) ((um 4)) ((um 5)) ((um 6)) ((um 7)) ((um 8)) ((um 9)) ((um 10)) ((um 11)) ((um 12)) ((um 13))) (cwV 0 hts gL_law_X11_march rfl rfl rfl (by decide +kernel) ⟨Nat.le_of_ble_eq_true rfl, Nat.le_of_ble_eq_true rfl⟩) hP hD hS hA [0, 15, 16, 17, 18, 1] [] rfl rfl rfl rfl (by decide) 0 11 rfl rfl rfl hl.1 rfl (Nat.le_of_ble_eq_true rfl) dL_law_204 ⟨Nat.le_of_ble_eq_true rfl, Nat.le_of_ble_eq_true rfl⟩ (fun r4 u3 H locs hp hP hD hS => ?_)
  subst hp
  refine lv_icmp_eq (tgt := 988) hx hb dL_law_207 (by decide) (fun _ => ?_) (fun c => absurd (by decide) c)
  exact law_end C0 (Nat.le_of_ble_eq_true rfl) (Nat.le_of_ble_eq_true rfl) hS hl
set_option maxHeartbeats 4000000 in
set_option maxRecDepth 100000 in
theorem law_2 (l : Launch) (D : va_G) (cA : Nat → ClassId) (hx0 hm0 : Nat) (ux um : Nat → Nat) {p : Program} {e : Env} {s : State} {m : MethodId} {below : List Frame} {meth : Method} {c : Code} {b : Nat} {xs : Nat → Int32} {H : Heap} {locs : List Loc} {ls : Array Slot} (C0 : lw_At p s m meth c b 4 xs) (hE : ms_EV D cA s) (hP : va_P D vwCl (ms_WX cA hx0 ux ++ ms_WM cA hm0 um) H) (hD : va_D (fun q : Nat => s.heap.size ≤ q) (ms_WX cA hx0 ux ++ ms_WM cA hm0 um)) (hS : va_S (fun q : Nat => s.heap.size ≤ q) s.heap H locs) (hl : lv_has ls 4 [(3, .int 0), (2, .ref hm0), (1, .ref hx0), (0, .ref b)]) : W p l e room_1 s m #[Value.ref b] below meth c H locs 69 1489 (lw_Z below #[Value.ref b] s) (F0 m 212 ls []) := by
  obtain ⟨hx, hb, hr, hml, hown, hts0, hX, hbl, hlocks, hgv⟩ := id C0
  have hb : c.code = cL_law := hb
  have hown : s.vm.findClass RL = some m.cls := hown
  have hts : ∀ w ∈ wsL_law, w.before #[Value.ref b] s = true := fun w h => hts0 w (wsL_law_in w h)
  have hA : ∀ q : Nat, s.heap.size ≤ q → (fun q : Nat => s.heap.size ≤ q) q := fun _ h => h
  have hbA : ¬ (fun q : Nat => s.heap.size ≤ q) b := Nat.not_le.mpr hbl
  refine lv_aload_n hx hb dL_law_212 rfl (lv_at hl 2 rfl) ?_
  refine ms_cVi (qc := (RX10, TX10, 12)) (wc := [(hx0, .inr (10, [.ref ((ux 0)), .ref ((ux 11)), .ref ((ux 20)), .ref ((ux 22)), .ref ((ux 24)), .int 0, .ref ((ux 31)), .ref ((ux 38)), .ref ((ux 41)), .ref ((ux 44)), .ref ((ux 47)), .ref ((ux 48))])), ((ux 0), .inr (6, [.ref ((ux 1)), .int 0, .int 0, .int 0, .int 0, .ref ((ux 2)), .int 0, .int (-1)]))]) (wr := ms_WM cA hm0 um) ⟨hx, hb, hml, hown, hts⟩ hE (cX10_fault_1 l D cA hx0 ((ux 0)) ((ux 11)) ((ux 20)) ((ux 22)) ((ux 24)) ((ux 31)) ((ux 38)) ((ux 41)) ((ux 44)) ((ux 47)) ((ux 48)) ((ux 1)) ((ux 2))) (cwV 0 hts gL_law_X10_fault rfl rfl rfl (by decide +kernel) ⟨Nat.le_of_ble_eq_true rfl, Nat.le_of_ble_eq_true rfl⟩) hP hD hS hA [0, 1] [50, 51, 52, 53, 54, 55, 56, 57, 58, 59, 60, 61, 62, 63, 64, 65, 66, 67, 68] rfl rfl rfl rfl (by decide) 0 10 rfl rfl rfl hl.1 rfl (Nat.le_of_ble_eq_true rfl) dL_law_213 ⟨Nat.le_of_ble_eq_true rfl, Nat.le_of_ble_eq_true rfl⟩ (fun r2 u1 H locs hp hP hD hS => ?_)
  subst hp
  refine lv_aload_n hx hb dL_law_216 rfl (lv_at hl 1 rfl) ?_
  refine ms_cVi (qc := (RX11, TX11, 32)) (wc := [(hm0, .inr (11, [.ref ((um 16)), .ref ((um 0)), .ref ((um 14)), .ref ((um 1)), .int 0, .ref ((um 2)), .ref ((um 15)), .long 0, .ref ((um 3)), .int 0, .int (-1), .ref ((um 17)), .ref ((um 4)), .int 0, .ref ((um 5)), .int 0, .int 0, .int 0, .int 0, .int 0, .int 0, .int 0, .ref ((um 6)), .ref ((um 7)), .ref ((um 8)), .int 0, .ref ((um 9)), .ref ((um 10)), .ref ((um 11)), .ref ((um 12)), .int 0, .ref ((um 13))]))]) (wr := []) ⟨hx, hb, hml, hown, hts⟩ hE (cX11_fault_1 l D cA hm0 ((um 16)) ((um 0)) ((um 14)) ((um 1)) ((um 2)) ((um 15)) ((um 3)) ((um 17)) ((um 4)) ((um 5)) ((um 6)) ((um 7)) ((um 8)) ((um 9)) ((um 10)) ((um 11)) ((um 12)) ((um 13))) (cwV 0 hts gL_law_X11_fault rfl rfl rfl (by decide +kernel) ⟨Nat.le_of_ble_eq_true rfl, Nat.le_of_ble_eq_true rfl⟩) hP hD hS hA [0] [] rfl rfl rfl rfl (by decide) 0 11 rfl rfl rfl hl.1 rfl (Nat.le_of_ble_eq_true rfl) dL_law_217 ⟨Nat.le_of_ble_eq_true rfl, Nat.le_of_ble_eq_true rfl⟩ (fun r4 u3 H locs hp hP hD hS => ?_)
  subst hp
  refine lv_icmp_eq (tgt := 988) hx hb dL_law_220 (by decide) (fun _ => ?_) (fun c => absurd (by decide) c)
  exact law_end C0 (Nat.le_of_ble_eq_true rfl) (Nat.le_of_ble_eq_true rfl) hS hl
set_option maxHeartbeats 4000000 in
set_option maxRecDepth 100000 in
theorem law_3 (l : Launch) (D : va_G) (cA : Nat → ClassId) (hx0 hm0 : Nat) (ux um : Nat → Nat) {p : Program} {e : Env} {s : State} {m : MethodId} {below : List Frame} {meth : Method} {c : Code} {b : Nat} {xs : Nat → Int32} {H : Heap} {locs : List Loc} {ls : Array Slot} (C0 : lw_At p s m meth c b 4 xs) (hE : ms_EV D cA s) (hP : va_P D vwCl (ms_WX cA hx0 ux ++ ms_WM cA hm0 um) H) (hD : va_D (fun q : Nat => s.heap.size ≤ q) (ms_WX cA hx0 ux ++ ms_WM cA hm0 um)) (hS : va_S (fun q : Nat => s.heap.size ≤ q) s.heap H locs) (hl : lv_has ls 4 [(3, .int 0), (2, .ref hm0), (1, .ref hx0), (0, .ref b)]) : W p l e room_1 s m #[Value.ref b] below meth c H locs 69 1489 (lw_Z below #[Value.ref b] s) (F0 m 225 ls []) := by
  obtain ⟨hx, hb, hr, hml, hown, hts0, hX, hbl, hlocks, hgv⟩ := id C0
  have hb : c.code = cL_law := hb
  have hown : s.vm.findClass RL = some m.cls := hown
  have hts : ∀ w ∈ wsL_law, w.before #[Value.ref b] s = true := fun w h => hts0 w (wsL_law_in w h)
  have hA : ∀ q : Nat, s.heap.size ≤ q → (fun q : Nat => s.heap.size ≤ q) q := fun _ h => h
  have hbA : ¬ (fun q : Nat => s.heap.size ≤ q) b := Nat.not_le.mpr hbl
  by_cases g1_1 : (xs 1).toInt ≤ -1
  · skip
    refine lv_aload_n hx hb dL_law_225 rfl (lv_at hl 2 rfl) ?_
    refine lv_aload_n hx hb dL_law_226 rfl (lv_at hl 3 rfl) ?_
    refine lv_iload_n hx hb dL_law_227 rfl (lv_at hl 0 rfl) ?_
    refine lv_iconst (v := 1) hx hb dL_law_228 (by decide) ?_
    refine lv_iadd hx hb dL_law_229 ?_
    refine ms_eqi (y := 1) (by decide) ?_
    refine ms_sld hx hb hX hbl hbA hS 1 rfl (by decide) (by decide) dL_law_230 ?_
    refine ms_cVi (qc := (RX10, TX10, 12)) (wc := [(hx0, .inr (10, [.ref ((ux 0)), .ref ((ux 11)), .ref ((ux 20)), .ref ((ux 22)), .ref ((ux 24)), .int 0, .ref ((ux 31)), .ref ((ux 38)), .ref ((ux 41)), .ref ((ux 44)), .ref ((ux 47)), .ref ((ux 48))]))]) (wr := ms_WM cA hm0 um) ⟨hx, hb, hml, hown, hts⟩ hE (cX10_told_1 l D cA hx0 ((ux 0)) ((ux 11)) ((ux 20)) ((ux 22)) ((ux 24)) ((ux 31)) ((ux 38)) ((ux 41)) ((ux 44)) ((ux 47)) ((ux 48)) ((xs 1)) (by omega)) (cwV 1 hts gL_law_X10_told rfl rfl rfl (by decide +kernel) ⟨Nat.le_of_ble_eq_true rfl, Nat.le_of_ble_eq_true rfl⟩) hP hD hS hA [0] [50, 51, 52, 53, 54, 55, 56, 57, 58, 59, 60, 61, 62, 63, 64, 65, 66, 67, 68] rfl rfl rfl rfl (by decide) 0 10 rfl rfl rfl hl.1 rfl (Nat.le_of_ble_eq_true rfl) dL_law_231 ⟨Nat.le_of_ble_eq_true rfl, Nat.le_of_ble_eq_true rfl⟩ (fun r3 u2 H locs hp hP hD hS => ?_)
    subst hp
    refine lv_aload_n hx hb dL_law_234 rfl (lv_at hl 1 rfl) ?_
    refine lv_aload_n hx hb dL_law_235 rfl (lv_at hl 3 rfl) ?_
    refine lv_iload_n hx hb dL_law_236 rfl (lv_at hl 0 rfl) ?_
    refine lv_iconst (v := 1) hx hb dL_law_237 (by decide) ?_
    refine lv_iadd hx hb dL_law_238 ?_
    refine ms_eqi (y := 1) (by decide) ?_
    refine ms_sld hx hb hX hbl hbA hS 1 rfl (by decide) (by decide) dL_law_239 ?_
    refine ms_cVi (qc := (RX11, TX11, 32)) (wc := [(hm0, .inr (11, [.ref ((um 16)), .ref ((um 0)), .ref ((um 14)), .ref ((um 1)), .int 0, .ref ((um 2)), .ref ((um 15)), .long 0, .ref ((um 3)), .int 0, .int (-1), .ref ((um 17)), .ref ((um 4)), .int 0, .ref ((um 5)), .int 0, .int 0, .int 0, .int 0, .int 0, .int 0, .int 0, .ref ((um 6)), .ref ((um 7)), .ref ((um 8)), .int 0, .ref ((um 9)), .ref ((um 10)), .ref ((um 11)), .ref ((um 12)), .int 0, .ref ((um 13))]))]) (wr := []) ⟨hx, hb, hml, hown, hts⟩ hE (cX11_told_1 l D cA hm0 ((um 16)) ((um 0)) ((um 14)) ((um 1)) ((um 2)) ((um 15)) ((um 3)) ((um 17)) ((um 4)) ((um 5)) ((um 6)) ((um 7)) ((um 8)) ((um 9)) ((um 10)) ((um 11)) ((um 12)) ((um 13)) ((xs 1)) (by omega)) (cwV 1 hts gL_law_X11_told rfl rfl rfl (by decide +kernel) ⟨Nat.le_of_ble_eq_true rfl, Nat.le_of_ble_eq_true rfl⟩) hP hD hS hA [0] [] rfl rfl rfl rfl (by decide) 0 11 rfl rfl rfl hl.1 rfl (Nat.le_of_ble_eq_true rfl) dL_law_240 ⟨Nat.le_of_ble_eq_true rfl, Nat.le_of_ble_eq_true rfl⟩ (fun r5 u4 H locs hp hP hD hS => ?_)
    subst hp
    refine lv_icmp_eq (tgt := 988) hx hb dL_law_243 (by decide) (fun _ => ?_) (fun c => absurd (by decide) c)
    exact law_end C0 (Nat.le_of_ble_eq_true rfl) (Nat.le_of_ble_eq_true rfl) hS hl
  · skip
    by_cases g1_6 : (xs 1).toInt ≤ 0
    · skip
      have e1 : xs 1 = 0 := Int32.toInt_inj.mp (by have z : (0 : Int32).toInt = 0 := (by decide); omega)
      refine lv_aload_n hx hb dL_law_225 rfl (lv_at hl 2 rfl) ?_
      refine lv_aload_n hx hb dL_law_226 rfl (lv_at hl 3 rfl) ?_
      refine lv_iload_n hx hb dL_law_227 rfl (lv_at hl 0 rfl) ?_
      refine lv_iconst (v := 1) hx hb dL_law_228 (by decide) ?_
      refine lv_iadd hx hb dL_law_229 ?_
      refine ms_eqi (y := 1) (by decide) ?_
      refine ms_sld hx hb hX hbl hbA hS 1 rfl (by decide) (by decide) dL_law_230 ?_
      refine ms_eqi (y := 0) e1 ?_
      refine ms_cVi (qc := (RX10, TX10, 12)) (wc := [(hx0, .inr (10, [.ref ((ux 0)), .ref ((ux 11)), .ref ((ux 20)), .ref ((ux 22)), .ref ((ux 24)), .int 0, .ref ((ux 31)), .ref ((ux 38)), .ref ((ux 41)), .ref ((ux 44)), .ref ((ux 47)), .ref ((ux 48))])), ((ux 11), .inr (2, [.int 0, .int 0, .int 0, .int 0, .int 0, .ref ((ux 12)), .ref ((ux 13)), .ref ((ux 14)), .ref ((ux 15)), .ref ((ux 16)), .ref ((ux 17)), .ref ((ux 18)), .ref ((ux 19))]))]) (wr := ms_WM cA hm0 um) ⟨hx, hb, hml, hown, hts⟩ hE (cX10_told_2 l D cA hx0 ((ux 11)) ((ux 0)) ((ux 20)) ((ux 22)) ((ux 24)) ((ux 31)) ((ux 38)) ((ux 41)) ((ux 44)) ((ux 47)) ((ux 48)) ((ux 12)) ((ux 13)) ((ux 14)) ((ux 15)) ((ux 16)) ((ux 17)) ((ux 18)) ((ux 19))) (cwV 1 hts gL_law_X10_told rfl rfl rfl (by decide +kernel) ⟨Nat.le_of_ble_eq_true rfl, Nat.le_of_ble_eq_true rfl⟩) hP hD hS hA [0, 12] [50, 51, 52, 53, 54, 55, 56, 57, 58, 59, 60, 61, 62, 63, 64, 65, 66, 67, 68] rfl rfl rfl rfl (by decide) 0 10 rfl rfl rfl hl.1 rfl (Nat.le_of_ble_eq_true rfl) dL_law_231 ⟨Nat.le_of_ble_eq_true rfl, Nat.le_of_ble_eq_true rfl⟩ (fun r8 u7 H locs hp hP hD hS => ?_)
      subst hp
      refine lv_aload_n hx hb dL_law_234 rfl (lv_at hl 1 rfl) ?_
      refine lv_aload_n hx hb dL_law_235 rfl (lv_at hl 3 rfl) ?_
      refine lv_iload_n hx hb dL_law_236 rfl (lv_at hl 0 rfl) ?_
      refine lv_iconst (v := 1) hx hb dL_law_237 (by decide) ?_
      refine lv_iadd hx hb dL_law_238 ?_
      refine ms_eqi (y := 1) (by decide) ?_
      refine ms_sld hx hb hX hbl hbA hS 1 rfl (by decide) (by decide) dL_law_239 ?_
      refine ms_eqi (y := 0) e1 ?_
      refine ms_cVi (qc := (RX11, TX11, 32)) (wc := [(hm0, .inr (11, [.ref ((um 16)), .ref ((um 0)), .ref ((um 14)), .ref ((um 1)), .int 0, .ref ((um 2)), .ref ((um 15)), .long 0, .ref ((um 3)), .int 0, .int (-1), .ref ((um 17)), .ref ((um 4)), .int 0, .ref ((um 5)), .int 0, .int 0, .int 0, .int 0, .int 0, .int 0, .int 0, .ref ((um 6)), .ref ((um 7)), .ref ((um 8)), .int 0, .ref ((um 9)), .ref ((um 10)), .ref ((um 11)), .ref ((um 12)), .int 0, .ref ((um 13))])), ((um 16), .inl (cA 0, 68, .inl ms_z))]) (wr := []) ⟨hx, hb, hml, hown, hts⟩ hE (cX11_told_2 l D cA hm0 ((um 16)) ((um 0)) ((um 14)) ((um 1)) ((um 2)) ((um 15)) ((um 3)) ((um 17)) ((um 4)) ((um 5)) ((um 6)) ((um 7)) ((um 8)) ((um 9)) ((um 10)) ((um 11)) ((um 12)) ((um 13))) (cwV 1 hts gL_law_X11_told rfl rfl rfl (by decide +kernel) ⟨Nat.le_of_ble_eq_true rfl, Nat.le_of_ble_eq_true rfl⟩) hP hD hS hA [0, 17] [] rfl rfl rfl rfl (by decide) 0 11 rfl rfl rfl hl.1 rfl (Nat.le_of_ble_eq_true rfl) dL_law_240 ⟨Nat.le_of_ble_eq_true rfl, Nat.le_of_ble_eq_true rfl⟩ (fun r10 u9 H locs hp hP hD hS => ?_)
      subst hp
      refine lv_icmp_eq (tgt := 988) hx hb dL_law_243 (by decide) (fun _ => ?_) (fun c => absurd (by decide) c)
      exact law_end C0 (Nat.le_of_ble_eq_true rfl) (Nat.le_of_ble_eq_true rfl) hS hl
    · skip
      by_cases g1_11 : (xs 1).toInt ≤ 1
      · skip
        have e1 : xs 1 = 1 := Int32.toInt_inj.mp (by have z : (1 : Int32).toInt = 1 := (by decide); omega)
        refine lv_aload_n hx hb dL_law_225 rfl (lv_at hl 2 rfl) ?_
        refine lv_aload_n hx hb dL_law_226 rfl (lv_at hl 3 rfl) ?_
        refine lv_iload_n hx hb dL_law_227 rfl (lv_at hl 0 rfl) ?_
        refine lv_iconst (v := 1) hx hb dL_law_228 (by decide) ?_
        refine lv_iadd hx hb dL_law_229 ?_
        refine ms_eqi (y := 1) (by decide) ?_
        refine ms_sld hx hb hX hbl hbA hS 1 rfl (by decide) (by decide) dL_law_230 ?_
        refine ms_eqi (y := 1) e1 ?_
        refine ms_cVi (qc := (RX10, TX10, 12)) (wc := [(hx0, .inr (10, [.ref ((ux 0)), .ref ((ux 11)), .ref ((ux 20)), .ref ((ux 22)), .ref ((ux 24)), .int 0, .ref ((ux 31)), .ref ((ux 38)), .ref ((ux 41)), .ref ((ux 44)), .ref ((ux 47)), .ref ((ux 48))])), ((ux 11), .inr (2, [.int 0, .int 0, .int 0, .int 0, .int 0, .ref ((ux 12)), .ref ((ux 13)), .ref ((ux 14)), .ref ((ux 15)), .ref ((ux 16)), .ref ((ux 17)), .ref ((ux 18)), .ref ((ux 19))]))]) (wr := ms_WM cA hm0 um) ⟨hx, hb, hml, hown, hts⟩ hE (cX10_told_3 l D cA hx0 ((ux 11)) ((ux 0)) ((ux 20)) ((ux 22)) ((ux 24)) ((ux 31)) ((ux 38)) ((ux 41)) ((ux 44)) ((ux 47)) ((ux 48)) ((ux 12)) ((ux 13)) ((ux 14)) ((ux 15)) ((ux 16)) ((ux 17)) ((ux 18)) ((ux 19))) (cwV 1 hts gL_law_X10_told rfl rfl rfl (by decide +kernel) ⟨Nat.le_of_ble_eq_true rfl, Nat.le_of_ble_eq_true rfl⟩) hP hD hS hA [0, 12] [50, 51, 52, 53, 54, 55, 56, 57, 58, 59, 60, 61, 62, 63, 64, 65, 66, 67, 68] rfl rfl rfl rfl (by decide) 0 10 rfl rfl rfl hl.1 rfl (Nat.le_of_ble_eq_true rfl) dL_law_231 ⟨Nat.le_of_ble_eq_true rfl, Nat.le_of_ble_eq_true rfl⟩ (fun r13 u12 H locs hp hP hD hS => ?_)
        subst hp
        refine lv_aload_n hx hb dL_law_234 rfl (lv_at hl 1 rfl) ?_
        refine lv_aload_n hx hb dL_law_235 rfl (lv_at hl 3 rfl) ?_
        refine lv_iload_n hx hb dL_law_236 rfl (lv_at hl 0 rfl) ?_
        refine lv_iconst (v := 1) hx hb dL_law_237 (by decide) ?_
        refine lv_iadd hx hb dL_law_238 ?_
        refine ms_eqi (y := 1) (by decide) ?_
        refine ms_sld hx hb hX hbl hbA hS 1 rfl (by decide) (by decide) dL_law_239 ?_
        refine ms_eqi (y := 1) e1 ?_
        refine ms_cVi (qc := (RX11, TX11, 32)) (wc := [(hm0, .inr (11, [.ref ((um 16)), .ref ((um 0)), .ref ((um 14)), .ref ((um 1)), .int 0, .ref ((um 2)), .ref ((um 15)), .long 0, .ref ((um 3)), .int 0, .int (-1), .ref ((um 17)), .ref ((um 4)), .int 0, .ref ((um 5)), .int 0, .int 0, .int 0, .int 0, .int 0, .int 0, .int 0, .ref ((um 6)), .ref ((um 7)), .ref ((um 8)), .int 0, .ref ((um 9)), .ref ((um 10)), .ref ((um 11)), .ref ((um 12)), .int 0, .ref ((um 13))])), ((um 16), .inl (cA 0, 68, .inl ms_z))]) (wr := []) ⟨hx, hb, hml, hown, hts⟩ hE (cX11_told_3 l D cA hm0 ((um 16)) ((um 0)) ((um 14)) ((um 1)) ((um 2)) ((um 15)) ((um 3)) ((um 17)) ((um 4)) ((um 5)) ((um 6)) ((um 7)) ((um 8)) ((um 9)) ((um 10)) ((um 11)) ((um 12)) ((um 13))) (cwV 1 hts gL_law_X11_told rfl rfl rfl (by decide +kernel) ⟨Nat.le_of_ble_eq_true rfl, Nat.le_of_ble_eq_true rfl⟩) hP hD hS hA [0, 17] [] rfl rfl rfl rfl (by decide) 0 11 rfl rfl rfl hl.1 rfl (Nat.le_of_ble_eq_true rfl) dL_law_240 ⟨Nat.le_of_ble_eq_true rfl, Nat.le_of_ble_eq_true rfl⟩ (fun r15 u14 H locs hp hP hD hS => ?_)
        subst hp
        refine lv_icmp_eq (tgt := 988) hx hb dL_law_243 (by decide) (fun _ => ?_) (fun c => absurd (by decide) c)
        exact law_end C0 (Nat.le_of_ble_eq_true rfl) (Nat.le_of_ble_eq_true rfl) hS hl
      · skip
        by_cases g1_16 : (xs 1).toInt ≤ 2
        · skip
          have e1 : xs 1 = 2 := Int32.toInt_inj.mp (by have z : (2 : Int32).toInt = 2 := (by decide); omega)
          refine lv_aload_n hx hb dL_law_225 rfl (lv_at hl 2 rfl) ?_
          refine lv_aload_n hx hb dL_law_226 rfl (lv_at hl 3 rfl) ?_
          refine lv_iload_n hx hb dL_law_227 rfl (lv_at hl 0 rfl) ?_
          refine lv_iconst (v := 1) hx hb dL_law_228 (by decide) ?_
          refine lv_iadd hx hb dL_law_229 ?_
          refine ms_eqi (y := 1) (by decide) ?_
          refine ms_sld hx hb hX hbl hbA hS 1 rfl (by decide) (by decide) dL_law_230 ?_
          refine ms_eqi (y := 2) e1 ?_
          refine ms_cVi (qc := (RX10, TX10, 12)) (wc := [(hx0, .inr (10, [.ref ((ux 0)), .ref ((ux 11)), .ref ((ux 20)), .ref ((ux 22)), .ref ((ux 24)), .int 0, .ref ((ux 31)), .ref ((ux 38)), .ref ((ux 41)), .ref ((ux 44)), .ref ((ux 47)), .ref ((ux 48))])), ((ux 11), .inr (2, [.int 0, .int 0, .int 0, .int 0, .int 0, .ref ((ux 12)), .ref ((ux 13)), .ref ((ux 14)), .ref ((ux 15)), .ref ((ux 16)), .ref ((ux 17)), .ref ((ux 18)), .ref ((ux 19))]))]) (wr := ms_WM cA hm0 um) ⟨hx, hb, hml, hown, hts⟩ hE (cX10_told_4 l D cA hx0 ((ux 11)) ((ux 0)) ((ux 20)) ((ux 22)) ((ux 24)) ((ux 31)) ((ux 38)) ((ux 41)) ((ux 44)) ((ux 47)) ((ux 48)) ((ux 12)) ((ux 13)) ((ux 14)) ((ux 15)) ((ux 16)) ((ux 17)) ((ux 18)) ((ux 19))) (cwV 1 hts gL_law_X10_told rfl rfl rfl (by decide +kernel) ⟨Nat.le_of_ble_eq_true rfl, Nat.le_of_ble_eq_true rfl⟩) hP hD hS hA [0, 12] [50, 51, 52, 53, 54, 55, 56, 57, 58, 59, 60, 61, 62, 63, 64, 65, 66, 67, 68] rfl rfl rfl rfl (by decide) 0 10 rfl rfl rfl hl.1 rfl (Nat.le_of_ble_eq_true rfl) dL_law_231 ⟨Nat.le_of_ble_eq_true rfl, Nat.le_of_ble_eq_true rfl⟩ (fun r18 u17 H locs hp hP hD hS => ?_)
          subst hp
          refine lv_aload_n hx hb dL_law_234 rfl (lv_at hl 1 rfl) ?_
          refine lv_aload_n hx hb dL_law_235 rfl (lv_at hl 3 rfl) ?_
          refine lv_iload_n hx hb dL_law_236 rfl (lv_at hl 0 rfl) ?_
          refine lv_iconst (v := 1) hx hb dL_law_237 (by decide) ?_
          refine lv_iadd hx hb dL_law_238 ?_
          refine ms_eqi (y := 1) (by decide) ?_
          refine ms_sld hx hb hX hbl hbA hS 1 rfl (by decide) (by decide) dL_law_239 ?_
          refine ms_eqi (y := 2) e1 ?_
          refine ms_cVi (qc := (RX11, TX11, 32)) (wc := [(hm0, .inr (11, [.ref ((um 16)), .ref ((um 0)), .ref ((um 14)), .ref ((um 1)), .int 0, .ref ((um 2)), .ref ((um 15)), .long 0, .ref ((um 3)), .int 0, .int (-1), .ref ((um 17)), .ref ((um 4)), .int 0, .ref ((um 5)), .int 0, .int 0, .int 0, .int 0, .int 0, .int 0, .int 0, .ref ((um 6)), .ref ((um 7)), .ref ((um 8)), .int 0, .ref ((um 9)), .ref ((um 10)), .ref ((um 11)), .ref ((um 12)), .int 0, .ref ((um 13))])), ((um 16), .inl (cA 0, 68, .inl ms_z))]) (wr := []) ⟨hx, hb, hml, hown, hts⟩ hE (cX11_told_4 l D cA hm0 ((um 16)) ((um 0)) ((um 14)) ((um 1)) ((um 2)) ((um 15)) ((um 3)) ((um 17)) ((um 4)) ((um 5)) ((um 6)) ((um 7)) ((um 8)) ((um 9)) ((um 10)) ((um 11)) ((um 12)) ((um 13))) (cwV 1 hts gL_law_X11_told rfl rfl rfl (by decide +kernel) ⟨Nat.le_of_ble_eq_true rfl, Nat.le_of_ble_eq_true rfl⟩) hP hD hS hA [0, 17] [] rfl rfl rfl rfl (by decide) 0 11 rfl rfl rfl hl.1 rfl (Nat.le_of_ble_eq_true rfl) dL_law_240 ⟨Nat.le_of_ble_eq_true rfl, Nat.le_of_ble_eq_true rfl⟩ (fun r20 u19 H locs hp hP hD hS => ?_)
          subst hp
          refine lv_icmp_eq (tgt := 988) hx hb dL_law_243 (by decide) (fun _ => ?_) (fun c => absurd (by decide) c)
          exact law_end C0 (Nat.le_of_ble_eq_true rfl) (Nat.le_of_ble_eq_true rfl) hS hl
        · skip
          by_cases g1_21 : (xs 1).toInt ≤ 3
          · skip
            have e1 : xs 1 = 3 := Int32.toInt_inj.mp (by have z : (3 : Int32).toInt = 3 := (by decide); omega)
            refine lv_aload_n hx hb dL_law_225 rfl (lv_at hl 2 rfl) ?_
            refine lv_aload_n hx hb dL_law_226 rfl (lv_at hl 3 rfl) ?_
            refine lv_iload_n hx hb dL_law_227 rfl (lv_at hl 0 rfl) ?_
            refine lv_iconst (v := 1) hx hb dL_law_228 (by decide) ?_
            refine lv_iadd hx hb dL_law_229 ?_
            refine ms_eqi (y := 1) (by decide) ?_
            refine ms_sld hx hb hX hbl hbA hS 1 rfl (by decide) (by decide) dL_law_230 ?_
            refine ms_eqi (y := 3) e1 ?_
            refine ms_cVi (qc := (RX10, TX10, 12)) (wc := [(hx0, .inr (10, [.ref ((ux 0)), .ref ((ux 11)), .ref ((ux 20)), .ref ((ux 22)), .ref ((ux 24)), .int 0, .ref ((ux 31)), .ref ((ux 38)), .ref ((ux 41)), .ref ((ux 44)), .ref ((ux 47)), .ref ((ux 48))])), ((ux 11), .inr (2, [.int 0, .int 0, .int 0, .int 0, .int 0, .ref ((ux 12)), .ref ((ux 13)), .ref ((ux 14)), .ref ((ux 15)), .ref ((ux 16)), .ref ((ux 17)), .ref ((ux 18)), .ref ((ux 19))]))]) (wr := ms_WM cA hm0 um) ⟨hx, hb, hml, hown, hts⟩ hE (cX10_told_5 l D cA hx0 ((ux 11)) ((ux 0)) ((ux 20)) ((ux 22)) ((ux 24)) ((ux 31)) ((ux 38)) ((ux 41)) ((ux 44)) ((ux 47)) ((ux 48)) ((ux 12)) ((ux 13)) ((ux 14)) ((ux 15)) ((ux 16)) ((ux 17)) ((ux 18)) ((ux 19))) (cwV 1 hts gL_law_X10_told rfl rfl rfl (by decide +kernel) ⟨Nat.le_of_ble_eq_true rfl, Nat.le_of_ble_eq_true rfl⟩) hP hD hS hA [0, 12] [50, 51, 52, 53, 54, 55, 56, 57, 58, 59, 60, 61, 62, 63, 64, 65, 66, 67, 68] rfl rfl rfl rfl (by decide) 0 10 rfl rfl rfl hl.1 rfl (Nat.le_of_ble_eq_true rfl) dL_law_231 ⟨Nat.le_of_ble_eq_true rfl, Nat.le_of_ble_eq_true rfl⟩ (fun r23 u22 H locs hp hP hD hS => ?_)
            subst hp
            refine lv_aload_n hx hb dL_law_234 rfl (lv_at hl 1 rfl) ?_
            refine lv_aload_n hx hb dL_law_235 rfl (lv_at hl 3 rfl) ?_
            refine lv_iload_n hx hb dL_law_236 rfl (lv_at hl 0 rfl) ?_
            refine lv_iconst (v := 1) hx hb dL_law_237 (by decide) ?_
            refine lv_iadd hx hb dL_law_238 ?_
            refine ms_eqi (y := 1) (by decide) ?_
            refine ms_sld hx hb hX hbl hbA hS 1 rfl (by decide) (by decide) dL_law_239 ?_
            refine ms_eqi (y := 3) e1 ?_
            refine ms_cVi (qc := (RX11, TX11, 32)) (wc := [(hm0, .inr (11, [.ref ((um 16)), .ref ((um 0)), .ref ((um 14)), .ref ((um 1)), .int 0, .ref ((um 2)), .ref ((um 15)), .long 0, .ref ((um 3)), .int 0, .int (-1), .ref ((um 17)), .ref ((um 4)), .int 0, .ref ((um 5)), .int 0, .int 0, .int 0, .int 0, .int 0, .int 0, .int 0, .ref ((um 6)), .ref ((um 7)), .ref ((um 8)), .int 0, .ref ((um 9)), .ref ((um 10)), .ref ((um 11)), .ref ((um 12)), .int 0, .ref ((um 13))])), ((um 16), .inl (cA 0, 68, .inl ms_z))]) (wr := []) ⟨hx, hb, hml, hown, hts⟩ hE (cX11_told_5 l D cA hm0 ((um 16)) ((um 0)) ((um 14)) ((um 1)) ((um 2)) ((um 15)) ((um 3)) ((um 17)) ((um 4)) ((um 5)) ((um 6)) ((um 7)) ((um 8)) ((um 9)) ((um 10)) ((um 11)) ((um 12)) ((um 13))) (cwV 1 hts gL_law_X11_told rfl rfl rfl (by decide +kernel) ⟨Nat.le_of_ble_eq_true rfl, Nat.le_of_ble_eq_true rfl⟩) hP hD hS hA [0, 17] [] rfl rfl rfl rfl (by decide) 0 11 rfl rfl rfl hl.1 rfl (Nat.le_of_ble_eq_true rfl) dL_law_240 ⟨Nat.le_of_ble_eq_true rfl, Nat.le_of_ble_eq_true rfl⟩ (fun r25 u24 H locs hp hP hD hS => ?_)
            subst hp
            refine lv_icmp_eq (tgt := 988) hx hb dL_law_243 (by decide) (fun _ => ?_) (fun c => absurd (by decide) c)
            exact law_end C0 (Nat.le_of_ble_eq_true rfl) (Nat.le_of_ble_eq_true rfl) hS hl
          · skip
            by_cases g1_26 : (xs 1).toInt ≤ 4
            · skip
              have e1 : xs 1 = 4 := Int32.toInt_inj.mp (by have z : (4 : Int32).toInt = 4 := (by decide); omega)
              refine lv_aload_n hx hb dL_law_225 rfl (lv_at hl 2 rfl) ?_
              refine lv_aload_n hx hb dL_law_226 rfl (lv_at hl 3 rfl) ?_
              refine lv_iload_n hx hb dL_law_227 rfl (lv_at hl 0 rfl) ?_
              refine lv_iconst (v := 1) hx hb dL_law_228 (by decide) ?_
              refine lv_iadd hx hb dL_law_229 ?_
              refine ms_eqi (y := 1) (by decide) ?_
              refine ms_sld hx hb hX hbl hbA hS 1 rfl (by decide) (by decide) dL_law_230 ?_
              refine ms_eqi (y := 4) e1 ?_
              refine ms_cVi (qc := (RX10, TX10, 12)) (wc := [(hx0, .inr (10, [.ref ((ux 0)), .ref ((ux 11)), .ref ((ux 20)), .ref ((ux 22)), .ref ((ux 24)), .int 0, .ref ((ux 31)), .ref ((ux 38)), .ref ((ux 41)), .ref ((ux 44)), .ref ((ux 47)), .ref ((ux 48))])), ((ux 11), .inr (2, [.int 0, .int 0, .int 0, .int 0, .int 0, .ref ((ux 12)), .ref ((ux 13)), .ref ((ux 14)), .ref ((ux 15)), .ref ((ux 16)), .ref ((ux 17)), .ref ((ux 18)), .ref ((ux 19))]))]) (wr := ms_WM cA hm0 um) ⟨hx, hb, hml, hown, hts⟩ hE (cX10_told_6 l D cA hx0 ((ux 11)) ((ux 0)) ((ux 20)) ((ux 22)) ((ux 24)) ((ux 31)) ((ux 38)) ((ux 41)) ((ux 44)) ((ux 47)) ((ux 48)) ((ux 12)) ((ux 13)) ((ux 14)) ((ux 15)) ((ux 16)) ((ux 17)) ((ux 18)) ((ux 19))) (cwV 1 hts gL_law_X10_told rfl rfl rfl (by decide +kernel) ⟨Nat.le_of_ble_eq_true rfl, Nat.le_of_ble_eq_true rfl⟩) hP hD hS hA [0, 12] [50, 51, 52, 53, 54, 55, 56, 57, 58, 59, 60, 61, 62, 63, 64, 65, 66, 67, 68] rfl rfl rfl rfl (by decide) 0 10 rfl rfl rfl hl.1 rfl (Nat.le_of_ble_eq_true rfl) dL_law_231 ⟨Nat.le_of_ble_eq_true rfl, Nat.le_of_ble_eq_true rfl⟩ (fun r28 u27 H locs hp hP hD hS => ?_)
              subst hp
              refine lv_aload_n hx hb dL_law_234 rfl (lv_at hl 1 rfl) ?_
              refine lv_aload_n hx hb dL_law_235 rfl (lv_at hl 3 rfl) ?_
              refine lv_iload_n hx hb dL_law_236 rfl (lv_at hl 0 rfl) ?_
              refine lv_iconst (v := 1) hx hb dL_law_237 (by decide) ?_
              refine lv_iadd hx hb dL_law_238 ?_
              refine ms_eqi (y := 1) (by decide) ?_
              refine ms_sld hx hb hX hbl hbA hS 1 rfl (by decide) (by decide) dL_law_239 ?_
              refine ms_eqi (y := 4) e1 ?_
              refine ms_cVi (qc := (RX11, TX11, 32)) (wc := [(hm0, .inr (11, [.ref ((um 16)), .ref ((um 0)), .ref ((um 14)), .ref ((um 1)), .int 0, .ref ((um 2)), .ref ((um 15)), .long 0, .ref ((um 3)), .int 0, .int (-1), .ref ((um 17)), .ref ((um 4)), .int 0, .ref ((um 5)), .int 0, .int 0, .int 0, .int 0, .int 0, .int 0, .int 0, .ref ((um 6)), .ref ((um 7)), .ref ((um 8)), .int 0, .ref ((um 9)), .ref ((um 10)), .ref ((um 11)), .ref ((um 12)), .int 0, .ref ((um 13))])), ((um 16), .inl (cA 0, 68, .inl ms_z))]) (wr := []) ⟨hx, hb, hml, hown, hts⟩ hE (cX11_told_6 l D cA hm0 ((um 16)) ((um 0)) ((um 14)) ((um 1)) ((um 2)) ((um 15)) ((um 3)) ((um 17)) ((um 4)) ((um 5)) ((um 6)) ((um 7)) ((um 8)) ((um 9)) ((um 10)) ((um 11)) ((um 12)) ((um 13))) (cwV 1 hts gL_law_X11_told rfl rfl rfl (by decide +kernel) ⟨Nat.le_of_ble_eq_true rfl, Nat.le_of_ble_eq_true rfl⟩) hP hD hS hA [0, 17] [] rfl rfl rfl rfl (by decide) 0 11 rfl rfl rfl hl.1 rfl (Nat.le_of_ble_eq_true rfl) dL_law_240 ⟨Nat.le_of_ble_eq_true rfl, Nat.le_of_ble_eq_true rfl⟩ (fun r30 u29 H locs hp hP hD hS => ?_)
              subst hp
              refine lv_icmp_eq (tgt := 988) hx hb dL_law_243 (by decide) (fun _ => ?_) (fun c => absurd (by decide) c)
              exact law_end C0 (Nat.le_of_ble_eq_true rfl) (Nat.le_of_ble_eq_true rfl) hS hl
            · skip
              by_cases g1_31 : (xs 1).toInt ≤ 5
              · skip
                have e1 : xs 1 = 5 := Int32.toInt_inj.mp (by have z : (5 : Int32).toInt = 5 := (by decide); omega)
                refine lv_aload_n hx hb dL_law_225 rfl (lv_at hl 2 rfl) ?_
                refine lv_aload_n hx hb dL_law_226 rfl (lv_at hl 3 rfl) ?_
                refine lv_iload_n hx hb dL_law_227 rfl (lv_at hl 0 rfl) ?_
                refine lv_iconst (v := 1) hx hb dL_law_228 (by decide) ?_
                refine lv_iadd hx hb dL_law_229 ?_
                refine ms_eqi (y := 1) (by decide) ?_
                refine ms_sld hx hb hX hbl hbA hS 1 rfl (by decide) (by decide) dL_law_230 ?_
                refine ms_eqi (y := 5) e1 ?_
                refine ms_cVi (qc := (RX10, TX10, 12)) (wc := [(hx0, .inr (10, [.ref ((ux 0)), .ref ((ux 11)), .ref ((ux 20)), .ref ((ux 22)), .ref ((ux 24)), .int 0, .ref ((ux 31)), .ref ((ux 38)), .ref ((ux 41)), .ref ((ux 44)), .ref ((ux 47)), .ref ((ux 48))])), ((ux 0), .inr (6, [.ref ((ux 1)), .int 0, .int 0, .int 0, .int 0, .ref ((ux 2)), .int 0, .int (-1)]))]) (wr := ms_WM cA hm0 um) ⟨hx, hb, hml, hown, hts⟩ hE (cX10_told_7 l D cA hx0 ((ux 0)) ((ux 11)) ((ux 20)) ((ux 22)) ((ux 24)) ((ux 31)) ((ux 38)) ((ux 41)) ((ux 44)) ((ux 47)) ((ux 48)) ((ux 1)) ((ux 2))) (cwV 1 hts gL_law_X10_told rfl rfl rfl (by decide +kernel) ⟨Nat.le_of_ble_eq_true rfl, Nat.le_of_ble_eq_true rfl⟩) hP hD hS hA [0, 1] [50, 51, 52, 53, 54, 55, 56, 57, 58, 59, 60, 61, 62, 63, 64, 65, 66, 67, 68] rfl rfl rfl rfl (by decide) 0 10 rfl rfl rfl hl.1 rfl (Nat.le_of_ble_eq_true rfl) dL_law_231 ⟨Nat.le_of_ble_eq_true rfl, Nat.le_of_ble_eq_true rfl⟩ (fun r33 u32 H locs hp hP hD hS => ?_)
                subst hp
                refine lv_aload_n hx hb dL_law_234 rfl (lv_at hl 1 rfl) ?_
                refine lv_aload_n hx hb dL_law_235 rfl (lv_at hl 3 rfl) ?_
                refine lv_iload_n hx hb dL_law_236 rfl (lv_at hl 0 rfl) ?_
                refine lv_iconst (v := 1) hx hb dL_law_237 (by decide) ?_
                refine lv_iadd hx hb dL_law_238 ?_
                refine ms_eqi (y := 1) (by decide) ?_
                refine ms_sld hx hb hX hbl hbA hS 1 rfl (by decide) (by decide) dL_law_239 ?_
                refine ms_eqi (y := 5) e1 ?_
                refine ms_cVi (qc := (RX11, TX11, 32)) (wc := [(hm0, .inr (11, [.ref ((um 16)), .ref ((um 0)), .ref ((um 14)), .ref ((um 1)), .int 0, .ref ((um 2)), .ref ((um 15)), .long 0, .ref ((um 3)), .int 0, .int (-1), .ref ((um 17)), .ref ((um 4)), .int 0, .ref ((um 5)), .int 0, .int 0, .int 0, .int 0, .int 0, .int 0, .int 0, .ref ((um 6)), .ref ((um 7)), .ref ((um 8)), .int 0, .ref ((um 9)), .ref ((um 10)), .ref ((um 11)), .ref ((um 12)), .int 0, .ref ((um 13))]))]) (wr := []) ⟨hx, hb, hml, hown, hts⟩ hE (cX11_told_7 l D cA hm0 ((um 16)) ((um 0)) ((um 14)) ((um 1)) ((um 2)) ((um 15)) ((um 3)) ((um 17)) ((um 4)) ((um 5)) ((um 6)) ((um 7)) ((um 8)) ((um 9)) ((um 10)) ((um 11)) ((um 12)) ((um 13))) (cwV 1 hts gL_law_X11_told rfl rfl rfl (by decide +kernel) ⟨Nat.le_of_ble_eq_true rfl, Nat.le_of_ble_eq_true rfl⟩) hP hD hS hA [0] [] rfl rfl rfl rfl (by decide) 0 11 rfl rfl rfl hl.1 rfl (Nat.le_of_ble_eq_true rfl) dL_law_240 ⟨Nat.le_of_ble_eq_true rfl, Nat.le_of_ble_eq_true rfl⟩ (fun r35 u34 H locs hp hP hD hS => ?_)
                subst hp
                refine lv_icmp_eq (tgt := 988) hx hb dL_law_243 (by decide) (fun _ => ?_) (fun c => absurd (by decide) c)
                exact law_end C0 (Nat.le_of_ble_eq_true rfl) (Nat.le_of_ble_eq_true rfl) hS hl
              · skip
                by_cases g1_36 : (xs 1).toInt ≤ 6
                · skip
                  have e1 : xs 1 = 6 := Int32.toInt_inj.mp (by have z : (6 : Int32).toInt = 6 := (by decide); omega)
                  refine lv_aload_n hx hb dL_law_225 rfl (lv_at hl 2 rfl) ?_
                  refine lv_aload_n hx hb dL_law_226 rfl (lv_at hl 3 rfl) ?_
                  refine lv_iload_n hx hb dL_law_227 rfl (lv_at hl 0 rfl) ?_
                  refine lv_iconst (v := 1) hx hb dL_law_228 (by decide) ?_
                  refine lv_iadd hx hb dL_law_229 ?_
                  refine ms_eqi (y := 1) (by decide) ?_
                  refine ms_sld hx hb hX hbl hbA hS 1 rfl (by decide) (by decide) dL_law_230 ?_
                  refine ms_eqi (y := 6) e1 ?_
                  refine ms_cVi (qc := (RX10, TX10, 12)) (wc := [(hx0, .inr (10, [.ref ((ux 0)), .ref ((ux 11)), .ref ((ux 20)), .ref ((ux 22)), .ref ((ux 24)), .int 0, .ref ((ux 31)), .ref ((ux 38)), .ref ((ux 41)), .ref ((ux 44)), .ref ((ux 47)), .ref ((ux 48))])), ((ux 20), .inr (8, [.ref ((ux 21)), .int 0, .int 0, .int 0, .int (-1), .int (-1)]))]) (wr := ms_WM cA hm0 um) ⟨hx, hb, hml, hown, hts⟩ hE (cX10_told_8 l D cA hx0 ((ux 20)) ((ux 0)) ((ux 11)) ((ux 22)) ((ux 24)) ((ux 31)) ((ux 38)) ((ux 41)) ((ux 44)) ((ux 47)) ((ux 48)) ((ux 21))) (cwV 1 hts gL_law_X10_told rfl rfl rfl (by decide +kernel) ⟨Nat.le_of_ble_eq_true rfl, Nat.le_of_ble_eq_true rfl⟩) hP hD hS hA [0, 21] [50, 51, 52, 53, 54, 55, 56, 57, 58, 59, 60, 61, 62, 63, 64, 65, 66, 67, 68] rfl rfl rfl rfl (by decide) 0 10 rfl rfl rfl hl.1 rfl (Nat.le_of_ble_eq_true rfl) dL_law_231 ⟨Nat.le_of_ble_eq_true rfl, Nat.le_of_ble_eq_true rfl⟩ (fun r38 u37 H locs hp hP hD hS => ?_)
                  subst hp
                  refine lv_aload_n hx hb dL_law_234 rfl (lv_at hl 1 rfl) ?_
                  refine lv_aload_n hx hb dL_law_235 rfl (lv_at hl 3 rfl) ?_
                  refine lv_iload_n hx hb dL_law_236 rfl (lv_at hl 0 rfl) ?_
                  refine lv_iconst (v := 1) hx hb dL_law_237 (by decide) ?_
                  refine lv_iadd hx hb dL_law_238 ?_
                  refine ms_eqi (y := 1) (by decide) ?_
                  refine ms_sld hx hb hX hbl hbA hS 1 rfl (by decide) (by decide) dL_law_239 ?_
                  refine ms_eqi (y := 6) e1 ?_
                  refine ms_cVi (qc := (RX11, TX11, 32)) (wc := [(hm0, .inr (11, [.ref ((um 16)), .ref ((um 0)), .ref ((um 14)), .ref ((um 1)), .int 0, .ref ((um 2)), .ref ((um 15)), .long 0, .ref ((um 3)), .int 0, .int (-1), .ref ((um 17)), .ref ((um 4)), .int 0, .ref ((um 5)), .int 0, .int 0, .int 0, .int 0, .int 0, .int 0, .int 0, .ref ((um 6)), .ref ((um 7)), .ref ((um 8)), .int 0, .ref ((um 9)), .ref ((um 10)), .ref ((um 11)), .ref ((um 12)), .int 0, .ref ((um 13))])), ((um 14), .inl (cA 0, 14, .inl ms_n))]) (wr := []) ⟨hx, hb, hml, hown, hts⟩ hE (cX11_told_8 l D cA hm0 ((um 14)) ((um 16)) ((um 0)) ((um 1)) ((um 2)) ((um 15)) ((um 3)) ((um 17)) ((um 4)) ((um 5)) ((um 6)) ((um 7)) ((um 8)) ((um 9)) ((um 10)) ((um 11)) ((um 12)) ((um 13))) (cwV 1 hts gL_law_X11_told rfl rfl rfl (by decide +kernel) ⟨Nat.le_of_ble_eq_true rfl, Nat.le_of_ble_eq_true rfl⟩) hP hD hS hA [0, 15] [] rfl rfl rfl rfl (by decide) 0 11 rfl rfl rfl hl.1 rfl (Nat.le_of_ble_eq_true rfl) dL_law_240 ⟨Nat.le_of_ble_eq_true rfl, Nat.le_of_ble_eq_true rfl⟩ (fun r40 u39 H locs hp hP hD hS => ?_)
                  subst hp
                  refine lv_icmp_eq (tgt := 988) hx hb dL_law_243 (by decide) (fun _ => ?_) (fun c => absurd (by decide) c)
                  exact law_end C0 (Nat.le_of_ble_eq_true rfl) (Nat.le_of_ble_eq_true rfl) hS hl
                · skip
                  by_cases g1_41 : (xs 1).toInt ≤ 7
                  · skip
                    have e1 : xs 1 = 7 := Int32.toInt_inj.mp (by have z : (7 : Int32).toInt = 7 := (by decide); omega)
                    refine lv_aload_n hx hb dL_law_225 rfl (lv_at hl 2 rfl) ?_
                    refine lv_aload_n hx hb dL_law_226 rfl (lv_at hl 3 rfl) ?_
                    refine lv_iload_n hx hb dL_law_227 rfl (lv_at hl 0 rfl) ?_
                    refine lv_iconst (v := 1) hx hb dL_law_228 (by decide) ?_
                    refine lv_iadd hx hb dL_law_229 ?_
                    refine ms_eqi (y := 1) (by decide) ?_
                    refine ms_sld hx hb hX hbl hbA hS 1 rfl (by decide) (by decide) dL_law_230 ?_
                    refine ms_eqi (y := 7) e1 ?_
                    refine ms_cVi (qc := (RX10, TX10, 12)) (wc := [(hx0, .inr (10, [.ref ((ux 0)), .ref ((ux 11)), .ref ((ux 20)), .ref ((ux 22)), .ref ((ux 24)), .int 0, .ref ((ux 31)), .ref ((ux 38)), .ref ((ux 41)), .ref ((ux 44)), .ref ((ux 47)), .ref ((ux 48))])), ((ux 11), .inr (2, [.int 0, .int 0, .int 0, .int 0, .int 0, .ref ((ux 12)), .ref ((ux 13)), .ref ((ux 14)), .ref ((ux 15)), .ref ((ux 16)), .ref ((ux 17)), .ref ((ux 18)), .ref ((ux 19))]))]) (wr := ms_WM cA hm0 um) ⟨hx, hb, hml, hown, hts⟩ hE (cX10_told_9 l D cA hx0 ((ux 11)) ((ux 0)) ((ux 20)) ((ux 22)) ((ux 24)) ((ux 31)) ((ux 38)) ((ux 41)) ((ux 44)) ((ux 47)) ((ux 48)) ((ux 12)) ((ux 13)) ((ux 14)) ((ux 15)) ((ux 16)) ((ux 17)) ((ux 18)) ((ux 19))) (cwV 1 hts gL_law_X10_told rfl rfl rfl (by decide +kernel) ⟨Nat.le_of_ble_eq_true rfl, Nat.le_of_ble_eq_true rfl⟩) hP hD hS hA [0, 12] [50, 51, 52, 53, 54, 55, 56, 57, 58, 59, 60, 61, 62, 63, 64, 65, 66, 67, 68] rfl rfl rfl rfl (by decide) 0 10 rfl rfl rfl hl.1 rfl (Nat.le_of_ble_eq_true rfl) dL_law_231 ⟨Nat.le_of_ble_eq_true rfl, Nat.le_of_ble_eq_true rfl⟩ (fun r43 u42 H locs hp hP hD hS => ?_)
                    subst hp
                    refine lv_aload_n hx hb dL_law_234 rfl (lv_at hl 1 rfl) ?_
                    refine lv_aload_n hx hb dL_law_235 rfl (lv_at hl 3 rfl) ?_
                    refine lv_iload_n hx hb dL_law_236 rfl (lv_at hl 0 rfl) ?_
                    refine lv_iconst (v := 1) hx hb dL_law_237 (by decide) ?_
                    refine lv_iadd hx hb dL_law_238 ?_
                    refine ms_eqi (y := 1) (by decide) ?_
                    refine ms_sld hx hb hX hbl hbA hS 1 rfl (by decide) (by decide) dL_law_239 ?_
                    refine ms_eqi (y := 7) e1 ?_
                    refine ms_cVi (qc := (RX11, TX11, 32)) (wc := [(hm0, .inr (11, [.ref ((um 16)), .ref ((um 0)), .ref ((um 14)), .ref ((um 1)), .int 0, .ref ((um 2)), .ref ((um 15)), .long 0, .ref ((um 3)), .int 0, .int (-1), .ref ((um 17)), .ref ((um 4)), .int 0, .ref ((um 5)), .int 0, .int 0, .int 0, .int 0, .int 0, .int 0, .int 0, .ref ((um 6)), .ref ((um 7)), .ref ((um 8)), .int 0, .ref ((um 9)), .ref ((um 10)), .ref ((um 11)), .ref ((um 12)), .int 0, .ref ((um 13))])), ((um 16), .inl (cA 0, 68, .inl ms_z))]) (wr := []) ⟨hx, hb, hml, hown, hts⟩ hE (cX11_told_9 l D cA hm0 ((um 16)) ((um 0)) ((um 14)) ((um 1)) ((um 2)) ((um 15)) ((um 3)) ((um 17)) ((um 4)) ((um 5)) ((um 6)) ((um 7)) ((um 8)) ((um 9)) ((um 10)) ((um 11)) ((um 12)) ((um 13))) (cwV 1 hts gL_law_X11_told rfl rfl rfl (by decide +kernel) ⟨Nat.le_of_ble_eq_true rfl, Nat.le_of_ble_eq_true rfl⟩) hP hD hS hA [0, 17] [] rfl rfl rfl rfl (by decide) 0 11 rfl rfl rfl hl.1 rfl (Nat.le_of_ble_eq_true rfl) dL_law_240 ⟨Nat.le_of_ble_eq_true rfl, Nat.le_of_ble_eq_true rfl⟩ (fun r45 u44 H locs hp hP hD hS => ?_)
                    subst hp
                    refine lv_icmp_eq (tgt := 988) hx hb dL_law_243 (by decide) (fun _ => ?_) (fun c => absurd (by decide) c)
                    exact law_end C0 (Nat.le_of_ble_eq_true rfl) (Nat.le_of_ble_eq_true rfl) hS hl
                  · skip
                    by_cases g1_46 : (xs 1).toInt ≤ 8
                    · skip
                      have e1 : xs 1 = 8 := Int32.toInt_inj.mp (by have z : (8 : Int32).toInt = 8 := (by decide); omega)
                      refine lv_aload_n hx hb dL_law_225 rfl (lv_at hl 2 rfl) ?_
                      refine lv_aload_n hx hb dL_law_226 rfl (lv_at hl 3 rfl) ?_
                      refine lv_iload_n hx hb dL_law_227 rfl (lv_at hl 0 rfl) ?_
                      refine lv_iconst (v := 1) hx hb dL_law_228 (by decide) ?_
                      refine lv_iadd hx hb dL_law_229 ?_
                      refine ms_eqi (y := 1) (by decide) ?_
                      refine ms_sld hx hb hX hbl hbA hS 1 rfl (by decide) (by decide) dL_law_230 ?_
                      refine ms_eqi (y := 8) e1 ?_
                      refine ms_cVi (qc := (RX10, TX10, 12)) (wc := [(hx0, .inr (10, [.ref ((ux 0)), .ref ((ux 11)), .ref ((ux 20)), .ref ((ux 22)), .ref ((ux 24)), .int 0, .ref ((ux 31)), .ref ((ux 38)), .ref ((ux 41)), .ref ((ux 44)), .ref ((ux 47)), .ref ((ux 48))])), ((ux 20), .inr (8, [.ref ((ux 21)), .int 0, .int 0, .int 0, .int (-1), .int (-1)]))]) (wr := ms_WM cA hm0 um) ⟨hx, hb, hml, hown, hts⟩ hE (cX10_told_10 l D cA hx0 ((ux 20)) ((ux 0)) ((ux 11)) ((ux 22)) ((ux 24)) ((ux 31)) ((ux 38)) ((ux 41)) ((ux 44)) ((ux 47)) ((ux 48)) ((ux 21))) (cwV 1 hts gL_law_X10_told rfl rfl rfl (by decide +kernel) ⟨Nat.le_of_ble_eq_true rfl, Nat.le_of_ble_eq_true rfl⟩) hP hD hS hA [0, 21] [50, 51, 52, 53, 54, 55, 56, 57, 58, 59, 60, 61, 62, 63, 64, 65, 66, 67, 68] rfl rfl rfl rfl (by decide) 0 10 rfl rfl rfl hl.1 rfl (Nat.le_of_ble_eq_true rfl) dL_law_231 ⟨Nat.le_of_ble_eq_true rfl, Nat.le_of_ble_eq_true rfl⟩ (fun r48 u47 H locs hp hP hD hS => ?_)
                      subst hp
                      refine lv_aload_n hx hb dL_law_234 rfl (lv_at hl 1 rfl) ?_
                      refine lv_aload_n hx hb dL_law_235 rfl (lv_at hl 3 rfl) ?_
                      refine lv_iload_n hx hb dL_law_236 rfl (lv_at hl 0 rfl) ?_
                      refine lv_iconst (v := 1) hx hb dL_law_237 (by decide) ?_
                      refine lv_iadd hx hb dL_law_238 ?_
                      refine ms_eqi (y := 1) (by decide) ?_
                      refine ms_sld hx hb hX hbl hbA hS 1 rfl (by decide) (by decide) dL_law_239 ?_
                      refine ms_eqi (y := 8) e1 ?_
                      refine ms_cVi (qc := (RX11, TX11, 32)) (wc := [(hm0, .inr (11, [.ref ((um 16)), .ref ((um 0)), .ref ((um 14)), .ref ((um 1)), .int 0, .ref ((um 2)), .ref ((um 15)), .long 0, .ref ((um 3)), .int 0, .int (-1), .ref ((um 17)), .ref ((um 4)), .int 0, .ref ((um 5)), .int 0, .int 0, .int 0, .int 0, .int 0, .int 0, .int 0, .ref ((um 6)), .ref ((um 7)), .ref ((um 8)), .int 0, .ref ((um 9)), .ref ((um 10)), .ref ((um 11)), .ref ((um 12)), .int 0, .ref ((um 13))])), ((um 14), .inl (cA 0, 14, .inl ms_n))]) (wr := []) ⟨hx, hb, hml, hown, hts⟩ hE (cX11_told_10 l D cA hm0 ((um 14)) ((um 16)) ((um 0)) ((um 1)) ((um 2)) ((um 15)) ((um 3)) ((um 17)) ((um 4)) ((um 5)) ((um 6)) ((um 7)) ((um 8)) ((um 9)) ((um 10)) ((um 11)) ((um 12)) ((um 13))) (cwV 1 hts gL_law_X11_told rfl rfl rfl (by decide +kernel) ⟨Nat.le_of_ble_eq_true rfl, Nat.le_of_ble_eq_true rfl⟩) hP hD hS hA [0, 15] [] rfl rfl rfl rfl (by decide) 0 11 rfl rfl rfl hl.1 rfl (Nat.le_of_ble_eq_true rfl) dL_law_240 ⟨Nat.le_of_ble_eq_true rfl, Nat.le_of_ble_eq_true rfl⟩ (fun r50 u49 H locs hp hP hD hS => ?_)
                      subst hp
                      refine lv_icmp_eq (tgt := 988) hx hb dL_law_243 (by decide) (fun _ => ?_) (fun c => absurd (by decide) c)
                      exact law_end C0 (Nat.le_of_ble_eq_true rfl) (Nat.le_of_ble_eq_true rfl) hS hl
                    · skip
                      by_cases g1_51 : (xs 1).toInt ≤ 9
                      · skip
                        have e1 : xs 1 = 9 := Int32.toInt_inj.mp (by have z : (9 : Int32).toInt = 9 := (by decide); omega)
                        refine lv_aload_n hx hb dL_law_225 rfl (lv_at hl 2 rfl) ?_
                        refine lv_aload_n hx hb dL_law_226 rfl (lv_at hl 3 rfl) ?_
                        refine lv_iload_n hx hb dL_law_227 rfl (lv_at hl 0 rfl) ?_
                        refine lv_iconst (v := 1) hx hb dL_law_228 (by decide) ?_
                        refine lv_iadd hx hb dL_law_229 ?_
                        refine ms_eqi (y := 1) (by decide) ?_
                        refine ms_sld hx hb hX hbl hbA hS 1 rfl (by decide) (by decide) dL_law_230 ?_
                        refine ms_eqi (y := 9) e1 ?_
                        refine ms_cVi (qc := (RX10, TX10, 12)) (wc := [(hx0, .inr (10, [.ref ((ux 0)), .ref ((ux 11)), .ref ((ux 20)), .ref ((ux 22)), .ref ((ux 24)), .int 0, .ref ((ux 31)), .ref ((ux 38)), .ref ((ux 41)), .ref ((ux 44)), .ref ((ux 47)), .ref ((ux 48))])), ((ux 20), .inr (8, [.ref ((ux 21)), .int 0, .int 0, .int 0, .int (-1), .int (-1)])), ((ux 11), .inr (2, [.int 0, .int 0, .int 0, .int 0, .int 0, .ref ((ux 12)), .ref ((ux 13)), .ref ((ux 14)), .ref ((ux 15)), .ref ((ux 16)), .ref ((ux 17)), .ref ((ux 18)), .ref ((ux 19))]))]) (wr := ms_WM cA hm0 um) ⟨hx, hb, hml, hown, hts⟩ hE (cX10_told_11 l D cA hx0 ((ux 20)) ((ux 11)) ((ux 0)) ((ux 22)) ((ux 24)) ((ux 31)) ((ux 38)) ((ux 41)) ((ux 44)) ((ux 47)) ((ux 48)) ((ux 21)) ((ux 12)) ((ux 13)) ((ux 14)) ((ux 15)) ((ux 16)) ((ux 17)) ((ux 18)) ((ux 19))) (cwV 1 hts gL_law_X10_told rfl rfl rfl (by decide +kernel) ⟨Nat.le_of_ble_eq_true rfl, Nat.le_of_ble_eq_true rfl⟩) hP hD hS hA [0, 21, 12] [50, 51, 52, 53, 54, 55, 56, 57, 58, 59, 60, 61, 62, 63, 64, 65, 66, 67, 68] rfl rfl rfl rfl (by decide) 0 10 rfl rfl rfl hl.1 rfl (Nat.le_of_ble_eq_true rfl) dL_law_231 ⟨Nat.le_of_ble_eq_true rfl, Nat.le_of_ble_eq_true rfl⟩ (fun r53 u52 H locs hp hP hD hS => ?_)
                        subst hp
                        refine lv_aload_n hx hb dL_law_234 rfl (lv_at hl 1 rfl) ?_
                        refine lv_aload_n hx hb dL_law_235 rfl (lv_at hl 3 rfl) ?_
                        refine lv_iload_n hx hb dL_law_236 rfl (lv_at hl 0 rfl) ?_
                        refine lv_iconst (v := 1) hx hb dL_law_237 (by decide) ?_
                        refine lv_iadd hx hb dL_law_238 ?_
                        refine ms_eqi (y := 1) (by decide) ?_
                        refine ms_sld hx hb hX hbl hbA hS 1 rfl (by decide) (by decide) dL_law_239 ?_
                        refine ms_eqi (y := 9) e1 ?_
                        refine ms_cVi (qc := (RX11, TX11, 32)) (wc := [(hm0, .inr (11, [.ref ((um 16)), .ref ((um 0)), .ref ((um 14)), .ref ((um 1)), .int 0, .ref ((um 2)), .ref ((um 15)), .long 0, .ref ((um 3)), .int 0, .int (-1), .ref ((um 17)), .ref ((um 4)), .int 0, .ref ((um 5)), .int 0, .int 0, .int 0, .int 0, .int 0, .int 0, .int 0, .ref ((um 6)), .ref ((um 7)), .ref ((um 8)), .int 0, .ref ((um 9)), .ref ((um 10)), .ref ((um 11)), .ref ((um 12)), .int 0, .ref ((um 13))])), ((um 16), .inl (cA 0, 68, .inl ms_z))]) (wr := []) ⟨hx, hb, hml, hown, hts⟩ hE (cX11_told_11 l D cA hm0 ((um 16)) ((um 0)) ((um 14)) ((um 1)) ((um 2)) ((um 15)) ((um 3)) ((um 17)) ((um 4)) ((um 5)) ((um 6)) ((um 7)) ((um 8)) ((um 9)) ((um 10)) ((um 11)) ((um 12)) ((um 13))) (cwV 1 hts gL_law_X11_told rfl rfl rfl (by decide +kernel) ⟨Nat.le_of_ble_eq_true rfl, Nat.le_of_ble_eq_true rfl⟩) hP hD hS hA [0, 17] [] rfl rfl rfl rfl (by decide) 0 11 rfl rfl rfl hl.1 rfl (Nat.le_of_ble_eq_true rfl) dL_law_240 ⟨Nat.le_of_ble_eq_true rfl, Nat.le_of_ble_eq_true rfl⟩ (fun r55 u54 H locs hp hP hD hS => ?_)
                        subst hp
                        refine lv_icmp_eq (tgt := 988) hx hb dL_law_243 (by decide) (fun _ => ?_) (fun c => absurd (by decide) c)
                        exact law_end C0 (Nat.le_of_ble_eq_true rfl) (Nat.le_of_ble_eq_true rfl) hS hl
                      · skip
                        by_cases g1_56 : (xs 1).toInt ≤ 10
                        · skip
                          have e1 : xs 1 = 10 := Int32.toInt_inj.mp (by have z : (10 : Int32).toInt = 10 := (by decide); omega)
                          refine lv_aload_n hx hb dL_law_225 rfl (lv_at hl 2 rfl) ?_
                          refine lv_aload_n hx hb dL_law_226 rfl (lv_at hl 3 rfl) ?_
                          refine lv_iload_n hx hb dL_law_227 rfl (lv_at hl 0 rfl) ?_
                          refine lv_iconst (v := 1) hx hb dL_law_228 (by decide) ?_
                          refine lv_iadd hx hb dL_law_229 ?_
                          refine ms_eqi (y := 1) (by decide) ?_
                          refine ms_sld hx hb hX hbl hbA hS 1 rfl (by decide) (by decide) dL_law_230 ?_
                          refine ms_eqi (y := 10) e1 ?_
                          refine ms_cVi (qc := (RX10, TX10, 12)) (wc := [(hx0, .inr (10, [.ref ((ux 0)), .ref ((ux 11)), .ref ((ux 20)), .ref ((ux 22)), .ref ((ux 24)), .int 0, .ref ((ux 31)), .ref ((ux 38)), .ref ((ux 41)), .ref ((ux 44)), .ref ((ux 47)), .ref ((ux 48))])), ((ux 20), .inr (8, [.ref ((ux 21)), .int 0, .int 0, .int 0, .int (-1), .int (-1)]))]) (wr := ms_WM cA hm0 um) ⟨hx, hb, hml, hown, hts⟩ hE (cX10_told_12 l D cA hx0 ((ux 20)) ((ux 0)) ((ux 11)) ((ux 22)) ((ux 24)) ((ux 31)) ((ux 38)) ((ux 41)) ((ux 44)) ((ux 47)) ((ux 48)) ((ux 21))) (cwV 1 hts gL_law_X10_told rfl rfl rfl (by decide +kernel) ⟨Nat.le_of_ble_eq_true rfl, Nat.le_of_ble_eq_true rfl⟩) hP hD hS hA [0, 21] [50, 51, 52, 53, 54, 55, 56, 57, 58, 59, 60, 61, 62, 63, 64, 65, 66, 67, 68] rfl rfl rfl rfl (by decide) 0 10 rfl rfl rfl hl.1 rfl (Nat.le_of_ble_eq_true rfl) dL_law_231 ⟨Nat.le_of_ble_eq_true rfl, Nat.le_of_ble_eq_true rfl⟩ (fun r58 u57 H locs hp hP hD hS => ?_)
                          subst hp
                          refine lv_aload_n hx hb dL_law_234 rfl (lv_at hl 1 rfl) ?_
                          refine lv_aload_n hx hb dL_law_235 rfl (lv_at hl 3 rfl) ?_
                          refine lv_iload_n hx hb dL_law_236 rfl (lv_at hl 0 rfl) ?_
                          refine lv_iconst (v := 1) hx hb dL_law_237 (by decide) ?_
                          refine lv_iadd hx hb dL_law_238 ?_
                          refine ms_eqi (y := 1) (by decide) ?_
                          refine ms_sld hx hb hX hbl hbA hS 1 rfl (by decide) (by decide) dL_law_239 ?_
                          refine ms_eqi (y := 10) e1 ?_
                          refine ms_cVi (qc := (RX11, TX11, 32)) (wc := [(hm0, .inr (11, [.ref ((um 16)), .ref ((um 0)), .ref ((um 14)), .ref ((um 1)), .int 0, .ref ((um 2)), .ref ((um 15)), .long 0, .ref ((um 3)), .int 0, .int (-1), .ref ((um 17)), .ref ((um 4)), .int 0, .ref ((um 5)), .int 0, .int 0, .int 0, .int 0, .int 0, .int 0, .int 0, .ref ((um 6)), .ref ((um 7)), .ref ((um 8)), .int 0, .ref ((um 9)), .ref ((um 10)), .ref ((um 11)), .ref ((um 12)), .int 0, .ref ((um 13))])), ((um 14), .inl (cA 0, 14, .inl ms_n))]) (wr := []) ⟨hx, hb, hml, hown, hts⟩ hE (cX11_told_12 l D cA hm0 ((um 14)) ((um 16)) ((um 0)) ((um 1)) ((um 2)) ((um 15)) ((um 3)) ((um 17)) ((um 4)) ((um 5)) ((um 6)) ((um 7)) ((um 8)) ((um 9)) ((um 10)) ((um 11)) ((um 12)) ((um 13))) (cwV 1 hts gL_law_X11_told rfl rfl rfl (by decide +kernel) ⟨Nat.le_of_ble_eq_true rfl, Nat.le_of_ble_eq_true rfl⟩) hP hD hS hA [0, 15] [] rfl rfl rfl rfl (by decide) 0 11 rfl rfl rfl hl.1 rfl (Nat.le_of_ble_eq_true rfl) dL_law_240 ⟨Nat.le_of_ble_eq_true rfl, Nat.le_of_ble_eq_true rfl⟩ (fun r60 u59 H locs hp hP hD hS => ?_)
                          subst hp
                          refine lv_icmp_eq (tgt := 988) hx hb dL_law_243 (by decide) (fun _ => ?_) (fun c => absurd (by decide) c)
                          exact law_end C0 (Nat.le_of_ble_eq_true rfl) (Nat.le_of_ble_eq_true rfl) hS hl
                        · skip
                          by_cases g1_61 : (xs 1).toInt ≤ 11
                          · skip
                            have e1 : xs 1 = 11 := Int32.toInt_inj.mp (by have z : (11 : Int32).toInt = 11 := (by decide); omega)
                            refine lv_aload_n hx hb dL_law_225 rfl (lv_at hl 2 rfl) ?_
                            refine lv_aload_n hx hb dL_law_226 rfl (lv_at hl 3 rfl) ?_
                            refine lv_iload_n hx hb dL_law_227 rfl (lv_at hl 0 rfl) ?_
                            refine lv_iconst (v := 1) hx hb dL_law_228 (by decide) ?_
                            refine lv_iadd hx hb dL_law_229 ?_
                            refine ms_eqi (y := 1) (by decide) ?_
                            refine ms_sld hx hb hX hbl hbA hS 1 rfl (by decide) (by decide) dL_law_230 ?_
                            refine ms_eqi (y := 11) e1 ?_
                            refine ms_cVi (qc := (RX10, TX10, 12)) (wc := [(hx0, .inr (10, [.ref ((ux 0)), .ref ((ux 11)), .ref ((ux 20)), .ref ((ux 22)), .ref ((ux 24)), .int 0, .ref ((ux 31)), .ref ((ux 38)), .ref ((ux 41)), .ref ((ux 44)), .ref ((ux 47)), .ref ((ux 48))])), ((ux 20), .inr (8, [.ref ((ux 21)), .int 0, .int 0, .int 0, .int (-1), .int (-1)]))]) (wr := ms_WM cA hm0 um) ⟨hx, hb, hml, hown, hts⟩ hE (cX10_told_13 l D cA hx0 ((ux 20)) ((ux 0)) ((ux 11)) ((ux 22)) ((ux 24)) ((ux 31)) ((ux 38)) ((ux 41)) ((ux 44)) ((ux 47)) ((ux 48)) ((ux 21))) (cwV 1 hts gL_law_X10_told rfl rfl rfl (by decide +kernel) ⟨Nat.le_of_ble_eq_true rfl, Nat.le_of_ble_eq_true rfl⟩) hP hD hS hA [0, 21] [50, 51, 52, 53, 54, 55, 56, 57, 58, 59, 60, 61, 62, 63, 64, 65, 66, 67, 68] rfl rfl rfl rfl (by decide) 0 10 rfl rfl rfl hl.1 rfl (Nat.le_of_ble_eq_true rfl) dL_law_231 ⟨Nat.le_of_ble_eq_true rfl, Nat.le_of_ble_eq_true rfl⟩ (fun r63 u62 H locs hp hP hD hS => ?_)
                            subst hp
                            refine lv_aload_n hx hb dL_law_234 rfl (lv_at hl 1 rfl) ?_
                            refine lv_aload_n hx hb dL_law_235 rfl (lv_at hl 3 rfl) ?_
                            refine lv_iload_n hx hb dL_law_236 rfl (lv_at hl 0 rfl) ?_
                            refine lv_iconst (v := 1) hx hb dL_law_237 (by decide) ?_
                            refine lv_iadd hx hb dL_law_238 ?_
                            refine ms_eqi (y := 1) (by decide) ?_
                            refine ms_sld hx hb hX hbl hbA hS 1 rfl (by decide) (by decide) dL_law_239 ?_
                            refine ms_eqi (y := 11) e1 ?_
                            refine ms_cVi (qc := (RX11, TX11, 32)) (wc := [(hm0, .inr (11, [.ref ((um 16)), .ref ((um 0)), .ref ((um 14)), .ref ((um 1)), .int 0, .ref ((um 2)), .ref ((um 15)), .long 0, .ref ((um 3)), .int 0, .int (-1), .ref ((um 17)), .ref ((um 4)), .int 0, .ref ((um 5)), .int 0, .int 0, .int 0, .int 0, .int 0, .int 0, .int 0, .ref ((um 6)), .ref ((um 7)), .ref ((um 8)), .int 0, .ref ((um 9)), .ref ((um 10)), .ref ((um 11)), .ref ((um 12)), .int 0, .ref ((um 13))])), ((um 14), .inl (cA 0, 14, .inl ms_n))]) (wr := []) ⟨hx, hb, hml, hown, hts⟩ hE (cX11_told_13 l D cA hm0 ((um 14)) ((um 16)) ((um 0)) ((um 1)) ((um 2)) ((um 15)) ((um 3)) ((um 17)) ((um 4)) ((um 5)) ((um 6)) ((um 7)) ((um 8)) ((um 9)) ((um 10)) ((um 11)) ((um 12)) ((um 13))) (cwV 1 hts gL_law_X11_told rfl rfl rfl (by decide +kernel) ⟨Nat.le_of_ble_eq_true rfl, Nat.le_of_ble_eq_true rfl⟩) hP hD hS hA [0, 15] [] rfl rfl rfl rfl (by decide) 0 11 rfl rfl rfl hl.1 rfl (Nat.le_of_ble_eq_true rfl) dL_law_240 ⟨Nat.le_of_ble_eq_true rfl, Nat.le_of_ble_eq_true rfl⟩ (fun r65 u64 H locs hp hP hD hS => ?_)
                            subst hp
                            refine lv_icmp_eq (tgt := 988) hx hb dL_law_243 (by decide) (fun _ => ?_) (fun c => absurd (by decide) c)
                            exact law_end C0 (Nat.le_of_ble_eq_true rfl) (Nat.le_of_ble_eq_true rfl) hS hl
                          · skip
                            by_cases g1_66 : (xs 1).toInt ≤ 12
                            · skip
                              have e1 : xs 1 = 12 := Int32.toInt_inj.mp (by have z : (12 : Int32).toInt = 12 := (by decide); omega)
                              refine lv_aload_n hx hb dL_law_225 rfl (lv_at hl 2 rfl) ?_
                              refine lv_aload_n hx hb dL_law_226 rfl (lv_at hl 3 rfl) ?_
                              refine lv_iload_n hx hb dL_law_227 rfl (lv_at hl 0 rfl) ?_
                              refine lv_iconst (v := 1) hx hb dL_law_228 (by decide) ?_
                              refine lv_iadd hx hb dL_law_229 ?_
                              refine ms_eqi (y := 1) (by decide) ?_
                              refine ms_sld hx hb hX hbl hbA hS 1 rfl (by decide) (by decide) dL_law_230 ?_
                              refine ms_eqi (y := 12) e1 ?_
                              refine ms_cVi (qc := (RX10, TX10, 12)) (wc := [(hx0, .inr (10, [.ref ((ux 0)), .ref ((ux 11)), .ref ((ux 20)), .ref ((ux 22)), .ref ((ux 24)), .int 0, .ref ((ux 31)), .ref ((ux 38)), .ref ((ux 41)), .ref ((ux 44)), .ref ((ux 47)), .ref ((ux 48))])), ((ux 20), .inr (8, [.ref ((ux 21)), .int 0, .int 0, .int 0, .int (-1), .int (-1)]))]) (wr := ms_WM cA hm0 um) ⟨hx, hb, hml, hown, hts⟩ hE (cX10_told_14 l D cA hx0 ((ux 20)) ((ux 0)) ((ux 11)) ((ux 22)) ((ux 24)) ((ux 31)) ((ux 38)) ((ux 41)) ((ux 44)) ((ux 47)) ((ux 48)) ((ux 21))) (cwV 1 hts gL_law_X10_told rfl rfl rfl (by decide +kernel) ⟨Nat.le_of_ble_eq_true rfl, Nat.le_of_ble_eq_true rfl⟩) hP hD hS hA [0, 21] [50, 51, 52, 53, 54, 55, 56, 57, 58, 59, 60, 61, 62, 63, 64, 65, 66, 67, 68] rfl rfl rfl rfl (by decide) 0 10 rfl rfl rfl hl.1 rfl (Nat.le_of_ble_eq_true rfl) dL_law_231 ⟨Nat.le_of_ble_eq_true rfl, Nat.le_of_ble_eq_true rfl⟩ (fun r68 u67 H locs hp hP hD hS => ?_)
                              subst hp
                              refine lv_aload_n hx hb dL_law_234 rfl (lv_at hl 1 rfl) ?_
                              refine lv_aload_n hx hb dL_law_235 rfl (lv_at hl 3 rfl) ?_
                              refine lv_iload_n hx hb dL_law_236 rfl (lv_at hl 0 rfl) ?_
                              refine lv_iconst (v := 1) hx hb dL_law_237 (by decide) ?_
                              refine lv_iadd hx hb dL_law_238 ?_
                              refine ms_eqi (y := 1) (by decide) ?_
                              refine ms_sld hx hb hX hbl hbA hS 1 rfl (by decide) (by decide) dL_law_239 ?_
                              refine ms_eqi (y := 12) e1 ?_
                              refine ms_cVi (qc := (RX11, TX11, 32)) (wc := [(hm0, .inr (11, [.ref ((um 16)), .ref ((um 0)), .ref ((um 14)), .ref ((um 1)), .int 0, .ref ((um 2)), .ref ((um 15)), .long 0, .ref ((um 3)), .int 0, .int (-1), .ref ((um 17)), .ref ((um 4)), .int 0, .ref ((um 5)), .int 0, .int 0, .int 0, .int 0, .int 0, .int 0, .int 0, .ref ((um 6)), .ref ((um 7)), .ref ((um 8)), .int 0, .ref ((um 9)), .ref ((um 10)), .ref ((um 11)), .ref ((um 12)), .int 0, .ref ((um 13))])), ((um 14), .inl (cA 0, 14, .inl ms_n))]) (wr := []) ⟨hx, hb, hml, hown, hts⟩ hE (cX11_told_14 l D cA hm0 ((um 14)) ((um 16)) ((um 0)) ((um 1)) ((um 2)) ((um 15)) ((um 3)) ((um 17)) ((um 4)) ((um 5)) ((um 6)) ((um 7)) ((um 8)) ((um 9)) ((um 10)) ((um 11)) ((um 12)) ((um 13))) (cwV 1 hts gL_law_X11_told rfl rfl rfl (by decide +kernel) ⟨Nat.le_of_ble_eq_true rfl, Nat.le_of_ble_eq_true rfl⟩) hP hD hS hA [0, 15] [] rfl rfl rfl rfl (by decide) 0 11 rfl rfl rfl hl.1 rfl (Nat.le_of_ble_eq_true rfl) dL_law_240 ⟨Nat.le_of_ble_eq_true rfl, Nat.le_of_ble_eq_true rfl⟩ (fun r70 u69 H locs hp hP hD hS => ?_)
                              subst hp
                              refine lv_icmp_eq (tgt := 988) hx hb dL_law_243 (by decide) (fun _ => ?_) (fun c => absurd (by decide) c)
                              exact law_end C0 (Nat.le_of_ble_eq_true rfl) (Nat.le_of_ble_eq_true rfl) hS hl
                            · skip
                              by_cases g1_71 : (xs 1).toInt ≤ 13
                              · skip
                                have e1 : xs 1 = 13 := Int32.toInt_inj.mp (by have z : (13 : Int32).toInt = 13 := (by decide); omega)
                                refine lv_aload_n hx hb dL_law_225 rfl (lv_at hl 2 rfl) ?_
                                refine lv_aload_n hx hb dL_law_226 rfl (lv_at hl 3 rfl) ?_
                                refine lv_iload_n hx hb dL_law_227 rfl (lv_at hl 0 rfl) ?_
                                refine lv_iconst (v := 1) hx hb dL_law_228 (by decide) ?_
                                refine lv_iadd hx hb dL_law_229 ?_
                                refine ms_eqi (y := 1) (by decide) ?_
                                refine ms_sld hx hb hX hbl hbA hS 1 rfl (by decide) (by decide) dL_law_230 ?_
                                refine ms_eqi (y := 13) e1 ?_
                                refine ms_cVi (qc := (RX10, TX10, 12)) (wc := [(hx0, .inr (10, [.ref ((ux 0)), .ref ((ux 11)), .ref ((ux 20)), .ref ((ux 22)), .ref ((ux 24)), .int 0, .ref ((ux 31)), .ref ((ux 38)), .ref ((ux 41)), .ref ((ux 44)), .ref ((ux 47)), .ref ((ux 48))])), ((ux 11), .inr (2, [.int 0, .int 0, .int 0, .int 0, .int 0, .ref ((ux 12)), .ref ((ux 13)), .ref ((ux 14)), .ref ((ux 15)), .ref ((ux 16)), .ref ((ux 17)), .ref ((ux 18)), .ref ((ux 19))])), ((ux 20), .inr (8, [.ref ((ux 21)), .int 0, .int 0, .int 0, .int (-1), .int (-1)]))]) (wr := ms_WM cA hm0 um) ⟨hx, hb, hml, hown, hts⟩ hE (cX10_told_15 l D cA hx0 ((ux 11)) ((ux 20)) ((ux 0)) ((ux 22)) ((ux 24)) ((ux 31)) ((ux 38)) ((ux 41)) ((ux 44)) ((ux 47)) ((ux 48)) ((ux 12)) ((ux 13)) ((ux 14)) ((ux 15)) ((ux 16)) ((ux 17)) ((ux 18)) ((ux 19)) ((ux 21))) (cwV 1 hts gL_law_X10_told rfl rfl rfl (by decide +kernel) ⟨Nat.le_of_ble_eq_true rfl, Nat.le_of_ble_eq_true rfl⟩) hP hD hS hA [0, 12, 21] [50, 51, 52, 53, 54, 55, 56, 57, 58, 59, 60, 61, 62, 63, 64, 65, 66, 67, 68] rfl rfl rfl rfl (by decide) 0 10 rfl rfl rfl hl.1 rfl (Nat.le_of_ble_eq_true rfl) dL_law_231 ⟨Nat.le_of_ble_eq_true rfl, Nat.le_of_ble_eq_true rfl⟩ (fun r73 u72 H locs hp hP hD hS => ?_)
                                subst hp
                                refine lv_aload_n hx hb dL_law_234 rfl (lv_at hl 1 rfl) ?_
                                refine lv_aload_n hx hb dL_law_235 rfl (lv_at hl 3 rfl) ?_
                                refine lv_iload_n hx hb dL_law_236 rfl (lv_at hl 0 rfl) ?_
                                refine lv_iconst (v := 1) hx hb dL_law_237 (by decide) ?_
                                refine lv_iadd hx hb dL_law_238 ?_
                                refine ms_eqi (y := 1) (by decide) ?_
                                refine ms_sld hx hb hX hbl hbA hS 1 rfl (by decide) (by decide) dL_law_239 ?_
                                refine ms_eqi (y := 13) e1 ?_
                                refine ms_cVi (qc := (RX11, TX11, 32)) (wc := [(hm0, .inr (11, [.ref ((um 16)), .ref ((um 0)), .ref ((um 14)), .ref ((um 1)), .int 0, .ref ((um 2)), .ref ((um 15)), .long 0, .ref ((um 3)), .int 0, .int (-1), .ref ((um 17)), .ref ((um 4)), .int 0, .ref ((um 5)), .int 0, .int 0, .int 0, .int 0, .int 0, .int 0, .int 0, .ref ((um 6)), .ref ((um 7)), .ref ((um 8)), .int 0, .ref ((um 9)), .ref ((um 10)), .ref ((um 11)), .ref ((um 12)), .int 0, .ref ((um 13))])), ((um 16), .inl (cA 0, 68, .inl ms_z))]) (wr := []) ⟨hx, hb, hml, hown, hts⟩ hE (cX11_told_15 l D cA hm0 ((um 16)) ((um 0)) ((um 14)) ((um 1)) ((um 2)) ((um 15)) ((um 3)) ((um 17)) ((um 4)) ((um 5)) ((um 6)) ((um 7)) ((um 8)) ((um 9)) ((um 10)) ((um 11)) ((um 12)) ((um 13))) (cwV 1 hts gL_law_X11_told rfl rfl rfl (by decide +kernel) ⟨Nat.le_of_ble_eq_true rfl, Nat.le_of_ble_eq_true rfl⟩) hP hD hS hA [0, 17] [] rfl rfl rfl rfl (by decide) 0 11 rfl rfl rfl hl.1 rfl (Nat.le_of_ble_eq_true rfl) dL_law_240 ⟨Nat.le_of_ble_eq_true rfl, Nat.le_of_ble_eq_true rfl⟩ (fun r75 u74 H locs hp hP hD hS => ?_)
                                subst hp
                                refine lv_icmp_eq (tgt := 988) hx hb dL_law_243 (by decide) (fun _ => ?_) (fun c => absurd (by decide) c)
                                exact law_end C0 (Nat.le_of_ble_eq_true rfl) (Nat.le_of_ble_eq_true rfl) hS hl
                              · skip
                                by_cases g1_76 : (xs 1).toInt ≤ 14
                                · skip
                                  have e1 : xs 1 = 14 := Int32.toInt_inj.mp (by have z : (14 : Int32).toInt = 14 := (by decide); omega)
                                  refine lv_aload_n hx hb dL_law_225 rfl (lv_at hl 2 rfl) ?_
                                  refine lv_aload_n hx hb dL_law_226 rfl (lv_at hl 3 rfl) ?_
                                  refine lv_iload_n hx hb dL_law_227 rfl (lv_at hl 0 rfl) ?_
                                  refine lv_iconst (v := 1) hx hb dL_law_228 (by decide) ?_
                                  refine lv_iadd hx hb dL_law_229 ?_
                                  refine ms_eqi (y := 1) (by decide) ?_
                                  refine ms_sld hx hb hX hbl hbA hS 1 rfl (by decide) (by decide) dL_law_230 ?_
                                  refine ms_eqi (y := 14) e1 ?_
                                  refine ms_cVi (qc := (RX10, TX10, 12)) (wc := [(hx0, .inr (10, [.ref ((ux 0)), .ref ((ux 11)), .ref ((ux 20)), .ref ((ux 22)), .ref ((ux 24)), .int 0, .ref ((ux 31)), .ref ((ux 38)), .ref ((ux 41)), .ref ((ux 44)), .ref ((ux 47)), .ref ((ux 48))])), ((ux 31), .inr (5, [.ref ((ux 32)), .ref ((ux 33)), .ref ((ux 34)), .ref ((ux 35)), .int 0, .ref ((ux 36)), .ref ((ux 37)), .int 0]))]) (wr := ms_WM cA hm0 um) ⟨hx, hb, hml, hown, hts⟩ hE (cX10_told_16 l D cA hx0 ((ux 31)) ((ux 0)) ((ux 11)) ((ux 20)) ((ux 22)) ((ux 24)) ((ux 38)) ((ux 41)) ((ux 44)) ((ux 47)) ((ux 48)) ((ux 32)) ((ux 33)) ((ux 34)) ((ux 35)) ((ux 36)) ((ux 37))) (cwV 1 hts gL_law_X10_told rfl rfl rfl (by decide +kernel) ⟨Nat.le_of_ble_eq_true rfl, Nat.le_of_ble_eq_true rfl⟩) hP hD hS hA [0, 32] [50, 51, 52, 53, 54, 55, 56, 57, 58, 59, 60, 61, 62, 63, 64, 65, 66, 67, 68] rfl rfl rfl rfl (by decide) 0 10 rfl rfl rfl hl.1 rfl (Nat.le_of_ble_eq_true rfl) dL_law_231 ⟨Nat.le_of_ble_eq_true rfl, Nat.le_of_ble_eq_true rfl⟩ (fun r78 u77 H locs hp hP hD hS => ?_)
                                  subst hp
                                  refine lv_aload_n hx hb dL_law_234 rfl (lv_at hl 1 rfl) ?_
                                  refine lv_aload_n hx hb dL_law_235 rfl (lv_at hl 3 rfl) ?_
                                  refine lv_iload_n hx hb dL_law_236 rfl (lv_at hl 0 rfl) ?_
                                  refine lv_iconst (v := 1) hx hb dL_law_237 (by decide) ?_
                                  refine lv_iadd hx hb dL_law_238 ?_
                                  refine ms_eqi (y := 1) (by decide) ?_
                                  refine ms_sld hx hb hX hbl hbA hS 1 rfl (by decide) (by decide) dL_law_239 ?_
                                  refine ms_eqi (y := 14) e1 ?_
                                  refine ms_cVi (qc := (RX11, TX11, 32)) (wc := [(hm0, .inr (11, [.ref ((um 16)), .ref ((um 0)), .ref ((um 14)), .ref ((um 1)), .int 0, .ref ((um 2)), .ref ((um 15)), .long 0, .ref ((um 3)), .int 0, .int (-1), .ref ((um 17)), .ref ((um 4)), .int 0, .ref ((um 5)), .int 0, .int 0, .int 0, .int 0, .int 0, .int 0, .int 0, .ref ((um 6)), .ref ((um 7)), .ref ((um 8)), .int 0, .ref ((um 9)), .ref ((um 10)), .ref ((um 11)), .ref ((um 12)), .int 0, .ref ((um 13))]))]) (wr := []) ⟨hx, hb, hml, hown, hts⟩ hE (cX11_told_16 l D cA hm0 ((um 16)) ((um 0)) ((um 14)) ((um 1)) ((um 2)) ((um 15)) ((um 3)) ((um 17)) ((um 4)) ((um 5)) ((um 6)) ((um 7)) ((um 8)) ((um 9)) ((um 10)) ((um 11)) ((um 12)) ((um 13))) (cwV 1 hts gL_law_X11_told rfl rfl rfl (by decide +kernel) ⟨Nat.le_of_ble_eq_true rfl, Nat.le_of_ble_eq_true rfl⟩) hP hD hS hA [0] [] rfl rfl rfl rfl (by decide) 0 11 rfl rfl rfl hl.1 rfl (Nat.le_of_ble_eq_true rfl) dL_law_240 ⟨Nat.le_of_ble_eq_true rfl, Nat.le_of_ble_eq_true rfl⟩ (fun r80 u79 H locs hp hP hD hS => ?_)
                                  subst hp
                                  refine lv_icmp_eq (tgt := 988) hx hb dL_law_243 (by decide) (fun _ => ?_) (fun c => absurd (by decide) c)
                                  exact law_end C0 (Nat.le_of_ble_eq_true rfl) (Nat.le_of_ble_eq_true rfl) hS hl
                                · skip
                                  by_cases g1_81 : (xs 1).toInt ≤ 15
                                  · skip
                                    have e1 : xs 1 = 15 := Int32.toInt_inj.mp (by have z : (15 : Int32).toInt = 15 := (by decide); omega)
                                    refine lv_aload_n hx hb dL_law_225 rfl (lv_at hl 2 rfl) ?_
                                    refine lv_aload_n hx hb dL_law_226 rfl (lv_at hl 3 rfl) ?_
                                    refine lv_iload_n hx hb dL_law_227 rfl (lv_at hl 0 rfl) ?_
                                    refine lv_iconst (v := 1) hx hb dL_law_228 (by decide) ?_
                                    refine lv_iadd hx hb dL_law_229 ?_
                                    refine ms_eqi (y := 1) (by decide) ?_
                                    refine ms_sld hx hb hX hbl hbA hS 1 rfl (by decide) (by decide) dL_law_230 ?_
                                    refine ms_eqi (y := 15) e1 ?_
                                    refine ms_cVi (qc := (RX10, TX10, 12)) (wc := [(hx0, .inr (10, [.ref ((ux 0)), .ref ((ux 11)), .ref ((ux 20)), .ref ((ux 22)), .ref ((ux 24)), .int 0, .ref ((ux 31)), .ref ((ux 38)), .ref ((ux 41)), .ref ((ux 44)), .ref ((ux 47)), .ref ((ux 48))])), ((ux 31), .inr (5, [.ref ((ux 32)), .ref ((ux 33)), .ref ((ux 34)), .ref ((ux 35)), .int 0, .ref ((ux 36)), .ref ((ux 37)), .int 0]))]) (wr := ms_WM cA hm0 um) ⟨hx, hb, hml, hown, hts⟩ hE (cX10_told_17 l D cA hx0 ((ux 31)) ((ux 0)) ((ux 11)) ((ux 20)) ((ux 22)) ((ux 24)) ((ux 38)) ((ux 41)) ((ux 44)) ((ux 47)) ((ux 48)) ((ux 32)) ((ux 33)) ((ux 34)) ((ux 35)) ((ux 36)) ((ux 37))) (cwV 1 hts gL_law_X10_told rfl rfl rfl (by decide +kernel) ⟨Nat.le_of_ble_eq_true rfl, Nat.le_of_ble_eq_true rfl⟩) hP hD hS hA [0, 32] [50, 51, 52, 53, 54, 55, 56, 57, 58, 59, 60, 61, 62, 63, 64, 65, 66, 67, 68] rfl rfl rfl rfl (by decide) 0 10 rfl rfl rfl hl.1 rfl (Nat.le_of_ble_eq_true rfl) dL_law_231 ⟨Nat.le_of_ble_eq_true rfl, Nat.le_of_ble_eq_true rfl⟩ (fun r83 u82 H locs hp hP hD hS => ?_)
                                    subst hp
                                    refine lv_aload_n hx hb dL_law_234 rfl (lv_at hl 1 rfl) ?_
                                    refine lv_aload_n hx hb dL_law_235 rfl (lv_at hl 3 rfl) ?_
                                    refine lv_iload_n hx hb dL_law_236 rfl (lv_at hl 0 rfl) ?_
                                    refine lv_iconst (v := 1) hx hb dL_law_237 (by decide) ?_
                                    refine lv_iadd hx hb dL_law_238 ?_
                                    refine ms_eqi (y := 1) (by decide) ?_
                                    refine ms_sld hx hb hX hbl hbA hS 1 rfl (by decide) (by decide) dL_law_239 ?_
                                    refine ms_eqi (y := 15) e1 ?_
                                    refine ms_cVi (qc := (RX11, TX11, 32)) (wc := [(hm0, .inr (11, [.ref ((um 16)), .ref ((um 0)), .ref ((um 14)), .ref ((um 1)), .int 0, .ref ((um 2)), .ref ((um 15)), .long 0, .ref ((um 3)), .int 0, .int (-1), .ref ((um 17)), .ref ((um 4)), .int 0, .ref ((um 5)), .int 0, .int 0, .int 0, .int 0, .int 0, .int 0, .int 0, .ref ((um 6)), .ref ((um 7)), .ref ((um 8)), .int 0, .ref ((um 9)), .ref ((um 10)), .ref ((um 11)), .ref ((um 12)), .int 0, .ref ((um 13))]))]) (wr := []) ⟨hx, hb, hml, hown, hts⟩ hE (cX11_told_17 l D cA hm0 ((um 16)) ((um 0)) ((um 14)) ((um 1)) ((um 2)) ((um 15)) ((um 3)) ((um 17)) ((um 4)) ((um 5)) ((um 6)) ((um 7)) ((um 8)) ((um 9)) ((um 10)) ((um 11)) ((um 12)) ((um 13))) (cwV 1 hts gL_law_X11_told rfl rfl rfl (by decide +kernel) ⟨Nat.le_of_ble_eq_true rfl, Nat.le_of_ble_eq_true rfl⟩) hP hD hS hA [0] [] rfl rfl rfl rfl (by decide) 0 11 rfl rfl rfl hl.1 rfl (Nat.le_of_ble_eq_true rfl) dL_law_240 ⟨Nat.le_of_ble_eq_true rfl, Nat.le_of_ble_eq_true rfl⟩ (fun r85 u84 H locs hp hP hD hS => ?_)
                                    subst hp
                                    refine lv_icmp_eq (tgt := 988) hx hb dL_law_243 (by decide) (fun _ => ?_) (fun c => absurd (by decide) c)
                                    exact law_end C0 (Nat.le_of_ble_eq_true rfl) (Nat.le_of_ble_eq_true rfl) hS hl
                                  · skip
                                    by_cases g1_86 : (xs 1).toInt ≤ 16
                                    · skip
                                      have e1 : xs 1 = 16 := Int32.toInt_inj.mp (by have z : (16 : Int32).toInt = 16 := (by decide); omega)
                                      refine lv_aload_n hx hb dL_law_225 rfl (lv_at hl 2 rfl) ?_
                                      refine lv_aload_n hx hb dL_law_226 rfl (lv_at hl 3 rfl) ?_
                                      refine lv_iload_n hx hb dL_law_227 rfl (lv_at hl 0 rfl) ?_
                                      refine lv_iconst (v := 1) hx hb dL_law_228 (by decide) ?_
                                      refine lv_iadd hx hb dL_law_229 ?_
                                      refine ms_eqi (y := 1) (by decide) ?_
                                      refine ms_sld hx hb hX hbl hbA hS 1 rfl (by decide) (by decide) dL_law_230 ?_
                                      refine ms_eqi (y := 16) e1 ?_
                                      refine ms_cVi (qc := (RX10, TX10, 12)) (wc := [(hx0, .inr (10, [.ref ((ux 0)), .ref ((ux 11)), .ref ((ux 20)), .ref ((ux 22)), .ref ((ux 24)), .int 0, .ref ((ux 31)), .ref ((ux 38)), .ref ((ux 41)), .ref ((ux 44)), .ref ((ux 47)), .ref ((ux 48))])), ((ux 31), .inr (5, [.ref ((ux 32)), .ref ((ux 33)), .ref ((ux 34)), .ref ((ux 35)), .int 0, .ref ((ux 36)), .ref ((ux 37)), .int 0])), ((ux 32), .inl (cA 0, 9, .inl ms_z))]) (wr := ms_WM cA hm0 um) ⟨hx, hb, hml, hown, hts⟩ hE (cX10_told_18 l D cA hx0 ((ux 31)) ((ux 32)) ((ux 0)) ((ux 11)) ((ux 20)) ((ux 22)) ((ux 24)) ((ux 38)) ((ux 41)) ((ux 44)) ((ux 47)) ((ux 48)) ((ux 33)) ((ux 34)) ((ux 35)) ((ux 36)) ((ux 37))) (cwV 1 hts gL_law_X10_told rfl rfl rfl (by decide +kernel) ⟨Nat.le_of_ble_eq_true rfl, Nat.le_of_ble_eq_true rfl⟩) hP hD hS hA [0, 32, 33] [50, 51, 52, 53, 54, 55, 56, 57, 58, 59, 60, 61, 62, 63, 64, 65, 66, 67, 68] rfl rfl rfl rfl (by decide) 0 10 rfl rfl rfl hl.1 rfl (Nat.le_of_ble_eq_true rfl) dL_law_231 ⟨Nat.le_of_ble_eq_true rfl, Nat.le_of_ble_eq_true rfl⟩ (fun r88 u87 H locs hp hP hD hS => ?_)
                                      subst hp
                                      refine lv_aload_n hx hb dL_law_234 rfl (lv_at hl 1 rfl) ?_
                                      refine lv_aload_n hx hb dL_law_235 rfl (lv_at hl 3 rfl) ?_
                                      refine lv_iload_n hx hb dL_law_236 rfl (lv_at hl 0 rfl) ?_
                                      refine lv_iconst (v := 1) hx hb dL_law_237 (by decide) ?_
                                      refine lv_iadd hx hb dL_law_238 ?_
                                      refine ms_eqi (y := 1) (by decide) ?_
                                      refine ms_sld hx hb hX hbl hbA hS 1 rfl (by decide) (by decide) dL_law_239 ?_
                                      refine ms_eqi (y := 16) e1 ?_
                                      refine ms_cVi (qc := (RX11, TX11, 32)) (wc := [(hm0, .inr (11, [.ref ((um 16)), .ref ((um 0)), .ref ((um 14)), .ref ((um 1)), .int 0, .ref ((um 2)), .ref ((um 15)), .long 0, .ref ((um 3)), .int 0, .int (-1), .ref ((um 17)), .ref ((um 4)), .int 0, .ref ((um 5)), .int 0, .int 0, .int 0, .int 0, .int 0, .int 0, .int 0, .ref ((um 6)), .ref ((um 7)), .ref ((um 8)), .int 0, .ref ((um 9)), .ref ((um 10)), .ref ((um 11)), .ref ((um 12)), .int 0, .ref ((um 13))])), ((um 17), .inl (cA 0, 9, .inl ms_z))]) (wr := []) ⟨hx, hb, hml, hown, hts⟩ hE (cX11_told_18 l D cA hm0 ((um 17)) ((um 16)) ((um 0)) ((um 14)) ((um 1)) ((um 2)) ((um 15)) ((um 3)) ((um 4)) ((um 5)) ((um 6)) ((um 7)) ((um 8)) ((um 9)) ((um 10)) ((um 11)) ((um 12)) ((um 13))) (cwV 1 hts gL_law_X11_told rfl rfl rfl (by decide +kernel) ⟨Nat.le_of_ble_eq_true rfl, Nat.le_of_ble_eq_true rfl⟩) hP hD hS hA [0, 18] [] rfl rfl rfl rfl (by decide) 0 11 rfl rfl rfl hl.1 rfl (Nat.le_of_ble_eq_true rfl) dL_law_240 ⟨Nat.le_of_ble_eq_true rfl, Nat.le_of_ble_eq_true rfl⟩ (fun r90 u89 H locs hp hP hD hS => ?_)
                                      subst hp
                                      refine lv_icmp_eq (tgt := 988) hx hb dL_law_243 (by decide) (fun _ => ?_) (fun c => absurd (by decide) c)
                                      exact law_end C0 (Nat.le_of_ble_eq_true rfl) (Nat.le_of_ble_eq_true rfl) hS hl
                                    · skip
                                      by_cases g1_91 : (xs 1).toInt ≤ 17
                                      · skip
                                        have e1 : xs 1 = 17 := Int32.toInt_inj.mp (by have z : (17 : Int32).toInt = 17 := (by decide); omega)
                                        refine lv_aload_n hx hb dL_law_225 rfl (lv_at hl 2 rfl) ?_
                                        refine lv_aload_n hx hb dL_law_226 rfl (lv_at hl 3 rfl) ?_
                                        refine lv_iload_n hx hb dL_law_227 rfl (lv_at hl 0 rfl) ?_
                                        refine lv_iconst (v := 1) hx hb dL_law_228 (by decide) ?_
                                        refine lv_iadd hx hb dL_law_229 ?_
                                        refine ms_eqi (y := 1) (by decide) ?_
                                        refine ms_sld hx hb hX hbl hbA hS 1 rfl (by decide) (by decide) dL_law_230 ?_
                                        refine ms_eqi (y := 17) e1 ?_
                                        refine ms_cVi (qc := (RX10, TX10, 12)) (wc := [(hx0, .inr (10, [.ref ((ux 0)), .ref ((ux 11)), .ref ((ux 20)), .ref ((ux 22)), .ref ((ux 24)), .int 0, .ref ((ux 31)), .ref ((ux 38)), .ref ((ux 41)), .ref ((ux 44)), .ref ((ux 47)), .ref ((ux 48))])), ((ux 22), .inr (0, [.ref ((ux 23)), .int 0, .int 0]))]) (wr := ms_WM cA hm0 um) ⟨hx, hb, hml, hown, hts⟩ hE (cX10_told_19 l D cA hx0 ((ux 22)) ((ux 0)) ((ux 11)) ((ux 20)) ((ux 24)) ((ux 31)) ((ux 38)) ((ux 41)) ((ux 44)) ((ux 47)) ((ux 48)) ((ux 23))) (cwV 1 hts gL_law_X10_told rfl rfl rfl (by decide +kernel) ⟨Nat.le_of_ble_eq_true rfl, Nat.le_of_ble_eq_true rfl⟩) hP hD hS hA [0, 23] [50, 51, 52, 53, 54, 55, 56, 57, 58, 59, 60, 61, 62, 63, 64, 65, 66, 67, 68] rfl rfl rfl rfl (by decide) 0 10 rfl rfl rfl hl.1 rfl (Nat.le_of_ble_eq_true rfl) dL_law_231 ⟨Nat.le_of_ble_eq_true rfl, Nat.le_of_ble_eq_true rfl⟩ (fun r93 u92 H locs hp hP hD hS => ?_)
                                        subst hp
                                        refine lv_aload_n hx hb dL_law_234 rfl (lv_at hl 1 rfl) ?_
                                        refine lv_aload_n hx hb dL_law_235 rfl (lv_at hl 3 rfl) ?_
                                        refine lv_iload_n hx hb dL_law_236 rfl (lv_at hl 0 rfl) ?_
                                        refine lv_iconst (v := 1) hx hb dL_law_237 (by decide) ?_
                                        refine lv_iadd hx hb dL_law_238 ?_
                                        refine ms_eqi (y := 1) (by decide) ?_
                                        refine ms_sld hx hb hX hbl hbA hS 1 rfl (by decide) (by decide) dL_law_239 ?_
                                        refine ms_eqi (y := 17) e1 ?_
                                        refine ms_cVi (qc := (RX11, TX11, 32)) (wc := [(hm0, .inr (11, [.ref ((um 16)), .ref ((um 0)), .ref ((um 14)), .ref ((um 1)), .int 0, .ref ((um 2)), .ref ((um 15)), .long 0, .ref ((um 3)), .int 0, .int (-1), .ref ((um 17)), .ref ((um 4)), .int 0, .ref ((um 5)), .int 0, .int 0, .int 0, .int 0, .int 0, .int 0, .int 0, .ref ((um 6)), .ref ((um 7)), .ref ((um 8)), .int 0, .ref ((um 9)), .ref ((um 10)), .ref ((um 11)), .ref ((um 12)), .int 0, .ref ((um 13))]))]) (wr := []) ⟨hx, hb, hml, hown, hts⟩ hE (cX11_told_19 l D cA hm0 ((um 16)) ((um 0)) ((um 14)) ((um 1)) ((um 2)) ((um 15)) ((um 3)) ((um 17)) ((um 4)) ((um 5)) ((um 6)) ((um 7)) ((um 8)) ((um 9)) ((um 10)) ((um 11)) ((um 12)) ((um 13))) (cwV 1 hts gL_law_X11_told rfl rfl rfl (by decide +kernel) ⟨Nat.le_of_ble_eq_true rfl, Nat.le_of_ble_eq_true rfl⟩) hP hD hS hA [0] [] rfl rfl rfl rfl (by decide) 0 11 rfl rfl rfl hl.1 rfl (Nat.le_of_ble_eq_true rfl) dL_law_240 ⟨Nat.le_of_ble_eq_true rfl, Nat.le_of_ble_eq_true rfl⟩ (fun r95 u94 H locs hp hP hD hS => ?_)
                                        subst hp
                                        refine lv_icmp_eq (tgt := 988) hx hb dL_law_243 (by decide) (fun _ => ?_) (fun c => absurd (by decide) c)
                                        exact law_end C0 (Nat.le_of_ble_eq_true rfl) (Nat.le_of_ble_eq_true rfl) hS hl
                                      · skip
                                        refine lv_aload_n hx hb dL_law_225 rfl (lv_at hl 2 rfl) ?_
                                        refine lv_aload_n hx hb dL_law_226 rfl (lv_at hl 3 rfl) ?_
                                        refine lv_iload_n hx hb dL_law_227 rfl (lv_at hl 0 rfl) ?_
                                        refine lv_iconst (v := 1) hx hb dL_law_228 (by decide) ?_
                                        refine lv_iadd hx hb dL_law_229 ?_
                                        refine ms_eqi (y := 1) (by decide) ?_
                                        refine ms_sld hx hb hX hbl hbA hS 1 rfl (by decide) (by decide) dL_law_230 ?_
                                        refine ms_cVi (qc := (RX10, TX10, 12)) (wc := [(hx0, .inr (10, [.ref ((ux 0)), .ref ((ux 11)), .ref ((ux 20)), .ref ((ux 22)), .ref ((ux 24)), .int 0, .ref ((ux 31)), .ref ((ux 38)), .ref ((ux 41)), .ref ((ux 44)), .ref ((ux 47)), .ref ((ux 48))]))]) (wr := ms_WM cA hm0 um) ⟨hx, hb, hml, hown, hts⟩ hE (cX10_told_20 l D cA hx0 ((ux 0)) ((ux 11)) ((ux 20)) ((ux 22)) ((ux 24)) ((ux 31)) ((ux 38)) ((ux 41)) ((ux 44)) ((ux 47)) ((ux 48)) ((xs 1)) (by omega)) (cwV 1 hts gL_law_X10_told rfl rfl rfl (by decide +kernel) ⟨Nat.le_of_ble_eq_true rfl, Nat.le_of_ble_eq_true rfl⟩) hP hD hS hA [0] [50, 51, 52, 53, 54, 55, 56, 57, 58, 59, 60, 61, 62, 63, 64, 65, 66, 67, 68] rfl rfl rfl rfl (by decide) 0 10 rfl rfl rfl hl.1 rfl (Nat.le_of_ble_eq_true rfl) dL_law_231 ⟨Nat.le_of_ble_eq_true rfl, Nat.le_of_ble_eq_true rfl⟩ (fun r97 u96 H locs hp hP hD hS => ?_)
                                        subst hp
                                        refine lv_aload_n hx hb dL_law_234 rfl (lv_at hl 1 rfl) ?_
                                        refine lv_aload_n hx hb dL_law_235 rfl (lv_at hl 3 rfl) ?_
                                        refine lv_iload_n hx hb dL_law_236 rfl (lv_at hl 0 rfl) ?_
                                        refine lv_iconst (v := 1) hx hb dL_law_237 (by decide) ?_
                                        refine lv_iadd hx hb dL_law_238 ?_
                                        refine ms_eqi (y := 1) (by decide) ?_
                                        refine ms_sld hx hb hX hbl hbA hS 1 rfl (by decide) (by decide) dL_law_239 ?_
                                        refine ms_cVi (qc := (RX11, TX11, 32)) (wc := [(hm0, .inr (11, [.ref ((um 16)), .ref ((um 0)), .ref ((um 14)), .ref ((um 1)), .int 0, .ref ((um 2)), .ref ((um 15)), .long 0, .ref ((um 3)), .int 0, .int (-1), .ref ((um 17)), .ref ((um 4)), .int 0, .ref ((um 5)), .int 0, .int 0, .int 0, .int 0, .int 0, .int 0, .int 0, .ref ((um 6)), .ref ((um 7)), .ref ((um 8)), .int 0, .ref ((um 9)), .ref ((um 10)), .ref ((um 11)), .ref ((um 12)), .int 0, .ref ((um 13))]))]) (wr := []) ⟨hx, hb, hml, hown, hts⟩ hE (cX11_told_20 l D cA hm0 ((um 16)) ((um 0)) ((um 14)) ((um 1)) ((um 2)) ((um 15)) ((um 3)) ((um 17)) ((um 4)) ((um 5)) ((um 6)) ((um 7)) ((um 8)) ((um 9)) ((um 10)) ((um 11)) ((um 12)) ((um 13)) ((xs 1)) (by omega)) (cwV 1 hts gL_law_X11_told rfl rfl rfl (by decide +kernel) ⟨Nat.le_of_ble_eq_true rfl, Nat.le_of_ble_eq_true rfl⟩) hP hD hS hA [0] [] rfl rfl rfl rfl (by decide) 0 11 rfl rfl rfl hl.1 rfl (Nat.le_of_ble_eq_true rfl) dL_law_240 ⟨Nat.le_of_ble_eq_true rfl, Nat.le_of_ble_eq_true rfl⟩ (fun r99 u98 H locs hp hP hD hS => ?_)
                                        subst hp
                                        refine lv_icmp_eq (tgt := 988) hx hb dL_law_243 (by decide) (fun _ => ?_) (fun c => absurd (by decide) c)
                                        exact law_end C0 (Nat.le_of_ble_eq_true rfl) (Nat.le_of_ble_eq_true rfl) hS hl
set_option maxHeartbeats 4000000 in
set_option maxRecDepth 100000 in
theorem law_4 (l : Launch) (D : va_G) (cA : Nat → ClassId) (hx0 hm0 : Nat) (ux um : Nat → Nat) {p : Program} {e : Env} {s : State} {m : MethodId} {below : List Frame} {meth : Method} {c : Code} {b : Nat} {xs : Nat → Int32} {H : Heap} {locs : List Loc} {ls : Array Slot} (C0 : lw_At p s m meth c b 4 xs) (hE : ms_EV D cA s) (hP : va_P D vwCl (ms_WX cA hx0 ux ++ ms_WM cA hm0 um) H) (hD : va_D (fun q : Nat => s.heap.size ≤ q) (ms_WX cA hx0 ux ++ ms_WM cA hm0 um)) (hS : va_S (fun q : Nat => s.heap.size ≤ q) s.heap H locs) (hl : lv_has ls 4 [(3, .int 0), (2, .ref hm0), (1, .ref hx0), (0, .ref b)]) : W p l e room_1 s m #[Value.ref b] below meth c H locs 69 1489 (lw_Z below #[Value.ref b] s) (F0 m 248 ls []) := by
  obtain ⟨hx, hb, hr, hml, hown, hts0, hX, hbl, hlocks, hgv⟩ := id C0
  have hb : c.code = cL_law := hb
  have hown : s.vm.findClass RL = some m.cls := hown
  have hts : ∀ w ∈ wsL_law, w.before #[Value.ref b] s = true := fun w h => hts0 w (wsL_law_in w h)
  have hA : ∀ q : Nat, s.heap.size ≤ q → (fun q : Nat => s.heap.size ≤ q) q := fun _ h => h
  have hbA : ¬ (fun q : Nat => s.heap.size ≤ q) b := Nat.not_le.mpr hbl
  refine lv_aload_n hx hb dL_law_248 rfl (lv_at hl 2 rfl) ?_
  refine lv_aload_n hx hb dL_law_249 rfl (lv_at hl 3 rfl) ?_
  refine lv_iload_n hx hb dL_law_250 rfl (lv_at hl 0 rfl) ?_
  refine lv_iconst (v := 1) hx hb dL_law_251 (by decide) ?_
  refine lv_iadd hx hb dL_law_252 ?_
  refine ms_eqi (y := 1) (by decide) ?_
  refine ms_sld hx hb hX hbl hbA hS 1 rfl (by decide) (by decide) dL_law_253 ?_
  refine lv_aload_n hx hb dL_law_254 rfl (lv_at hl 3 rfl) ?_
  refine lv_iload_n hx hb dL_law_255 rfl (lv_at hl 0 rfl) ?_
  refine lv_iconst (v := 2) hx hb dL_law_256 (by decide) ?_
  refine lv_iadd hx hb dL_law_257 ?_
  refine ms_eqi (y := 2) (by decide) ?_
  refine ms_sld hx hb hX hbl hbA hS 2 rfl (by decide) (by decide) dL_law_258 ?_
  refine ms_cVi (qc := (RX10, TX10, 12)) (wc := [(hx0, .inr (10, [.ref ((ux 0)), .ref ((ux 11)), .ref ((ux 20)), .ref ((ux 22)), .ref ((ux 24)), .int 0, .ref ((ux 31)), .ref ((ux 38)), .ref ((ux 41)), .ref ((ux 44)), .ref ((ux 47)), .ref ((ux 48))])), ((ux 11), .inr (2, [.int 0, .int 0, .int 0, .int 0, .int 0, .ref ((ux 12)), .ref ((ux 13)), .ref ((ux 14)), .ref ((ux 15)), .ref ((ux 16)), .ref ((ux 17)), .ref ((ux 18)), .ref ((ux 19))]))]) (wr := ms_WM cA hm0 um) ⟨hx, hb, hml, hown, hts⟩ hE (cX10_road_1 l D cA hx0 ((ux 11)) ((ux 0)) ((ux 20)) ((ux 22)) ((ux 24)) ((ux 31)) ((ux 38)) ((ux 41)) ((ux 44)) ((ux 47)) ((ux 48)) ((ux 12)) ((ux 13)) ((ux 14)) ((ux 15)) ((ux 16)) ((ux 17)) ((ux 18)) ((ux 19)) ((xs 1)) ((xs 2))) (cwV 2 hts gL_law_X10_road rfl rfl rfl (by decide +kernel) ⟨Nat.le_of_ble_eq_true rfl, Nat.le_of_ble_eq_true rfl⟩) hP hD hS hA [0, 12] [50, 51, 52, 53, 54, 55, 56, 57, 58, 59, 60, 61, 62, 63, 64, 65, 66, 67, 68] rfl rfl rfl rfl (by decide) 0 10 rfl rfl rfl hl.1 rfl (Nat.le_of_ble_eq_true rfl) dL_law_259 ⟨Nat.le_of_ble_eq_true rfl, Nat.le_of_ble_eq_true rfl⟩ (fun r2 u1 H locs hp hP hD hS => ?_)
  subst hp
  refine lv_aload_n hx hb dL_law_262 rfl (lv_at hl 1 rfl) ?_
  refine lv_aload_n hx hb dL_law_263 rfl (lv_at hl 3 rfl) ?_
  refine lv_iload_n hx hb dL_law_264 rfl (lv_at hl 0 rfl) ?_
  refine lv_iconst (v := 1) hx hb dL_law_265 (by decide) ?_
  refine lv_iadd hx hb dL_law_266 ?_
  refine ms_eqi (y := 1) (by decide) ?_
  refine ms_sld hx hb hX hbl hbA hS 1 rfl (by decide) (by decide) dL_law_267 ?_
  refine lv_aload_n hx hb dL_law_268 rfl (lv_at hl 3 rfl) ?_
  refine lv_iload_n hx hb dL_law_269 rfl (lv_at hl 0 rfl) ?_
  refine lv_iconst (v := 2) hx hb dL_law_270 (by decide) ?_
  refine lv_iadd hx hb dL_law_271 ?_
  refine ms_eqi (y := 2) (by decide) ?_
  refine ms_sld hx hb hX hbl hbA hS 2 rfl (by decide) (by decide) dL_law_272 ?_
  refine ms_cVi (qc := (RX11, TX11, 32)) (wc := [(hm0, .inr (11, [.ref ((um 16)), .ref ((um 0)), .ref ((um 14)), .ref ((um 1)), .int 0, .ref ((um 2)), .ref ((um 15)), .long 0, .ref ((um 3)), .int 0, .int (-1), .ref ((um 17)), .ref ((um 4)), .int 0, .ref ((um 5)), .int 0, .int 0, .int 0, .int 0, .int 0, .int 0, .int 0, .ref ((um 6)), .ref ((um 7)), .ref ((um 8)), .int 0, .ref ((um 9)), .ref ((um 10)), .ref ((um 11)), .ref ((um 12)), .int 0, .ref ((um 13))])), ((um 16), .inl (cA 0, 68, .inl ms_z))]) (wr := []) ⟨hx, hb, hml, hown, hts⟩ hE (cX11_road_1 l D cA hm0 ((um 16)) ((um 0)) ((um 14)) ((um 1)) ((um 2)) ((um 15)) ((um 3)) ((um 17)) ((um 4)) ((um 5)) ((um 6)) ((um 7)) ((um 8)) ((um 9)) ((um 10)) ((um 11)) ((um 12)) ((um 13)) ((xs 1)) ((xs 2))) (cwV 2 hts gL_law_X11_road rfl rfl rfl (by decide +kernel) ⟨Nat.le_of_ble_eq_true rfl, Nat.le_of_ble_eq_true rfl⟩) hP hD hS hA [0, 17] [] rfl rfl rfl rfl (by decide) 0 11 rfl rfl rfl hl.1 rfl (Nat.le_of_ble_eq_true rfl) dL_law_273 ⟨Nat.le_of_ble_eq_true rfl, Nat.le_of_ble_eq_true rfl⟩ (fun r4 u3 H locs hp hP hD hS => ?_)
  subst hp
  refine lv_icmp_eq (tgt := 988) hx hb dL_law_276 (by decide) (fun _ => ?_) (fun c => absurd (by decide) c)
  exact law_end C0 (Nat.le_of_ble_eq_true rfl) (Nat.le_of_ble_eq_true rfl) hS hl
set_option maxHeartbeats 4000000 in
set_option maxRecDepth 100000 in
theorem law_5 (l : Launch) (D : va_G) (cA : Nat → ClassId) (hx0 hm0 : Nat) (ux um : Nat → Nat) {p : Program} {e : Env} {s : State} {m : MethodId} {below : List Frame} {meth : Method} {c : Code} {b : Nat} {xs : Nat → Int32} {H : Heap} {locs : List Loc} {ls : Array Slot} (C0 : lw_At p s m meth c b 4 xs) (hE : ms_EV D cA s) (hP : va_P D vwCl (ms_WX cA hx0 ux ++ ms_WM cA hm0 um) H) (hD : va_D (fun q : Nat => s.heap.size ≤ q) (ms_WX cA hx0 ux ++ ms_WM cA hm0 um)) (hS : va_S (fun q : Nat => s.heap.size ≤ q) s.heap H locs) (hl : lv_has ls 4 [(3, .int 0), (2, .ref hm0), (1, .ref hx0), (0, .ref b)]) : W p l e room_1 s m #[Value.ref b] below meth c H locs 69 1489 (lw_Z below #[Value.ref b] s) (F0 m 281 ls []) := by
  obtain ⟨hx, hb, hr, hml, hown, hts0, hX, hbl, hlocks, hgv⟩ := id C0
  have hb : c.code = cL_law := hb
  have hown : s.vm.findClass RL = some m.cls := hown
  have hts : ∀ w ∈ wsL_law, w.before #[Value.ref b] s = true := fun w h => hts0 w (wsL_law_in w h)
  have hA : ∀ q : Nat, s.heap.size ≤ q → (fun q : Nat => s.heap.size ≤ q) q := fun _ h => h
  have hbA : ¬ (fun q : Nat => s.heap.size ≤ q) b := Nat.not_le.mpr hbl
  refine lv_aload_n hx hb dL_law_281 rfl (lv_at hl 2 rfl) ?_
  refine lv_aload_n hx hb dL_law_282 rfl (lv_at hl 3 rfl) ?_
  refine lv_iload_n hx hb dL_law_283 rfl (lv_at hl 0 rfl) ?_
  refine lv_iconst (v := 1) hx hb dL_law_284 (by decide) ?_
  refine lv_iadd hx hb dL_law_285 ?_
  refine ms_eqi (y := 1) (by decide) ?_
  refine ms_sld hx hb hX hbl hbA hS 1 rfl (by decide) (by decide) dL_law_286 ?_
  refine lv_aload_n hx hb dL_law_287 rfl (lv_at hl 3 rfl) ?_
  refine lv_iload_n hx hb dL_law_288 rfl (lv_at hl 0 rfl) ?_
  refine lv_iconst (v := 2) hx hb dL_law_289 (by decide) ?_
  refine lv_iadd hx hb dL_law_290 ?_
  refine ms_eqi (y := 2) (by decide) ?_
  refine ms_sld hx hb hX hbl hbA hS 2 rfl (by decide) (by decide) dL_law_291 ?_
  refine ms_cVi (qc := (RX10, TX10, 12)) (wc := [(hx0, .inr (10, [.ref ((ux 0)), .ref ((ux 11)), .ref ((ux 20)), .ref ((ux 22)), .ref ((ux 24)), .int 0, .ref ((ux 31)), .ref ((ux 38)), .ref ((ux 41)), .ref ((ux 44)), .ref ((ux 47)), .ref ((ux 48))])), ((ux 11), .inr (2, [.int 0, .int 0, .int 0, .int 0, .int 0, .ref ((ux 12)), .ref ((ux 13)), .ref ((ux 14)), .ref ((ux 15)), .ref ((ux 16)), .ref ((ux 17)), .ref ((ux 18)), .ref ((ux 19))]))]) (wr := ms_WM cA hm0 um) ⟨hx, hb, hml, hown, hts⟩ hE (cX10_treaty_1 l D cA hx0 ((ux 11)) ((ux 0)) ((ux 20)) ((ux 22)) ((ux 24)) ((ux 31)) ((ux 38)) ((ux 41)) ((ux 44)) ((ux 47)) ((ux 48)) ((ux 12)) ((ux 13)) ((ux 14)) ((ux 15)) ((ux 16)) ((ux 17)) ((ux 18)) ((ux 19)) ((xs 1)) ((xs 2))) (cwV 2 hts gL_law_X10_treaty rfl rfl rfl (by decide +kernel) ⟨Nat.le_of_ble_eq_true rfl, Nat.le_of_ble_eq_true rfl⟩) hP hD hS hA [0, 12] [50, 51, 52, 53, 54, 55, 56, 57, 58, 59, 60, 61, 62, 63, 64, 65, 66, 67, 68] rfl rfl rfl rfl (by decide) 0 10 rfl rfl rfl hl.1 rfl (Nat.le_of_ble_eq_true rfl) dL_law_292 ⟨Nat.le_of_ble_eq_true rfl, Nat.le_of_ble_eq_true rfl⟩ (fun r2 u1 H locs hp hP hD hS => ?_)
  subst hp
  refine lv_aload_n hx hb dL_law_295 rfl (lv_at hl 1 rfl) ?_
  refine lv_aload_n hx hb dL_law_296 rfl (lv_at hl 3 rfl) ?_
  refine lv_iload_n hx hb dL_law_297 rfl (lv_at hl 0 rfl) ?_
  refine lv_iconst (v := 1) hx hb dL_law_298 (by decide) ?_
  refine lv_iadd hx hb dL_law_299 ?_
  refine ms_eqi (y := 1) (by decide) ?_
  refine ms_sld hx hb hX hbl hbA hS 1 rfl (by decide) (by decide) dL_law_300 ?_
  refine lv_aload_n hx hb dL_law_301 rfl (lv_at hl 3 rfl) ?_
  refine lv_iload_n hx hb dL_law_302 rfl (lv_at hl 0 rfl) ?_
  refine lv_iconst (v := 2) hx hb dL_law_303 (by decide) ?_
  refine lv_iadd hx hb dL_law_304 ?_
  refine ms_eqi (y := 2) (by decide) ?_
  refine ms_sld hx hb hX hbl hbA hS 2 rfl (by decide) (by decide) dL_law_305 ?_
  refine ms_cVi (qc := (RX11, TX11, 32)) (wc := [(hm0, .inr (11, [.ref ((um 16)), .ref ((um 0)), .ref ((um 14)), .ref ((um 1)), .int 0, .ref ((um 2)), .ref ((um 15)), .long 0, .ref ((um 3)), .int 0, .int (-1), .ref ((um 17)), .ref ((um 4)), .int 0, .ref ((um 5)), .int 0, .int 0, .int 0, .int 0, .int 0, .int 0, .int 0, .ref ((um 6)), .ref ((um 7)), .ref ((um 8)), .int 0, .ref ((um 9)), .ref ((um 10)), .ref ((um 11)), .ref ((um 12)), .int 0, .ref ((um 13))])), ((um 16), .inl (cA 0, 68, .inl ms_z))]) (wr := []) ⟨hx, hb, hml, hown, hts⟩ hE (cX11_treaty_1 l D cA hm0 ((um 16)) ((um 0)) ((um 14)) ((um 1)) ((um 2)) ((um 15)) ((um 3)) ((um 17)) ((um 4)) ((um 5)) ((um 6)) ((um 7)) ((um 8)) ((um 9)) ((um 10)) ((um 11)) ((um 12)) ((um 13)) ((xs 1)) ((xs 2))) (cwV 2 hts gL_law_X11_treaty rfl rfl rfl (by decide +kernel) ⟨Nat.le_of_ble_eq_true rfl, Nat.le_of_ble_eq_true rfl⟩) hP hD hS hA [0, 17] [] rfl rfl rfl rfl (by decide) 0 11 rfl rfl rfl hl.1 rfl (Nat.le_of_ble_eq_true rfl) dL_law_306 ⟨Nat.le_of_ble_eq_true rfl, Nat.le_of_ble_eq_true rfl⟩ (fun r4 u3 H locs hp hP hD hS => ?_)
  subst hp
  refine lv_icmp_eq (tgt := 988) hx hb dL_law_309 (by decide) (fun _ => ?_) (fun c => absurd (by decide) c)
  exact law_end C0 (Nat.le_of_ble_eq_true rfl) (Nat.le_of_ble_eq_true rfl) hS hl
set_option maxHeartbeats 4000000 in
set_option maxRecDepth 100000 in
theorem law_6 (l : Launch) (D : va_G) (cA : Nat → ClassId) (hx0 hm0 : Nat) (ux um : Nat → Nat) {p : Program} {e : Env} {s : State} {m : MethodId} {below : List Frame} {meth : Method} {c : Code} {b : Nat} {xs : Nat → Int32} {H : Heap} {locs : List Loc} {ls : Array Slot} (C0 : lw_At p s m meth c b 4 xs) (hE : ms_EV D cA s) (hP : va_P D vwCl (ms_WX cA hx0 ux ++ ms_WM cA hm0 um) H) (hD : va_D (fun q : Nat => s.heap.size ≤ q) (ms_WX cA hx0 ux ++ ms_WM cA hm0 um)) (hS : va_S (fun q : Nat => s.heap.size ≤ q) s.heap H locs) (hl : lv_has ls 4 [(3, .int 0), (2, .ref hm0), (1, .ref hx0), (0, .ref b)]) : W p l e room_1 s m #[Value.ref b] below meth c H locs 69 1489 (lw_Z below #[Value.ref b] s) (F0 m 314 ls []) := by
  obtain ⟨hx, hb, hr, hml, hown, hts0, hX, hbl, hlocks, hgv⟩ := id C0
  have hb : c.code = cL_law := hb
  have hown : s.vm.findClass RL = some m.cls := hown
  have hts : ∀ w ∈ wsL_law, w.before #[Value.ref b] s = true := fun w h => hts0 w (wsL_law_in w h)
  have hA : ∀ q : Nat, s.heap.size ≤ q → (fun q : Nat => s.heap.size ≤ q) q := fun _ h => h
  have hbA : ¬ (fun q : Nat => s.heap.size ≤ q) b := Nat.not_le.mpr hbl
  refine lv_aload_n hx hb dL_law_314 rfl (lv_at hl 2 rfl) ?_
  refine lv_aload_n hx hb dL_law_315 rfl (lv_at hl 3 rfl) ?_
  refine lv_iload_n hx hb dL_law_316 rfl (lv_at hl 0 rfl) ?_
  refine lv_iconst (v := 1) hx hb dL_law_317 (by decide) ?_
  refine lv_iadd hx hb dL_law_318 ?_
  refine ms_eqi (y := 1) (by decide) ?_
  refine ms_sld hx hb hX hbl hbA hS 1 rfl (by decide) (by decide) dL_law_319 ?_
  refine lv_aload_n hx hb dL_law_320 rfl (lv_at hl 3 rfl) ?_
  refine lv_iload_n hx hb dL_law_321 rfl (lv_at hl 0 rfl) ?_
  refine lv_iconst (v := 2) hx hb dL_law_322 (by decide) ?_
  refine lv_iadd hx hb dL_law_323 ?_
  refine ms_eqi (y := 2) (by decide) ?_
  refine ms_sld hx hb hX hbl hbA hS 2 rfl (by decide) (by decide) dL_law_324 ?_
  refine ms_cVi (qc := (RX10, TX10, 12)) (wc := [(hx0, .inr (10, [.ref ((ux 0)), .ref ((ux 11)), .ref ((ux 20)), .ref ((ux 22)), .ref ((ux 24)), .int 0, .ref ((ux 31)), .ref ((ux 38)), .ref ((ux 41)), .ref ((ux 44)), .ref ((ux 47)), .ref ((ux 48))])), ((ux 11), .inr (2, [.int 0, .int 0, .int 0, .int 0, .int 0, .ref ((ux 12)), .ref ((ux 13)), .ref ((ux 14)), .ref ((ux 15)), .ref ((ux 16)), .ref ((ux 17)), .ref ((ux 18)), .ref ((ux 19))]))]) (wr := ms_WM cA hm0 um) ⟨hx, hb, hml, hown, hts⟩ hE (cX10_shift_1 l D cA hx0 ((ux 11)) ((ux 0)) ((ux 20)) ((ux 22)) ((ux 24)) ((ux 31)) ((ux 38)) ((ux 41)) ((ux 44)) ((ux 47)) ((ux 48)) ((ux 12)) ((ux 13)) ((ux 14)) ((ux 15)) ((ux 16)) ((ux 17)) ((ux 18)) ((ux 19)) ((xs 1)) ((xs 2))) (cwV 2 hts gL_law_X10_shift rfl rfl rfl (by decide +kernel) ⟨Nat.le_of_ble_eq_true rfl, Nat.le_of_ble_eq_true rfl⟩) hP hD hS hA [0, 12] [50, 51, 52, 53, 54, 55, 56, 57, 58, 59, 60, 61, 62, 63, 64, 65, 66, 67, 68] rfl rfl rfl rfl (by decide) 0 10 rfl rfl rfl hl.1 rfl (Nat.le_of_ble_eq_true rfl) dL_law_325 ⟨Nat.le_of_ble_eq_true rfl, Nat.le_of_ble_eq_true rfl⟩ (fun r2 u1 H locs hp hP hD hS => ?_)
  subst hp
  refine lv_aload_n hx hb dL_law_328 rfl (lv_at hl 1 rfl) ?_
  refine lv_aload_n hx hb dL_law_329 rfl (lv_at hl 3 rfl) ?_
  refine lv_iload_n hx hb dL_law_330 rfl (lv_at hl 0 rfl) ?_
  refine lv_iconst (v := 1) hx hb dL_law_331 (by decide) ?_
  refine lv_iadd hx hb dL_law_332 ?_
  refine ms_eqi (y := 1) (by decide) ?_
  refine ms_sld hx hb hX hbl hbA hS 1 rfl (by decide) (by decide) dL_law_333 ?_
  refine lv_aload_n hx hb dL_law_334 rfl (lv_at hl 3 rfl) ?_
  refine lv_iload_n hx hb dL_law_335 rfl (lv_at hl 0 rfl) ?_
  refine lv_iconst (v := 2) hx hb dL_law_336 (by decide) ?_
  refine lv_iadd hx hb dL_law_337 ?_
  refine ms_eqi (y := 2) (by decide) ?_
  refine ms_sld hx hb hX hbl hbA hS 2 rfl (by decide) (by decide) dL_law_338 ?_
  refine ms_cVi (qc := (RX11, TX11, 32)) (wc := [(hm0, .inr (11, [.ref ((um 16)), .ref ((um 0)), .ref ((um 14)), .ref ((um 1)), .int 0, .ref ((um 2)), .ref ((um 15)), .long 0, .ref ((um 3)), .int 0, .int (-1), .ref ((um 17)), .ref ((um 4)), .int 0, .ref ((um 5)), .int 0, .int 0, .int 0, .int 0, .int 0, .int 0, .int 0, .ref ((um 6)), .ref ((um 7)), .ref ((um 8)), .int 0, .ref ((um 9)), .ref ((um 10)), .ref ((um 11)), .ref ((um 12)), .int 0, .ref ((um 13))])), ((um 16), .inl (cA 0, 68, .inl ms_z))]) (wr := []) ⟨hx, hb, hml, hown, hts⟩ hE (cX11_shift_1 l D cA hm0 ((um 16)) ((um 0)) ((um 14)) ((um 1)) ((um 2)) ((um 15)) ((um 3)) ((um 17)) ((um 4)) ((um 5)) ((um 6)) ((um 7)) ((um 8)) ((um 9)) ((um 10)) ((um 11)) ((um 12)) ((um 13)) ((xs 1)) ((xs 2))) (cwV 2 hts gL_law_X11_shift rfl rfl rfl (by decide +kernel) ⟨Nat.le_of_ble_eq_true rfl, Nat.le_of_ble_eq_true rfl⟩) hP hD hS hA [0, 17] [] rfl rfl rfl rfl (by decide) 0 11 rfl rfl rfl hl.1 rfl (Nat.le_of_ble_eq_true rfl) dL_law_339 ⟨Nat.le_of_ble_eq_true rfl, Nat.le_of_ble_eq_true rfl⟩ (fun r4 u3 H locs hp hP hD hS => ?_)
  subst hp
  refine lv_icmp_eq (tgt := 988) hx hb dL_law_342 (by decide) (fun _ => ?_) (fun c => absurd (by decide) c)
  exact law_end C0 (Nat.le_of_ble_eq_true rfl) (Nat.le_of_ble_eq_true rfl) hS hl
set_option maxHeartbeats 4000000 in
set_option maxRecDepth 100000 in
theorem law_7 (l : Launch) (D : va_G) (cA : Nat → ClassId) (hx0 hm0 : Nat) (ux um : Nat → Nat) {p : Program} {e : Env} {s : State} {m : MethodId} {below : List Frame} {meth : Method} {c : Code} {b : Nat} {xs : Nat → Int32} {H : Heap} {locs : List Loc} {ls : Array Slot} (C0 : lw_At p s m meth c b 4 xs) (hE : ms_EV D cA s) (hP : va_P D vwCl (ms_WX cA hx0 ux ++ ms_WM cA hm0 um) H) (hD : va_D (fun q : Nat => s.heap.size ≤ q) (ms_WX cA hx0 ux ++ ms_WM cA hm0 um)) (hS : va_S (fun q : Nat => s.heap.size ≤ q) s.heap H locs) (hl : lv_has ls 4 [(3, .int 0), (2, .ref hm0), (1, .ref hx0), (0, .ref b)]) : W p l e room_1 s m #[Value.ref b] below meth c H locs 69 1489 (lw_Z below #[Value.ref b] s) (F0 m 347 ls []) := by
  obtain ⟨hx, hb, hr, hml, hown, hts0, hX, hbl, hlocks, hgv⟩ := id C0
  have hb : c.code = cL_law := hb
  have hown : s.vm.findClass RL = some m.cls := hown
  have hts : ∀ w ∈ wsL_law, w.before #[Value.ref b] s = true := fun w h => hts0 w (wsL_law_in w h)
  have hA : ∀ q : Nat, s.heap.size ≤ q → (fun q : Nat => s.heap.size ≤ q) q := fun _ h => h
  have hbA : ¬ (fun q : Nat => s.heap.size ≤ q) b := Nat.not_le.mpr hbl
  by_cases g1_1 : (xs 1).toInt ≤ 0
  · skip
    refine lv_aload_n hx hb dL_law_347 rfl (lv_at hl 2 rfl) ?_
    refine lv_aload_n hx hb dL_law_348 rfl (lv_at hl 3 rfl) ?_
    refine lv_iload_n hx hb dL_law_349 rfl (lv_at hl 0 rfl) ?_
    refine lv_iconst (v := 1) hx hb dL_law_350 (by decide) ?_
    refine lv_iadd hx hb dL_law_351 ?_
    refine ms_eqi (y := 1) (by decide) ?_
    refine ms_sld hx hb hX hbl hbA hS 1 rfl (by decide) (by decide) dL_law_352 ?_
    refine ms_cVi (qc := (RX10, TX10, 12)) (wc := [(hx0, .inr (10, [.ref ((ux 0)), .ref ((ux 11)), .ref ((ux 20)), .ref ((ux 22)), .ref ((ux 24)), .int 0, .ref ((ux 31)), .ref ((ux 38)), .ref ((ux 41)), .ref ((ux 44)), .ref ((ux 47)), .ref ((ux 48))]))]) (wr := ms_WM cA hm0 um) ⟨hx, hb, hml, hown, hts⟩ hE (cX10_year_1 l D cA hx0 ((ux 0)) ((ux 11)) ((ux 20)) ((ux 22)) ((ux 24)) ((ux 31)) ((ux 38)) ((ux 41)) ((ux 44)) ((ux 47)) ((ux 48)) ((xs 1)) (by omega)) (cwV 1 hts gL_law_X10_year rfl rfl rfl (by decide +kernel) ⟨Nat.le_of_ble_eq_true rfl, Nat.le_of_ble_eq_true rfl⟩) hP hD hS hA [0] [50, 51, 52, 53, 54, 55, 56, 57, 58, 59, 60, 61, 62, 63, 64, 65, 66, 67, 68] rfl rfl rfl rfl (by decide) 0 10 rfl rfl rfl hl.1 rfl (Nat.le_of_ble_eq_true rfl) dL_law_353 ⟨Nat.le_of_ble_eq_true rfl, Nat.le_of_ble_eq_true rfl⟩ (fun r3 u2 H locs hp hP hD hS => ?_)
    subst hp
    refine lv_aload_n hx hb dL_law_356 rfl (lv_at hl 1 rfl) ?_
    refine lv_aload_n hx hb dL_law_357 rfl (lv_at hl 3 rfl) ?_
    refine lv_iload_n hx hb dL_law_358 rfl (lv_at hl 0 rfl) ?_
    refine lv_iconst (v := 1) hx hb dL_law_359 (by decide) ?_
    refine lv_iadd hx hb dL_law_360 ?_
    refine ms_eqi (y := 1) (by decide) ?_
    refine ms_sld hx hb hX hbl hbA hS 1 rfl (by decide) (by decide) dL_law_361 ?_
    refine ms_cVi (qc := (RX11, TX11, 32)) (wc := [(hm0, .inr (11, [.ref ((um 16)), .ref ((um 0)), .ref ((um 14)), .ref ((um 1)), .int 0, .ref ((um 2)), .ref ((um 15)), .long 0, .ref ((um 3)), .int 0, .int (-1), .ref ((um 17)), .ref ((um 4)), .int 0, .ref ((um 5)), .int 0, .int 0, .int 0, .int 0, .int 0, .int 0, .int 0, .ref ((um 6)), .ref ((um 7)), .ref ((um 8)), .int 0, .ref ((um 9)), .ref ((um 10)), .ref ((um 11)), .ref ((um 12)), .int 0, .ref ((um 13))]))]) (wr := []) ⟨hx, hb, hml, hown, hts⟩ hE (cX11_year_1 l D cA hm0 ((um 16)) ((um 0)) ((um 14)) ((um 1)) ((um 2)) ((um 15)) ((um 3)) ((um 17)) ((um 4)) ((um 5)) ((um 6)) ((um 7)) ((um 8)) ((um 9)) ((um 10)) ((um 11)) ((um 12)) ((um 13)) ((xs 1)) (by omega)) (cwV 1 hts gL_law_X11_year rfl rfl rfl (by decide +kernel) ⟨Nat.le_of_ble_eq_true rfl, Nat.le_of_ble_eq_true rfl⟩) hP hD hS hA [0] [] rfl rfl rfl rfl (by decide) 0 11 rfl rfl rfl hl.1 rfl (Nat.le_of_ble_eq_true rfl) dL_law_362 ⟨Nat.le_of_ble_eq_true rfl, Nat.le_of_ble_eq_true rfl⟩ (fun r5 u4 H locs hp hP hD hS => ?_)
    subst hp
    refine lv_icmp_eq (tgt := 988) hx hb dL_law_365 (by decide) (fun _ => ?_) (fun c => absurd (by decide) c)
    exact law_end C0 (Nat.le_of_ble_eq_true rfl) (Nat.le_of_ble_eq_true rfl) hS hl
  · skip
    by_cases g1_6 : (xs 1).toInt ≤ 99
    · skip
      refine lv_aload_n hx hb dL_law_347 rfl (lv_at hl 2 rfl) ?_
      refine lv_aload_n hx hb dL_law_348 rfl (lv_at hl 3 rfl) ?_
      refine lv_iload_n hx hb dL_law_349 rfl (lv_at hl 0 rfl) ?_
      refine lv_iconst (v := 1) hx hb dL_law_350 (by decide) ?_
      refine lv_iadd hx hb dL_law_351 ?_
      refine ms_eqi (y := 1) (by decide) ?_
      refine ms_sld hx hb hX hbl hbA hS 1 rfl (by decide) (by decide) dL_law_352 ?_
      refine ms_cVi (qc := (RX10, TX10, 12)) (wc := [(hx0, .inr (10, [.ref ((ux 0)), .ref ((ux 11)), .ref ((ux 20)), .ref ((ux 22)), .ref ((ux 24)), .int 0, .ref ((ux 31)), .ref ((ux 38)), .ref ((ux 41)), .ref ((ux 44)), .ref ((ux 47)), .ref ((ux 48))])), ((ux 11), .inr (2, [.int 0, .int 0, .int 0, .int 0, .int 0, .ref ((ux 12)), .ref ((ux 13)), .ref ((ux 14)), .ref ((ux 15)), .ref ((ux 16)), .ref ((ux 17)), .ref ((ux 18)), .ref ((ux 19))]))]) (wr := ms_WM cA hm0 um) ⟨hx, hb, hml, hown, hts⟩ hE (cX10_year_2 l D cA hx0 ((ux 11)) ((ux 0)) ((ux 20)) ((ux 22)) ((ux 24)) ((ux 31)) ((ux 38)) ((ux 41)) ((ux 44)) ((ux 47)) ((ux 48)) ((ux 12)) ((ux 13)) ((ux 14)) ((ux 15)) ((ux 16)) ((ux 17)) ((ux 18)) ((ux 19)) ((xs 1)) (by omega) (by omega)) (cwV 1 hts gL_law_X10_year rfl rfl rfl (by decide +kernel) ⟨Nat.le_of_ble_eq_true rfl, Nat.le_of_ble_eq_true rfl⟩) hP hD hS hA [0, 12] [50, 51, 52, 53, 54, 55, 56, 57, 58, 59, 60, 61, 62, 63, 64, 65, 66, 67, 68] rfl rfl rfl rfl (by decide) 0 10 rfl rfl rfl hl.1 rfl (Nat.le_of_ble_eq_true rfl) dL_law_353 ⟨Nat.le_of_ble_eq_true rfl, Nat.le_of_ble_eq_true rfl⟩ (fun r8 u7 H locs hp hP hD hS => ?_)
      subst hp
      refine lv_aload_n hx hb dL_law_356 rfl (lv_at hl 1 rfl) ?_
      refine lv_aload_n hx hb dL_law_357 rfl (lv_at hl 3 rfl) ?_
      refine lv_iload_n hx hb dL_law_358 rfl (lv_at hl 0 rfl) ?_
      refine lv_iconst (v := 1) hx hb dL_law_359 (by decide) ?_
      refine lv_iadd hx hb dL_law_360 ?_
      refine ms_eqi (y := 1) (by decide) ?_
      refine ms_sld hx hb hX hbl hbA hS 1 rfl (by decide) (by decide) dL_law_361 ?_
      refine ms_cVi (qc := (RX11, TX11, 32)) (wc := [(hm0, .inr (11, [.ref ((um 16)), .ref ((um 0)), .ref ((um 14)), .ref ((um 1)), .int 0, .ref ((um 2)), .ref ((um 15)), .long 0, .ref ((um 3)), .int 0, .int (-1), .ref ((um 17)), .ref ((um 4)), .int 0, .ref ((um 5)), .int 0, .int 0, .int 0, .int 0, .int 0, .int 0, .int 0, .ref ((um 6)), .ref ((um 7)), .ref ((um 8)), .int 0, .ref ((um 9)), .ref ((um 10)), .ref ((um 11)), .ref ((um 12)), .int 0, .ref ((um 13))])), ((um 16), .inl (cA 0, 68, .inl ms_z))]) (wr := []) ⟨hx, hb, hml, hown, hts⟩ hE (cX11_year_2 l D cA hm0 ((um 16)) ((um 0)) ((um 14)) ((um 1)) ((um 2)) ((um 15)) ((um 3)) ((um 17)) ((um 4)) ((um 5)) ((um 6)) ((um 7)) ((um 8)) ((um 9)) ((um 10)) ((um 11)) ((um 12)) ((um 13)) ((xs 1)) (by omega) (by omega)) (cwV 1 hts gL_law_X11_year rfl rfl rfl (by decide +kernel) ⟨Nat.le_of_ble_eq_true rfl, Nat.le_of_ble_eq_true rfl⟩) hP hD hS hA [0, 17] [] rfl rfl rfl rfl (by decide) 0 11 rfl rfl rfl hl.1 rfl (Nat.le_of_ble_eq_true rfl) dL_law_362 ⟨Nat.le_of_ble_eq_true rfl, Nat.le_of_ble_eq_true rfl⟩ (fun r10 u9 H locs hp hP hD hS => ?_)
      subst hp
      refine lv_icmp_eq (tgt := 988) hx hb dL_law_365 (by decide) (fun _ => ?_) (fun c => absurd (by decide) c)
      exact law_end C0 (Nat.le_of_ble_eq_true rfl) (Nat.le_of_ble_eq_true rfl) hS hl
    · skip
      refine lv_aload_n hx hb dL_law_347 rfl (lv_at hl 2 rfl) ?_
      refine lv_aload_n hx hb dL_law_348 rfl (lv_at hl 3 rfl) ?_
      refine lv_iload_n hx hb dL_law_349 rfl (lv_at hl 0 rfl) ?_
      refine lv_iconst (v := 1) hx hb dL_law_350 (by decide) ?_
      refine lv_iadd hx hb dL_law_351 ?_
      refine ms_eqi (y := 1) (by decide) ?_
      refine ms_sld hx hb hX hbl hbA hS 1 rfl (by decide) (by decide) dL_law_352 ?_
      refine ms_cVi (qc := (RX10, TX10, 12)) (wc := [(hx0, .inr (10, [.ref ((ux 0)), .ref ((ux 11)), .ref ((ux 20)), .ref ((ux 22)), .ref ((ux 24)), .int 0, .ref ((ux 31)), .ref ((ux 38)), .ref ((ux 41)), .ref ((ux 44)), .ref ((ux 47)), .ref ((ux 48))]))]) (wr := ms_WM cA hm0 um) ⟨hx, hb, hml, hown, hts⟩ hE (cX10_year_3 l D cA hx0 ((ux 0)) ((ux 11)) ((ux 20)) ((ux 22)) ((ux 24)) ((ux 31)) ((ux 38)) ((ux 41)) ((ux 44)) ((ux 47)) ((ux 48)) ((xs 1)) (by omega)) (cwV 1 hts gL_law_X10_year rfl rfl rfl (by decide +kernel) ⟨Nat.le_of_ble_eq_true rfl, Nat.le_of_ble_eq_true rfl⟩) hP hD hS hA [0] [50, 51, 52, 53, 54, 55, 56, 57, 58, 59, 60, 61, 62, 63, 64, 65, 66, 67, 68] rfl rfl rfl rfl (by decide) 0 10 rfl rfl rfl hl.1 rfl (Nat.le_of_ble_eq_true rfl) dL_law_353 ⟨Nat.le_of_ble_eq_true rfl, Nat.le_of_ble_eq_true rfl⟩ (fun r12 u11 H locs hp hP hD hS => ?_)
      subst hp
      refine lv_aload_n hx hb dL_law_356 rfl (lv_at hl 1 rfl) ?_
      refine lv_aload_n hx hb dL_law_357 rfl (lv_at hl 3 rfl) ?_
      refine lv_iload_n hx hb dL_law_358 rfl (lv_at hl 0 rfl) ?_
      refine lv_iconst (v := 1) hx hb dL_law_359 (by decide) ?_
      refine lv_iadd hx hb dL_law_360 ?_
      refine ms_eqi (y := 1) (by decide) ?_
      refine ms_sld hx hb hX hbl hbA hS 1 rfl (by decide) (by decide) dL_law_361 ?_
      refine ms_cVi (qc := (RX11, TX11, 32)) (wc := [(hm0, .inr (11, [.ref ((um 16)), .ref ((um 0)), .ref ((um 14)), .ref ((um 1)), .int 0, .ref ((um 2)), .ref ((um 15)), .long 0, .ref ((um 3)), .int 0, .int (-1), .ref ((um 17)), .ref ((um 4)), .int 0, .ref ((um 5)), .int 0, .int 0, .int 0, .int 0, .int 0, .int 0, .int 0, .ref ((um 6)), .ref ((um 7)), .ref ((um 8)), .int 0, .ref ((um 9)), .ref ((um 10)), .ref ((um 11)), .ref ((um 12)), .int 0, .ref ((um 13))]))]) (wr := []) ⟨hx, hb, hml, hown, hts⟩ hE (cX11_year_3 l D cA hm0 ((um 16)) ((um 0)) ((um 14)) ((um 1)) ((um 2)) ((um 15)) ((um 3)) ((um 17)) ((um 4)) ((um 5)) ((um 6)) ((um 7)) ((um 8)) ((um 9)) ((um 10)) ((um 11)) ((um 12)) ((um 13)) ((xs 1)) (by omega)) (cwV 1 hts gL_law_X11_year rfl rfl rfl (by decide +kernel) ⟨Nat.le_of_ble_eq_true rfl, Nat.le_of_ble_eq_true rfl⟩) hP hD hS hA [0] [] rfl rfl rfl rfl (by decide) 0 11 rfl rfl rfl hl.1 rfl (Nat.le_of_ble_eq_true rfl) dL_law_362 ⟨Nat.le_of_ble_eq_true rfl, Nat.le_of_ble_eq_true rfl⟩ (fun r14 u13 H locs hp hP hD hS => ?_)
      subst hp
      refine lv_icmp_eq (tgt := 988) hx hb dL_law_365 (by decide) (fun _ => ?_) (fun c => absurd (by decide) c)
      exact law_end C0 (Nat.le_of_ble_eq_true rfl) (Nat.le_of_ble_eq_true rfl) hS hl
