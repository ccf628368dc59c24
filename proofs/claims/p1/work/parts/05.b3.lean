set_option maxHeartbeats 4000000 in
set_option maxRecDepth 100000 in
theorem law_24 (l : Launch) (D : va_G) (cA : Nat → ClassId) (hx0 hm0 : Nat) (ux um : Nat → Nat) {p : Program} {e : Env} {s : State} {m : MethodId} {below : List Frame} {meth : Method} {c : Code} {b : Nat} {xs : Nat → Int32} {H : Heap} {locs : List Loc} {ls : Array Slot} (C0 : lw_At p s m meth c b 4 xs) (hE : ms_EV D cA s) (hP : va_P D vwCl (ms_WX cA hx0 ux ++ ms_WM cA hm0 um) H) (hD : va_D (fun q : Nat => s.heap.size ≤ q) (ms_WX cA hx0 ux ++ ms_WM cA hm0 um)) (hS : va_S (fun q : Nat => s.heap.size ≤ q) s.heap H locs) (hl : lv_has ls 4 [(3, .int 0), (2, .ref hm0), (1, .ref hx0), (0, .ref b)]) : W p l e room_1 s m #[Value.ref b] below meth c H locs 69 1489 (lw_Z below #[Value.ref b] s) (F0 m 814 ls []) := by
  obtain ⟨hx, hb, hr, hml, hown, hts0, hX, hbl, hlocks, hgv⟩ := id C0
  have hb : c.code = cL_law := hb
  have hown : s.vm.findClass RL = some m.cls := hown
  have hts : ∀ w ∈ wsL_law, w.before #[Value.ref b] s = true := fun w h => hts0 w (wsL_law_in w h)
  have hA : ∀ q : Nat, s.heap.size ≤ q → (fun q : Nat => s.heap.size ≤ q) q := fun _ h => h
  have hbA : ¬ (fun q : Nat => s.heap.size ≤ q) b := Nat.not_le.mpr hbl
  refine lv_aload_n hx hb dL_law_814 rfl (lv_at hl 2 rfl) ?_
  refine ms_cVi (qc := (RX10, TX10, 12)) (wc := [(hx0, .inr (10, [.ref ((ux 0)), .ref ((ux 11)), .ref ((ux 20)), .ref ((ux 22)), .ref ((ux 24)), .int 0, .ref ((ux 31)), .ref ((ux 38)), .ref ((ux 41)), .ref ((ux 44)), .ref ((ux 47)), .ref ((ux 48))])), ((ux 31), .inr (5, [.ref ((ux 32)), .ref ((ux 33)), .ref ((ux 34)), .ref ((ux 35)), .int 0, .ref ((ux 36)), .ref ((ux 37)), .int 0]))]) (wr := ms_WM cA hm0 um) ⟨hx, hb, hml, hown, hts⟩ hE (cX10_liars_1 l D cA hx0 ((ux 31)) ((ux 0)) ((ux 11)) ((ux 20)) ((ux 22)) ((ux 24)) ((ux 38)) ((ux 41)) ((ux 44)) ((ux 47)) ((ux 48)) ((ux 32)) ((ux 33)) ((ux 34)) ((ux 35)) ((ux 36)) ((ux 37))) (cwV 0 hts gL_law_X10_liars rfl rfl rfl (by decide +kernel) ⟨Nat.le_of_ble_eq_true rfl, Nat.le_of_ble_eq_true rfl⟩) hP hD hS hA [0, 32] [50, 51, 52, 53, 54, 55, 56, 57, 58, 59, 60, 61, 62, 63, 64, 65, 66, 67, 68] rfl rfl rfl rfl (by decide) 0 10 rfl rfl rfl hl.1 rfl (Nat.le_of_ble_eq_true rfl) dL_law_815 ⟨Nat.le_of_ble_eq_true rfl, Nat.le_of_ble_eq_true rfl⟩ (fun r2 u1 H locs hp hP hD hS => ?_)
  subst hp
  refine lv_aload_n hx hb dL_law_818 rfl (lv_at hl 1 rfl) ?_
  refine ms_cVi (qc := (RX11, TX11, 32)) (wc := [(hm0, .inr (11, [.ref ((um 16)), .ref ((um 0)), .ref ((um 14)), .ref ((um 1)), .int 0, .ref ((um 2)), .ref ((um 15)), .long 0, .ref ((um 3)), .int 0, .int (-1), .ref ((um 17)), .ref ((um 4)), .int 0, .ref ((um 5)), .int 0, .int 0, .int 0, .int 0, .int 0, .int 0, .int 0, .ref ((um 6)), .ref ((um 7)), .ref ((um 8)), .int 0, .ref ((um 9)), .ref ((um 10)), .ref ((um 11)), .ref ((um 12)), .int 0, .ref ((um 13))])), ((um 16), .inl (cA 0, 68, .inl ms_z))]) (wr := []) ⟨hx, hb, hml, hown, hts⟩ hE (cX11_liars_1 l D cA hm0 ((um 16)) ((um 0)) ((um 14)) ((um 1)) ((um 2)) ((um 15)) ((um 3)) ((um 17)) ((um 4)) ((um 5)) ((um 6)) ((um 7)) ((um 8)) ((um 9)) ((um 10)) ((um 11)) ((um 12)) ((um 13))) (cwV 0 hts gL_law_X11_liars rfl rfl rfl (by decide +kernel) ⟨Nat.le_of_ble_eq_true rfl, Nat.le_of_ble_eq_true rfl⟩) hP hD hS hA [0, 17] [] rfl rfl rfl rfl (by decide) 0 11 rfl rfl rfl hl.1 rfl (Nat.le_of_ble_eq_true rfl) dL_law_819 ⟨Nat.le_of_ble_eq_true rfl, Nat.le_of_ble_eq_true rfl⟩ (fun r4 u3 H locs hp hP hD hS => ?_)
  subst hp
  refine lv_icmp_eq (tgt := 988) hx hb dL_law_822 (by decide) (fun _ => ?_) (fun c => absurd (by decide) c)
  exact law_end C0 (Nat.le_of_ble_eq_true rfl) (Nat.le_of_ble_eq_true rfl) hS hl
set_option maxHeartbeats 4000000 in
set_option maxRecDepth 100000 in
theorem law_25 (l : Launch) (D : va_G) (cA : Nat → ClassId) (hx0 hm0 : Nat) (ux um : Nat → Nat) {p : Program} {e : Env} {s : State} {m : MethodId} {below : List Frame} {meth : Method} {c : Code} {b : Nat} {xs : Nat → Int32} {H : Heap} {locs : List Loc} {ls : Array Slot} (C0 : lw_At p s m meth c b 4 xs) (hE : ms_EV D cA s) (hP : va_P D vwCl (ms_WX cA hx0 ux ++ ms_WM cA hm0 um) H) (hD : va_D (fun q : Nat => s.heap.size ≤ q) (ms_WX cA hx0 ux ++ ms_WM cA hm0 um)) (hS : va_S (fun q : Nat => s.heap.size ≤ q) s.heap H locs) (hl : lv_has ls 4 [(3, .int 0), (2, .ref hm0), (1, .ref hx0), (0, .ref b)]) : W p l e room_1 s m #[Value.ref b] below meth c H locs 69 1489 (lw_Z below #[Value.ref b] s) (F0 m 827 ls []) := by
  obtain ⟨hx, hb, hr, hml, hown, hts0, hX, hbl, hlocks, hgv⟩ := id C0
  have hb : c.code = cL_law := hb
  have hown : s.vm.findClass RL = some m.cls := hown
  have hts : ∀ w ∈ wsL_law, w.before #[Value.ref b] s = true := fun w h => hts0 w (wsL_law_in w h)
  have hA : ∀ q : Nat, s.heap.size ≤ q → (fun q : Nat => s.heap.size ≤ q) q := fun _ h => h
  have hbA : ¬ (fun q : Nat => s.heap.size ≤ q) b := Nat.not_le.mpr hbl
  refine lv_aload_n hx hb dL_law_827 rfl (lv_at hl 2 rfl) ?_
  refine lv_aload_n hx hb dL_law_828 rfl (lv_at hl 3 rfl) ?_
  refine lv_iload_n hx hb dL_law_829 rfl (lv_at hl 0 rfl) ?_
  refine lv_iconst (v := 1) hx hb dL_law_830 (by decide) ?_
  refine lv_iadd hx hb dL_law_831 ?_
  refine ms_eqi (y := 1) (by decide) ?_
  refine ms_sld hx hb hX hbl hbA hS 1 rfl (by decide) (by decide) dL_law_832 ?_
  refine lv_aload_n hx hb dL_law_833 rfl (lv_at hl 3 rfl) ?_
  refine lv_iload_n hx hb dL_law_834 rfl (lv_at hl 0 rfl) ?_
  refine lv_iconst (v := 2) hx hb dL_law_835 (by decide) ?_
  refine lv_iadd hx hb dL_law_836 ?_
  refine ms_eqi (y := 2) (by decide) ?_
  refine ms_sld hx hb hX hbl hbA hS 2 rfl (by decide) (by decide) dL_law_837 ?_
  refine ms_cVi (qc := (RX10, TX10, 12)) (wc := [(hx0, .inr (10, [.ref ((ux 0)), .ref ((ux 11)), .ref ((ux 20)), .ref ((ux 22)), .ref ((ux 24)), .int 0, .ref ((ux 31)), .ref ((ux 38)), .ref ((ux 41)), .ref ((ux 44)), .ref ((ux 47)), .ref ((ux 48))])), ((ux 11), .inr (2, [.int 0, .int 0, .int 0, .int 0, .int 0, .ref ((ux 12)), .ref ((ux 13)), .ref ((ux 14)), .ref ((ux 15)), .ref ((ux 16)), .ref ((ux 17)), .ref ((ux 18)), .ref ((ux 19))]))]) (wr := ms_WM cA hm0 um) ⟨hx, hb, hml, hown, hts⟩ hE (cX10_fits_1 l D cA hx0 ((ux 11)) ((ux 0)) ((ux 20)) ((ux 22)) ((ux 24)) ((ux 31)) ((ux 38)) ((ux 41)) ((ux 44)) ((ux 47)) ((ux 48)) ((ux 12)) ((ux 13)) ((ux 14)) ((ux 15)) ((ux 16)) ((ux 17)) ((ux 18)) ((ux 19)) ((xs 1)) ((xs 2))) (cwV 2 hts gL_law_X10_fits rfl rfl rfl (by decide +kernel) ⟨Nat.le_of_ble_eq_true rfl, Nat.le_of_ble_eq_true rfl⟩) hP hD hS hA [0, 12] [50, 51, 52, 53, 54, 55, 56, 57, 58, 59, 60, 61, 62, 63, 64, 65, 66, 67, 68] rfl rfl rfl rfl (by decide) 0 10 rfl rfl rfl hl.1 rfl (Nat.le_of_ble_eq_true rfl) dL_law_838 ⟨Nat.le_of_ble_eq_true rfl, Nat.le_of_ble_eq_true rfl⟩ (fun r2 u1 H locs hp hP hD hS => ?_)
  subst hp
  refine lv_aload_n hx hb dL_law_841 rfl (lv_at hl 1 rfl) ?_
  refine lv_aload_n hx hb dL_law_842 rfl (lv_at hl 3 rfl) ?_
  refine lv_iload_n hx hb dL_law_843 rfl (lv_at hl 0 rfl) ?_
  refine lv_iconst (v := 1) hx hb dL_law_844 (by decide) ?_
  refine lv_iadd hx hb dL_law_845 ?_
  refine ms_eqi (y := 1) (by decide) ?_
  refine ms_sld hx hb hX hbl hbA hS 1 rfl (by decide) (by decide) dL_law_846 ?_
  refine lv_aload_n hx hb dL_law_847 rfl (lv_at hl 3 rfl) ?_
  refine lv_iload_n hx hb dL_law_848 rfl (lv_at hl 0 rfl) ?_
  refine lv_iconst (v := 2) hx hb dL_law_849 (by decide) ?_
  refine lv_iadd hx hb dL_law_850 ?_
  refine ms_eqi (y := 2) (by decide) ?_
  refine ms_sld hx hb hX hbl hbA hS 2 rfl (by decide) (by decide) dL_law_851 ?_
  refine ms_cVi (qc := (RX11, TX11, 32)) (wc := [(hm0, .inr (11, [.ref ((um 16)), .ref ((um 0)), .ref ((um 14)), .ref ((um 1)), .int 0, .ref ((um 2)), .ref ((um 15)), .long 0, .ref ((um 3)), .int 0, .int (-1), .ref ((um 17)), .ref ((um 4)), .int 0, .ref ((um 5)), .int 0, .int 0, .int 0, .int 0, .int 0, .int 0, .int 0, .ref ((um 6)), .ref ((um 7)), .ref ((um 8)), .int 0, .ref ((um 9)), .ref ((um 10)), .ref ((um 11)), .ref ((um 12)), .int 0, .ref ((um 13))])), ((um 16), .inl (cA 0, 68, .inl ms_z))]) (wr := []) ⟨hx, hb, hml, hown, hts⟩ hE (cX11_fits_1 l D cA hm0 ((um 16)) ((um 0)) ((um 14)) ((um 1)) ((um 2)) ((um 15)) ((um 3)) ((um 17)) ((um 4)) ((um 5)) ((um 6)) ((um 7)) ((um 8)) ((um 9)) ((um 10)) ((um 11)) ((um 12)) ((um 13)) ((xs 1)) ((xs 2))) (cwV 2 hts gL_law_X11_fits rfl rfl rfl (by decide +kernel) ⟨Nat.le_of_ble_eq_true rfl, Nat.le_of_ble_eq_true rfl⟩) hP hD hS hA [0, 17] [] rfl rfl rfl rfl (by decide) 0 11 rfl rfl rfl hl.1 rfl (Nat.le_of_ble_eq_true rfl) dL_law_852 ⟨Nat.le_of_ble_eq_true rfl, Nat.le_of_ble_eq_true rfl⟩ (fun r4 u3 H locs hp hP hD hS => ?_)
  subst hp
  refine lv_icmp_eq (tgt := 988) hx hb dL_law_855 (by decide) (fun _ => ?_) (fun c => absurd (by decide) c)
  exact law_end C0 (Nat.le_of_ble_eq_true rfl) (Nat.le_of_ble_eq_true rfl) hS hl
set_option maxHeartbeats 4000000 in
set_option maxRecDepth 100000 in
theorem law_26 (l : Launch) (D : va_G) (cA : Nat → ClassId) (hx0 hm0 : Nat) (ux um : Nat → Nat) {p : Program} {e : Env} {s : State} {m : MethodId} {below : List Frame} {meth : Method} {c : Code} {b : Nat} {xs : Nat → Int32} {H : Heap} {locs : List Loc} {ls : Array Slot} (C0 : lw_At p s m meth c b 4 xs) (hE : ms_EV D cA s) (hP : va_P D vwCl (ms_WX cA hx0 ux ++ ms_WM cA hm0 um) H) (hD : va_D (fun q : Nat => s.heap.size ≤ q) (ms_WX cA hx0 ux ++ ms_WM cA hm0 um)) (hS : va_S (fun q : Nat => s.heap.size ≤ q) s.heap H locs) (hl : lv_has ls 4 [(3, .int 0), (2, .ref hm0), (1, .ref hx0), (0, .ref b)]) : W p l e room_1 s m #[Value.ref b] below meth c H locs 69 1489 (lw_Z below #[Value.ref b] s) (F0 m 860 ls []) := by
  obtain ⟨hx, hb, hr, hml, hown, hts0, hX, hbl, hlocks, hgv⟩ := id C0
  have hb : c.code = cL_law := hb
  have hown : s.vm.findClass RL = some m.cls := hown
  have hts : ∀ w ∈ wsL_law, w.before #[Value.ref b] s = true := fun w h => hts0 w (wsL_law_in w h)
  have hA : ∀ q : Nat, s.heap.size ≤ q → (fun q : Nat => s.heap.size ≤ q) q := fun _ h => h
  have hbA : ¬ (fun q : Nat => s.heap.size ≤ q) b := Nat.not_le.mpr hbl
  refine lv_aload_n hx hb dL_law_860 rfl (lv_at hl 2 rfl) ?_
  refine lv_aload_n hx hb dL_law_861 rfl (lv_at hl 3 rfl) ?_
  refine lv_iload_n hx hb dL_law_862 rfl (lv_at hl 0 rfl) ?_
  refine lv_iconst (v := 1) hx hb dL_law_863 (by decide) ?_
  refine lv_iadd hx hb dL_law_864 ?_
  refine ms_eqi (y := 1) (by decide) ?_
  refine ms_sld hx hb hX hbl hbA hS 1 rfl (by decide) (by decide) dL_law_865 ?_
  refine lv_aload_n hx hb dL_law_866 rfl (lv_at hl 3 rfl) ?_
  refine lv_iload_n hx hb dL_law_867 rfl (lv_at hl 0 rfl) ?_
  refine lv_iconst (v := 2) hx hb dL_law_868 (by decide) ?_
  refine lv_iadd hx hb dL_law_869 ?_
  refine ms_eqi (y := 2) (by decide) ?_
  refine ms_sld hx hb hX hbl hbA hS 2 rfl (by decide) (by decide) dL_law_870 ?_
  refine ms_cVi (qc := (RX10, TX10, 12)) (wc := [(hx0, .inr (10, [.ref ((ux 0)), .ref ((ux 11)), .ref ((ux 20)), .ref ((ux 22)), .ref ((ux 24)), .int 0, .ref ((ux 31)), .ref ((ux 38)), .ref ((ux 41)), .ref ((ux 44)), .ref ((ux 47)), .ref ((ux 48))])), ((ux 11), .inr (2, [.int 0, .int 0, .int 0, .int 0, .int 0, .ref ((ux 12)), .ref ((ux 13)), .ref ((ux 14)), .ref ((ux 15)), .ref ((ux 16)), .ref ((ux 17)), .ref ((ux 18)), .ref ((ux 19))]))]) (wr := ms_WM cA hm0 um) ⟨hx, hb, hml, hown, hts⟩ hE (cX10_write_1 l D cA hx0 ((ux 11)) ((ux 0)) ((ux 20)) ((ux 22)) ((ux 24)) ((ux 31)) ((ux 38)) ((ux 41)) ((ux 44)) ((ux 47)) ((ux 48)) ((ux 12)) ((ux 13)) ((ux 14)) ((ux 15)) ((ux 16)) ((ux 17)) ((ux 18)) ((ux 19)) ((xs 1)) ((xs 2))) (cwV 2 hts gL_law_X10_write rfl rfl rfl (by decide +kernel) ⟨Nat.le_of_ble_eq_true rfl, Nat.le_of_ble_eq_true rfl⟩) hP hD hS hA [0, 12] [50, 51, 52, 53, 54, 55, 56, 57, 58, 59, 60, 61, 62, 63, 64, 65, 66, 67, 68] rfl rfl rfl rfl (by decide) 0 10 rfl rfl rfl hl.1 rfl (Nat.le_of_ble_eq_true rfl) dL_law_871 ⟨Nat.le_of_ble_eq_true rfl, Nat.le_of_ble_eq_true rfl⟩ (fun r2 u1 H locs hp hP hD hS => ?_)
  subst hp
  refine lv_aload_n hx hb dL_law_874 rfl (lv_at hl 1 rfl) ?_
  refine lv_aload_n hx hb dL_law_875 rfl (lv_at hl 3 rfl) ?_
  refine lv_iload_n hx hb dL_law_876 rfl (lv_at hl 0 rfl) ?_
  refine lv_iconst (v := 1) hx hb dL_law_877 (by decide) ?_
  refine lv_iadd hx hb dL_law_878 ?_
  refine ms_eqi (y := 1) (by decide) ?_
  refine ms_sld hx hb hX hbl hbA hS 1 rfl (by decide) (by decide) dL_law_879 ?_
  refine lv_aload_n hx hb dL_law_880 rfl (lv_at hl 3 rfl) ?_
  refine lv_iload_n hx hb dL_law_881 rfl (lv_at hl 0 rfl) ?_
  refine lv_iconst (v := 2) hx hb dL_law_882 (by decide) ?_
  refine lv_iadd hx hb dL_law_883 ?_
  refine ms_eqi (y := 2) (by decide) ?_
  refine ms_sld hx hb hX hbl hbA hS 2 rfl (by decide) (by decide) dL_law_884 ?_
  refine ms_cVi (qc := (RX11, TX11, 32)) (wc := [(hm0, .inr (11, [.ref ((um 16)), .ref ((um 0)), .ref ((um 14)), .ref ((um 1)), .int 0, .ref ((um 2)), .ref ((um 15)), .long 0, .ref ((um 3)), .int 0, .int (-1), .ref ((um 17)), .ref ((um 4)), .int 0, .ref ((um 5)), .int 0, .int 0, .int 0, .int 0, .int 0, .int 0, .int 0, .ref ((um 6)), .ref ((um 7)), .ref ((um 8)), .int 0, .ref ((um 9)), .ref ((um 10)), .ref ((um 11)), .ref ((um 12)), .int 0, .ref ((um 13))])), ((um 16), .inl (cA 0, 68, .inl ms_z))]) (wr := []) ⟨hx, hb, hml, hown, hts⟩ hE (cX11_write_1 l D cA hm0 ((um 16)) ((um 0)) ((um 14)) ((um 1)) ((um 2)) ((um 15)) ((um 3)) ((um 17)) ((um 4)) ((um 5)) ((um 6)) ((um 7)) ((um 8)) ((um 9)) ((um 10)) ((um 11)) ((um 12)) ((um 13)) ((xs 1)) ((xs 2))) (cwV 2 hts gL_law_X11_write rfl rfl rfl (by decide +kernel) ⟨Nat.le_of_ble_eq_true rfl, Nat.le_of_ble_eq_true rfl⟩) hP hD hS hA [0, 17] [] rfl rfl rfl rfl (by decide) 0 11 rfl rfl rfl hl.1 rfl (Nat.le_of_ble_eq_true rfl) dL_law_885 ⟨Nat.le_of_ble_eq_true rfl, Nat.le_of_ble_eq_true rfl⟩ (fun r4 u3 H locs hp hP hD hS => ?_)
  subst hp
  refine lv_icmp_eq (tgt := 988) hx hb dL_law_888 (by decide) (fun _ => ?_) (fun c => absurd (by decide) c)
  exact law_end C0 (Nat.le_of_ble_eq_true rfl) (Nat.le_of_ble_eq_true rfl) hS hl
set_option maxHeartbeats 4000000 in
set_option maxRecDepth 100000 in
theorem law_27 (l : Launch) (D : va_G) (cA : Nat → ClassId) (hx0 hm0 : Nat) (ux um : Nat → Nat) {p : Program} {e : Env} {s : State} {m : MethodId} {below : List Frame} {meth : Method} {c : Code} {b : Nat} {xs : Nat → Int32} {H : Heap} {locs : List Loc} {ls : Array Slot} (C0 : lw_At p s m meth c b 4 xs) (hE : ms_EV D cA s) (hP : va_P D vwCl (ms_WX cA hx0 ux ++ ms_WM cA hm0 um) H) (hD : va_D (fun q : Nat => s.heap.size ≤ q) (ms_WX cA hx0 ux ++ ms_WM cA hm0 um)) (hS : va_S (fun q : Nat => s.heap.size ≤ q) s.heap H locs) (hl : lv_has ls 4 [(3, .int 0), (2, .ref hm0), (1, .ref hx0), (0, .ref b)]) : W p l e room_1 s m #[Value.ref b] below meth c H locs 69 1489 (lw_Z below #[Value.ref b] s) (F0 m 893 ls []) := by
  obtain ⟨hx, hb, hr, hml, hown, hts0, hX, hbl, hlocks, hgv⟩ := id C0
  have hb : c.code = cL_law := hb
  have hown : s.vm.findClass RL = some m.cls := hown
  have hts : ∀ w ∈ wsL_law, w.before #[Value.ref b] s = true := fun w h => hts0 w (wsL_law_in w h)
  have hA : ∀ q : Nat, s.heap.size ≤ q → (fun q : Nat => s.heap.size ≤ q) q := fun _ h => h
  have hbA : ¬ (fun q : Nat => s.heap.size ≤ q) b := Nat.not_le.mpr hbl
  refine lv_aload_n hx hb dL_law_893 rfl (lv_at hl 2 rfl) ?_
  refine ms_cVi (qc := (RX10, TX10, 12)) (wc := [(hx0, .inr (10, [.ref ((ux 0)), .ref ((ux 11)), .ref ((ux 20)), .ref ((ux 22)), .ref ((ux 24)), .int 0, .ref ((ux 31)), .ref ((ux 38)), .ref ((ux 41)), .ref ((ux 44)), .ref ((ux 47)), .ref ((ux 48))])), ((ux 31), .inr (5, [.ref ((ux 32)), .ref ((ux 33)), .ref ((ux 34)), .ref ((ux 35)), .int 0, .ref ((ux 36)), .ref ((ux 37)), .int 0])), ((ux 32), .inl (cA 0, 9, .inl ms_z))]) (wr := ms_WM cA hm0 um) ⟨hx, hb, hml, hown, hts⟩ hE (cX10_tear_1 l D cA hx0 ((ux 31)) ((ux 32)) ((ux 0)) ((ux 11)) ((ux 20)) ((ux 22)) ((ux 24)) ((ux 38)) ((ux 41)) ((ux 44)) ((ux 47)) ((ux 48)) ((ux 33)) ((ux 34)) ((ux 35)) ((ux 36)) ((ux 37))) (cwV 0 hts gL_law_X10_tear rfl rfl rfl (by decide +kernel) ⟨Nat.le_of_ble_eq_true rfl, Nat.le_of_ble_eq_true rfl⟩) hP hD hS hA [0, 32, 33] [50, 51, 52, 53, 54, 55, 56, 57, 58, 59, 60, 61, 62, 63, 64, 65, 66, 67, 68] rfl rfl rfl rfl (by decide) 0 10 rfl rfl rfl hl.1 rfl (Nat.le_of_ble_eq_true rfl) dL_law_894 ⟨Nat.le_of_ble_eq_true rfl, Nat.le_of_ble_eq_true rfl⟩ (fun r2 u1 H locs hp hP hD hS => ?_)
  subst hp
  refine lv_aload_n hx hb dL_law_897 rfl (lv_at hl 1 rfl) ?_
  refine ms_cVi (qc := (RX11, TX11, 32)) (wc := [(hm0, .inr (11, [.ref ((um 16)), .ref ((um 0)), .ref ((um 14)), .ref ((um 1)), .int 0, .ref ((um 2)), .ref ((um 15)), .long 0, .ref ((um 3)), .int 0, .int (-1), .ref ((um 17)), .ref ((um 4)), .int 0, .ref ((um 5)), .int 0, .int 0, .int 0, .int 0, .int 0, .int 0, .int 0, .ref ((um 6)), .ref ((um 7)), .ref ((um 8)), .int 0, .ref ((um 9)), .ref ((um 10)), .ref ((um 11)), .ref ((um 12)), .int 0, .ref ((um 13))])), ((um 17), .inl (cA 0, 9, .inl ms_z))]) (wr := []) ⟨hx, hb, hml, hown, hts⟩ hE (cX11_tear_1 l D cA hm0 ((um 17)) ((um 16)) ((um 0)) ((um 14)) ((um 1)) ((um 2)) ((um 15)) ((um 3)) ((um 4)) ((um 5)) ((um 6)) ((um 7)) ((um 8)) ((um 9)) ((um 10)) ((um 11)) ((um 12)) ((um 13))) (cwV 0 hts gL_law_X11_tear rfl rfl rfl (by decide +kernel) ⟨Nat.le_of_ble_eq_true rfl, Nat.le_of_ble_eq_true rfl⟩) hP hD hS hA [0, 18] [] rfl rfl rfl rfl (by decide) 0 11 rfl rfl rfl hl.1 rfl (Nat.le_of_ble_eq_true rfl) dL_law_898 ⟨Nat.le_of_ble_eq_true rfl, Nat.le_of_ble_eq_true rfl⟩ (fun r4 u3 H locs hp hP hD hS => ?_)
  subst hp
  refine lv_icmp_eq (tgt := 988) hx hb dL_law_901 (by decide) (fun _ => ?_) (fun c => absurd (by decide) c)
  exact law_end C0 (Nat.le_of_ble_eq_true rfl) (Nat.le_of_ble_eq_true rfl) hS hl
set_option maxHeartbeats 4000000 in
set_option maxRecDepth 100000 in
theorem law_28 (l : Launch) (D : va_G) (cA : Nat → ClassId) (hx0 hm0 : Nat) (ux um : Nat → Nat) {p : Program} {e : Env} {s : State} {m : MethodId} {below : List Frame} {meth : Method} {c : Code} {b : Nat} {xs : Nat → Int32} {H : Heap} {locs : List Loc} {ls : Array Slot} (C0 : lw_At p s m meth c b 4 xs) (hE : ms_EV D cA s) (hP : va_P D vwCl (ms_WX cA hx0 ux ++ ms_WM cA hm0 um) H) (hD : va_D (fun q : Nat => s.heap.size ≤ q) (ms_WX cA hx0 ux ++ ms_WM cA hm0 um)) (hS : va_S (fun q : Nat => s.heap.size ≤ q) s.heap H locs) (hl : lv_has ls 4 [(3, .int 0), (2, .ref hm0), (1, .ref hx0), (0, .ref b)]) : W p l e room_1 s m #[Value.ref b] below meth c H locs 69 1489 (lw_Z below #[Value.ref b] s) (F0 m 906 ls []) := by
  obtain ⟨hx, hb, hr, hml, hown, hts0, hX, hbl, hlocks, hgv⟩ := id C0
  have hb : c.code = cL_law := hb
  have hown : s.vm.findClass RL = some m.cls := hown
  have hts : ∀ w ∈ wsL_law, w.before #[Value.ref b] s = true := fun w h => hts0 w (wsL_law_in w h)
  have hA : ∀ q : Nat, s.heap.size ≤ q → (fun q : Nat => s.heap.size ≤ q) q := fun _ h => h
  have hbA : ¬ (fun q : Nat => s.heap.size ≤ q) b := Nat.not_le.mpr hbl
  refine lv_aload_n hx hb dL_law_906 rfl (lv_at hl 2 rfl) ?_
  refine ms_cVi (qc := (RX10, TX10, 12)) (wc := [(hx0, .inr (10, [.ref ((ux 0)), .ref ((ux 11)), .ref ((ux 20)), .ref ((ux 22)), .ref ((ux 24)), .int 0, .ref ((ux 31)), .ref ((ux 38)), .ref ((ux 41)), .ref ((ux 44)), .ref ((ux 47)), .ref ((ux 48))])), ((ux 20), .inr (8, [.ref ((ux 21)), .int 0, .int 0, .int 0, .int (-1), .int (-1)])), ((ux 31), .inr (5, [.ref ((ux 32)), .ref ((ux 33)), .ref ((ux 34)), .ref ((ux 35)), .int 0, .ref ((ux 36)), .ref ((ux 37)), .int 0]))]) (wr := ms_WM cA hm0 um) ⟨hx, hb, hml, hown, hts⟩ hE (cX10_judge_1 l D cA hx0 ((ux 20)) ((ux 31)) ((ux 0)) ((ux 11)) ((ux 22)) ((ux 24)) ((ux 38)) ((ux 41)) ((ux 44)) ((ux 47)) ((ux 48)) ((ux 21)) ((ux 32)) ((ux 33)) ((ux 34)) ((ux 35)) ((ux 36)) ((ux 37))) (cwV 0 hts gL_law_X10_judge rfl rfl rfl (by decide +kernel) ⟨Nat.le_of_ble_eq_true rfl, Nat.le_of_ble_eq_true rfl⟩) hP hD hS hA [0, 21, 32] [50, 51, 52, 53, 54, 55, 56, 57, 58, 59, 60, 61, 62, 63, 64, 65, 66, 67, 68] rfl rfl rfl rfl (by decide) 0 10 rfl rfl rfl hl.1 rfl (Nat.le_of_ble_eq_true rfl) dL_law_907 ⟨Nat.le_of_ble_eq_true rfl, Nat.le_of_ble_eq_true rfl⟩ (fun r2 u1 H locs hp hP hD hS => ?_)
  subst hp
  refine lv_aload_n hx hb dL_law_910 rfl (lv_at hl 1 rfl) ?_
  refine ms_cVi (qc := (RX11, TX11, 32)) (wc := [(hm0, .inr (11, [.ref ((um 16)), .ref ((um 0)), .ref ((um 14)), .ref ((um 1)), .int 0, .ref ((um 2)), .ref ((um 15)), .long 0, .ref ((um 3)), .int 0, .int (-1), .ref ((um 17)), .ref ((um 4)), .int 0, .ref ((um 5)), .int 0, .int 0, .int 0, .int 0, .int 0, .int 0, .int 0, .ref ((um 6)), .ref ((um 7)), .ref ((um 8)), .int 0, .ref ((um 9)), .ref ((um 10)), .ref ((um 11)), .ref ((um 12)), .int 0, .ref ((um 13))]))]) (wr := []) ⟨hx, hb, hml, hown, hts⟩ hE (cX11_judge_1 l D cA hm0 ((um 16)) ((um 0)) ((um 14)) ((um 1)) ((um 2)) ((um 15)) ((um 3)) ((um 17)) ((um 4)) ((um 5)) ((um 6)) ((um 7)) ((um 8)) ((um 9)) ((um 10)) ((um 11)) ((um 12)) ((um 13))) (cwV 0 hts gL_law_X11_judge rfl rfl rfl (by decide +kernel) ⟨Nat.le_of_ble_eq_true rfl, Nat.le_of_ble_eq_true rfl⟩) hP hD hS hA [0] [] rfl rfl rfl rfl (by decide) 0 11 rfl rfl rfl hl.1 rfl (Nat.le_of_ble_eq_true rfl) dL_law_911 ⟨Nat.le_of_ble_eq_true rfl, Nat.le_of_ble_eq_true rfl⟩ (fun r4 u3 H locs hp hP hD hS => ?_)
  subst hp
  refine lv_icmp_eq (tgt := 988) hx hb dL_law_914 (by decide) (fun _ => ?_) (fun c => absurd (by decide) c)
  exact law_end C0 (Nat.le_of_ble_eq_true rfl) (Nat.le_of_ble_eq_true rfl) hS hl
set_option maxHeartbeats 4000000 in
set_option maxRecDepth 100000 in
theorem law_29 (l : Launch) (D : va_G) (cA : Nat → ClassId) (hx0 hm0 : Nat) (ux um : Nat → Nat) {p : Program} {e : Env} {s : State} {m : MethodId} {below : List Frame} {meth : Method} {c : Code} {b : Nat} {xs : Nat → Int32} {H : Heap} {locs : List Loc} {ls : Array Slot} (C0 : lw_At p s m meth c b 4 xs) (hE : ms_EV D cA s) (hP : va_P D vwCl (ms_WX cA hx0 ux ++ ms_WM cA hm0 um) H) (hD : va_D (fun q : Nat => s.heap.size ≤ q) (ms_WX cA hx0 ux ++ ms_WM cA hm0 um)) (hS : va_S (fun q : Nat => s.heap.size ≤ q) s.heap H locs) (hl : lv_has ls 4 [(3, .int 0), (2, .ref hm0), (1, .ref hx0), (0, .ref b)]) : W p l e room_1 s m #[Value.ref b] below meth c H locs 69 1489 (lw_Z below #[Value.ref b] s) (F0 m 919 ls []) := by
  obtain ⟨hx, hb, hr, hml, hown, hts0, hX, hbl, hlocks, hgv⟩ := id C0
  have hb : c.code = cL_law := hb
  have hown : s.vm.findClass RL = some m.cls := hown
  have hts : ∀ w ∈ wsL_law, w.before #[Value.ref b] s = true := fun w h => hts0 w (wsL_law_in w h)
  have hA : ∀ q : Nat, s.heap.size ≤ q → (fun q : Nat => s.heap.size ≤ q) q := fun _ h => h
  have hbA : ¬ (fun q : Nat => s.heap.size ≤ q) b := Nat.not_le.mpr hbl
  by_cases g1_1 : (xs 1).toInt ≤ -1
  · skip
    refine lv_aload_n hx hb dL_law_919 rfl (lv_at hl 2 rfl) ?_
    refine lv_aload_n hx hb dL_law_920 rfl (lv_at hl 3 rfl) ?_
    refine lv_iload_n hx hb dL_law_921 rfl (lv_at hl 0 rfl) ?_
    refine lv_iconst (v := 1) hx hb dL_law_922 (by decide) ?_
    refine lv_iadd hx hb dL_law_923 ?_
    refine ms_eqi (y := 1) (by decide) ?_
    refine ms_sld hx hb hX hbl hbA hS 1 rfl (by decide) (by decide) dL_law_924 ?_
    refine ms_cVi (qc := (RX10, TX10, 12)) (wc := [(hx0, .inr (10, [.ref ((ux 0)), .ref ((ux 11)), .ref ((ux 20)), .ref ((ux 22)), .ref ((ux 24)), .int 0, .ref ((ux 31)), .ref ((ux 38)), .ref ((ux 41)), .ref ((ux 44)), .ref ((ux 47)), .ref ((ux 48))]))]) (wr := ms_WM cA hm0 um) ⟨hx, hb, hml, hown, hts⟩ hE (cX10_seed_1 l D cA hx0 ((ux 0)) ((ux 11)) ((ux 20)) ((ux 22)) ((ux 24)) ((ux 31)) ((ux 38)) ((ux 41)) ((ux 44)) ((ux 47)) ((ux 48)) ((xs 1)) (by omega)) (cwV 1 hts gL_law_X10_seed rfl rfl rfl (by decide +kernel) ⟨Nat.le_of_ble_eq_true rfl, Nat.le_of_ble_eq_true rfl⟩) hP hD hS hA [0] [50, 51, 52, 53, 54, 55, 56, 57, 58, 59, 60, 61, 62, 63, 64, 65, 66, 67, 68] rfl rfl rfl rfl (by decide) 0 10 rfl rfl rfl hl.1 rfl (Nat.le_of_ble_eq_true rfl) dL_law_925 ⟨Nat.le_of_ble_eq_true rfl, Nat.le_of_ble_eq_true rfl⟩ (fun r3 u2 H locs hp hP hD hS => ?_)
    subst hp
    refine lv_aload_n hx hb dL_law_928 rfl (lv_at hl 1 rfl) ?_
    refine lv_aload_n hx hb dL_law_929 rfl (lv_at hl 3 rfl) ?_
    refine lv_iload_n hx hb dL_law_930 rfl (lv_at hl 0 rfl) ?_
    refine lv_iconst (v := 1) hx hb dL_law_931 (by decide) ?_
    refine lv_iadd hx hb dL_law_932 ?_
    refine ms_eqi (y := 1) (by decide) ?_
    refine ms_sld hx hb hX hbl hbA hS 1 rfl (by decide) (by decide) dL_law_933 ?_
    refine ms_cVi (qc := (RX11, TX11, 32)) (wc := [(hm0, .inr (11, [.ref ((um 16)), .ref ((um 0)), .ref ((um 14)), .ref ((um 1)), .int 0, .ref ((um 2)), .ref ((um 15)), .long 0, .ref ((um 3)), .int 0, .int (-1), .ref ((um 17)), .ref ((um 4)), .int 0, .ref ((um 5)), .int 0, .int 0, .int 0, .int 0, .int 0, .int 0, .int 0, .ref ((um 6)), .ref ((um 7)), .ref ((um 8)), .int 0, .ref ((um 9)), .ref ((um 10)), .ref ((um 11)), .ref ((um 12)), .int 0, .ref ((um 13))]))]) (wr := []) ⟨hx, hb, hml, hown, hts⟩ hE (cX11_seed_1 l D cA hm0 ((um 16)) ((um 0)) ((um 14)) ((um 1)) ((um 2)) ((um 15)) ((um 3)) ((um 17)) ((um 4)) ((um 5)) ((um 6)) ((um 7)) ((um 8)) ((um 9)) ((um 10)) ((um 11)) ((um 12)) ((um 13)) ((xs 1)) (by omega)) (cwV 1 hts gL_law_X11_seed rfl rfl rfl (by decide +kernel) ⟨Nat.le_of_ble_eq_true rfl, Nat.le_of_ble_eq_true rfl⟩) hP hD hS hA [0] [] rfl rfl rfl rfl (by decide) 0 11 rfl rfl rfl hl.1 rfl (Nat.le_of_ble_eq_true rfl) dL_law_934 ⟨Nat.le_of_ble_eq_true rfl, Nat.le_of_ble_eq_true rfl⟩ (fun r5 u4 H locs hp hP hD hS => ?_)
    subst hp
    refine lv_icmp_eq (tgt := 988) hx hb dL_law_937 (by decide) (fun _ => ?_) (fun c => absurd (by decide) c)
    exact law_end C0 (Nat.le_of_ble_eq_true rfl) (Nat.le_of_ble_eq_true rfl) hS hl
  · skip
    refine lv_aload_n hx hb dL_law_919 rfl (lv_at hl 2 rfl) ?_
    refine lv_aload_n hx hb dL_law_920 rfl (lv_at hl 3 rfl) ?_
    refine lv_iload_n hx hb dL_law_921 rfl (lv_at hl 0 rfl) ?_
    refine lv_iconst (v := 1) hx hb dL_law_922 (by decide) ?_
    refine lv_iadd hx hb dL_law_923 ?_
    refine ms_eqi (y := 1) (by decide) ?_
    refine ms_sld hx hb hX hbl hbA hS 1 rfl (by decide) (by decide) dL_law_924 ?_
    refine ms_cVi (qc := (RX10, TX10, 12)) (wc := [(hx0, .inr (10, [.ref ((ux 0)), .ref ((ux 11)), .ref ((ux 20)), .ref ((ux 22)), .ref ((ux 24)), .int 0, .ref ((ux 31)), .ref ((ux 38)), .ref ((ux 41)), .ref ((ux 44)), .ref ((ux 47)), .ref ((ux 48))]))]) (wr := ms_WM cA hm0 um) ⟨hx, hb, hml, hown, hts⟩ hE (cX10_seed_2 l D cA hx0 ((ux 0)) ((ux 11)) ((ux 20)) ((ux 22)) ((ux 24)) ((ux 31)) ((ux 38)) ((ux 41)) ((ux 44)) ((ux 47)) ((ux 48)) ((xs 1)) (by omega)) (cwV 1 hts gL_law_X10_seed rfl rfl rfl (by decide +kernel) ⟨Nat.le_of_ble_eq_true rfl, Nat.le_of_ble_eq_true rfl⟩) hP hD hS hA [0] [50, 51, 52, 53, 54, 55, 56, 57, 58, 59, 60, 61, 62, 63, 64, 65, 66, 67, 68] rfl rfl rfl rfl (by decide) 0 10 rfl rfl rfl hl.1 rfl (Nat.le_of_ble_eq_true rfl) dL_law_925 ⟨Nat.le_of_ble_eq_true rfl, Nat.le_of_ble_eq_true rfl⟩ (fun r7 u6 H locs hp hP hD hS => ?_)
    subst hp
    refine lv_aload_n hx hb dL_law_928 rfl (lv_at hl 1 rfl) ?_
    refine lv_aload_n hx hb dL_law_929 rfl (lv_at hl 3 rfl) ?_
    refine lv_iload_n hx hb dL_law_930 rfl (lv_at hl 0 rfl) ?_
    refine lv_iconst (v := 1) hx hb dL_law_931 (by decide) ?_
    refine lv_iadd hx hb dL_law_932 ?_
    refine ms_eqi (y := 1) (by decide) ?_
    refine ms_sld hx hb hX hbl hbA hS 1 rfl (by decide) (by decide) dL_law_933 ?_
    refine ms_cVi (qc := (RX11, TX11, 32)) (wc := [(hm0, .inr (11, [.ref ((um 16)), .ref ((um 0)), .ref ((um 14)), .ref ((um 1)), .int 0, .ref ((um 2)), .ref ((um 15)), .long 0, .ref ((um 3)), .int 0, .int (-1), .ref ((um 17)), .ref ((um 4)), .int 0, .ref ((um 5)), .int 0, .int 0, .int 0, .int 0, .int 0, .int 0, .int 0, .ref ((um 6)), .ref ((um 7)), .ref ((um 8)), .int 0, .ref ((um 9)), .ref ((um 10)), .ref ((um 11)), .ref ((um 12)), .int 0, .ref ((um 13))]))]) (wr := []) ⟨hx, hb, hml, hown, hts⟩ hE (cX11_seed_2 l D cA hm0 ((um 16)) ((um 0)) ((um 14)) ((um 1)) ((um 2)) ((um 15)) ((um 3)) ((um 17)) ((um 4)) ((um 5)) ((um 6)) ((um 7)) ((um 8)) ((um 9)) ((um 10)) ((um 11)) ((um 12)) ((um 13)) ((xs 1)) (by omega)) (cwV 1 hts gL_law_X11_seed rfl rfl rfl (by decide +kernel) ⟨Nat.le_of_ble_eq_true rfl, Nat.le_of_ble_eq_true rfl⟩) hP hD hS hA [0] [] rfl rfl rfl rfl (by decide) 0 11 rfl rfl rfl hl.1 rfl (Nat.le_of_ble_eq_true rfl) dL_law_934 ⟨Nat.le_of_ble_eq_true rfl, Nat.le_of_ble_eq_true rfl⟩ (fun r9 u8 H locs hp hP hD hS => ?_)
    subst hp
    refine lv_icmp_eq (tgt := 988) hx hb dL_law_937 (by decide) (fun _ => ?_) (fun c => absurd (by decide) c)
    exact law_end C0 (Nat.le_of_ble_eq_true rfl) (Nat.le_of_ble_eq_true rfl) hS hl
set_option maxHeartbeats 4000000 in
set_option maxRecDepth 100000 in
theorem law_30 (l : Launch) (D : va_G) (cA : Nat → ClassId) (hx0 hm0 : Nat) (ux um : Nat → Nat) {p : Program} {e : Env} {s : State} {m : MethodId} {below : List Frame} {meth : Method} {c : Code} {b : Nat} {xs : Nat → Int32} {H : Heap} {locs : List Loc} {ls : Array Slot} (C0 : lw_At p s m meth c b 4 xs) (hE : ms_EV D cA s) (hP : va_P D vwCl (ms_WX cA hx0 ux ++ ms_WM cA hm0 um) H) (hD : va_D (fun q : Nat => s.heap.size ≤ q) (ms_WX cA hx0 ux ++ ms_WM cA hm0 um)) (hS : va_S (fun q : Nat => s.heap.size ≤ q) s.heap H locs) (hl : lv_has ls 4 [(3, .int 0), (2, .ref hm0), (1, .ref hx0), (0, .ref b)]) : W p l e room_1 s m #[Value.ref b] below meth c H locs 69 1489 (lw_Z below #[Value.ref b] s) (F0 m 942 ls []) := by
  obtain ⟨hx, hb, hr, hml, hown, hts0, hX, hbl, hlocks, hgv⟩ := id C0
  have hb : c.code = cL_law := hb
  have hown : s.vm.findClass RL = some m.cls := hown
  have hts : ∀ w ∈ wsL_law, w.before #[Value.ref b] s = true := fun w h => hts0 w (wsL_law_in w h)
  have hA : ∀ q : Nat, s.heap.size ≤ q → (fun q : Nat => s.heap.size ≤ q) q := fun _ h => h
  have hbA : ¬ (fun q : Nat => s.heap.size ≤ q) b := Nat.not_le.mpr hbl
  by_cases g1_1 : (xs 1).toInt ≤ -1
  · skip
    refine lv_aload_n hx hb dL_law_942 rfl (lv_at hl 2 rfl) ?_
    refine lv_aload_n hx hb dL_law_943 rfl (lv_at hl 3 rfl) ?_
    refine lv_iload_n hx hb dL_law_944 rfl (lv_at hl 0 rfl) ?_
    refine lv_iconst (v := 1) hx hb dL_law_945 (by decide) ?_
    refine lv_iadd hx hb dL_law_946 ?_
    refine ms_eqi (y := 1) (by decide) ?_
    refine ms_sld hx hb hX hbl hbA hS 1 rfl (by decide) (by decide) dL_law_947 ?_
    refine ms_cVi (qc := (RX10, TX10, 12)) (wc := [(hx0, .inr (10, [.ref ((ux 0)), .ref ((ux 11)), .ref ((ux 20)), .ref ((ux 22)), .ref ((ux 24)), .int 0, .ref ((ux 31)), .ref ((ux 38)), .ref ((ux 41)), .ref ((ux 44)), .ref ((ux 47)), .ref ((ux 48))]))]) (wr := ms_WM cA hm0 um) ⟨hx, hb, hml, hown, hts⟩ hE (cX10_keep_1 l D cA hx0 ((ux 0)) ((ux 11)) ((ux 20)) ((ux 22)) ((ux 24)) ((ux 31)) ((ux 38)) ((ux 41)) ((ux 44)) ((ux 47)) ((ux 48)) ((xs 1)) (by omega)) (cwV 1 hts gL_law_X10_keep rfl rfl rfl (by decide +kernel) ⟨Nat.le_of_ble_eq_true rfl, Nat.le_of_ble_eq_true rfl⟩) hP hD hS hA [0] [50, 51, 52, 53, 54, 55, 56, 57, 58, 59, 60, 61, 62, 63, 64, 65, 66, 67, 68] rfl rfl rfl rfl (by decide) 0 10 rfl rfl rfl hl.1 rfl (Nat.le_of_ble_eq_true rfl) dL_law_948 ⟨Nat.le_of_ble_eq_true rfl, Nat.le_of_ble_eq_true rfl⟩ (fun r3 u2 H locs hp hP hD hS => ?_)
    subst hp
    refine lv_aload_n hx hb dL_law_951 rfl (lv_at hl 1 rfl) ?_
    refine lv_aload_n hx hb dL_law_952 rfl (lv_at hl 3 rfl) ?_
    refine lv_iload_n hx hb dL_law_953 rfl (lv_at hl 0 rfl) ?_
    refine lv_iconst (v := 1) hx hb dL_law_954 (by decide) ?_
    refine lv_iadd hx hb dL_law_955 ?_
    refine ms_eqi (y := 1) (by decide) ?_
    refine ms_sld hx hb hX hbl hbA hS 1 rfl (by decide) (by decide) dL_law_956 ?_
    refine ms_cVi (qc := (RX11, TX11, 32)) (wc := [(hm0, .inr (11, [.ref ((um 16)), .ref ((um 0)), .ref ((um 14)), .ref ((um 1)), .int 0, .ref ((um 2)), .ref ((um 15)), .long 0, .ref ((um 3)), .int 0, .int (-1), .ref ((um 17)), .ref ((um 4)), .int 0, .ref ((um 5)), .int 0, .int 0, .int 0, .int 0, .int 0, .int 0, .int 0, .ref ((um 6)), .ref ((um 7)), .ref ((um 8)), .int 0, .ref ((um 9)), .ref ((um 10)), .ref ((um 11)), .ref ((um 12)), .int 0, .ref ((um 13))]))]) (wr := []) ⟨hx, hb, hml, hown, hts⟩ hE (cX11_keep_1 l D cA hm0 ((um 16)) ((um 0)) ((um 14)) ((um 1)) ((um 2)) ((um 15)) ((um 3)) ((um 17)) ((um 4)) ((um 5)) ((um 6)) ((um 7)) ((um 8)) ((um 9)) ((um 10)) ((um 11)) ((um 12)) ((um 13)) ((xs 1)) (by omega)) (cwV 1 hts gL_law_X11_keep rfl rfl rfl (by decide +kernel) ⟨Nat.le_of_ble_eq_true rfl, Nat.le_of_ble_eq_true rfl⟩) hP hD hS hA [0] [] rfl rfl rfl rfl (by decide) 0 11 rfl rfl rfl hl.1 rfl (Nat.le_of_ble_eq_true rfl) dL_law_957 ⟨Nat.le_of_ble_eq_true rfl, Nat.le_of_ble_eq_true rfl⟩ (fun r5 u4 H locs hp hP hD hS => ?_)
    subst hp
    refine lv_icmp_eq (tgt := 988) hx hb dL_law_960 (by decide) (fun _ => ?_) (fun c => absurd (by decide) c)
    exact law_end C0 (Nat.le_of_ble_eq_true rfl) (Nat.le_of_ble_eq_true rfl) hS hl
  · skip
    by_cases g1_6 : (xs 1).toInt ≤ 0
    · skip
      have e1 : xs 1 = 0 := Int32.toInt_inj.mp (by have z : (0 : Int32).toInt = 0 := (by decide); omega)
      refine lv_aload_n hx hb dL_law_942 rfl (lv_at hl 2 rfl) ?_
      refine lv_aload_n hx hb dL_law_943 rfl (lv_at hl 3 rfl) ?_
      refine lv_iload_n hx hb dL_law_944 rfl (lv_at hl 0 rfl) ?_
      refine lv_iconst (v := 1) hx hb dL_law_945 (by decide) ?_
      refine lv_iadd hx hb dL_law_946 ?_
      refine ms_eqi (y := 1) (by decide) ?_
      refine ms_sld hx hb hX hbl hbA hS 1 rfl (by decide) (by decide) dL_law_947 ?_
      refine ms_eqi (y := 0) e1 ?_
      refine ms_cVi (qc := (RX10, TX10, 12)) (wc := [(hx0, .inr (10, [.ref ((ux 0)), .ref ((ux 11)), .ref ((ux 20)), .ref ((ux 22)), .ref ((ux 24)), .int 0, .ref ((ux 31)), .ref ((ux 38)), .ref ((ux 41)), .ref ((ux 44)), .ref ((ux 47)), .ref ((ux 48))])), ((ux 24), .inl (cA 2, 2, .inr (.inr (.inr (.inr (va_up (va_up (fun _ => none) 0 (some ((ux 25)))) 1 (some ((ux 28))))))))), ((ux 25), .inr (1, [.ref ((ux 26)), .int 0, .int 0])), ((ux 26), .inr (8, [.ref ((ux 27)), .int 0, .int 0, .int 0, .int (-1), .int (-1)])), ((ux 20), .inr (8, [.ref ((ux 21)), .int 0, .int 0, .int 0, .int (-1), .int (-1)])), ((ux 21), .inl (cA 0, 9, .inl ms_z)), ((ux 27), .inl (cA 0, 9, .inl ms_z)), ((ux 22), .inr (0, [.ref ((ux 23)), .int 0, .int 0]))]) (wr := ms_WM cA hm0 um) ⟨hx, hb, hml, hown, hts⟩ hE (cX10_keep_2 l D cA hx0 ((ux 24)) ((ux 25)) ((ux 26)) ((ux 20)) ((ux 21)) ((ux 27)) ((ux 22)) ((ux 0)) ((ux 11)) ((ux 31)) ((ux 38)) ((ux 41)) ((ux 44)) ((ux 47)) ((ux 48)) ((ux 28)) ((ux 23))) (cwV 1 hts gL_law_X10_keep rfl rfl rfl (by decide +kernel) ⟨Nat.le_of_ble_eq_true rfl, Nat.le_of_ble_eq_true rfl⟩) hP hD hS hA [0, 25, 26, 27, 21, 22, 28, 23] [50, 51, 52, 53, 54, 55, 56, 57, 58, 59, 60, 61, 62, 63, 64, 65, 66, 67, 68] rfl rfl rfl rfl (by decide) 0 10 rfl rfl rfl hl.1 rfl (Nat.le_of_ble_eq_true rfl) dL_law_948 ⟨Nat.le_of_ble_eq_true rfl, Nat.le_of_ble_eq_true rfl⟩ (fun r8 u7 H locs hp hP hD hS => ?_)
      subst hp
      refine lv_aload_n hx hb dL_law_951 rfl (lv_at hl 1 rfl) ?_
      refine lv_aload_n hx hb dL_law_952 rfl (lv_at hl 3 rfl) ?_
      refine lv_iload_n hx hb dL_law_953 rfl (lv_at hl 0 rfl) ?_
      refine lv_iconst (v := 1) hx hb dL_law_954 (by decide) ?_
      refine lv_iadd hx hb dL_law_955 ?_
      refine ms_eqi (y := 1) (by decide) ?_
      refine ms_sld hx hb hX hbl hbA hS 1 rfl (by decide) (by decide) dL_law_956 ?_
      refine ms_eqi (y := 0) e1 ?_
      refine ms_cVi (qc := (RX11, TX11, 32)) (wc := [(hm0, .inr (11, [.ref ((um 16)), .ref ((um 0)), .ref ((um 14)), .ref ((um 1)), .int 0, .ref ((um 2)), .ref ((um 15)), .long 0, .ref ((um 3)), .int 0, .int (-1), .ref ((um 17)), .ref ((um 4)), .int 0, .ref ((um 5)), .int 0, .int 0, .int 0, .int 0, .int 0, .int 0, .int 0, .ref ((um 6)), .ref ((um 7)), .ref ((um 8)), .int 0, .ref ((um 9)), .ref ((um 10)), .ref ((um 11)), .ref ((um 12)), .int 0, .ref ((um 13))])), ((um 14), .inl (cA 0, 14, .inl ms_n)), ((um 2), .inl (cA 0, 30, .inl ms_z)), ((um 15), .inl (cA 1, 2, .inl ms_z))]) (wr := []) ⟨hx, hb, hml, hown, hts⟩ hE (cX11_keep_2 l D cA hm0 ((um 14)) ((um 2)) ((um 15)) ((um 16)) ((um 0)) ((um 1)) ((um 3)) ((um 17)) ((um 4)) ((um 5)) ((um 6)) ((um 7)) ((um 8)) ((um 9)) ((um 10)) ((um 11)) ((um 12)) ((um 13))) (cwV 1 hts gL_law_X11_keep rfl rfl rfl (by decide +kernel) ⟨Nat.le_of_ble_eq_true rfl, Nat.le_of_ble_eq_true rfl⟩) hP hD hS hA [0, 15, 3, 16] [] rfl rfl rfl rfl (by decide) 0 11 rfl rfl rfl hl.1 rfl (Nat.le_of_ble_eq_true rfl) dL_law_957 ⟨Nat.le_of_ble_eq_true rfl, Nat.le_of_ble_eq_true rfl⟩ (fun r10 u9 H locs hp hP hD hS => ?_)
      subst hp
      refine lv_icmp_eq (tgt := 988) hx hb dL_law_960 (by decide) (fun _ => ?_) (fun c => absurd (by decide) c)
      exact law_end C0 (Nat.le_of_ble_eq_true rfl) (Nat.le_of_ble_eq_true rfl) hS hl
    · skip
      by_cases g1_11 : (xs 1).toInt ≤ 1
      · skip
        have e1 : xs 1 = 1 := Int32.toInt_inj.mp (by have z : (1 : Int32).toInt = 1 := (by decide); omega)
        refine lv_aload_n hx hb dL_law_942 rfl (lv_at hl 2 rfl) ?_
        refine lv_aload_n hx hb dL_law_943 rfl (lv_at hl 3 rfl) ?_
        refine lv_iload_n hx hb dL_law_944 rfl (lv_at hl 0 rfl) ?_
        refine lv_iconst (v := 1) hx hb dL_law_945 (by decide) ?_
        refine lv_iadd hx hb dL_law_946 ?_
        refine ms_eqi (y := 1) (by decide) ?_
        refine ms_sld hx hb hX hbl hbA hS 1 rfl (by decide) (by decide) dL_law_947 ?_
        refine ms_eqi (y := 1) e1 ?_
        refine ms_cVi (qc := (RX10, TX10, 12)) (wc := [(hx0, .inr (10, [.ref ((ux 0)), .ref ((ux 11)), .ref ((ux 20)), .ref ((ux 22)), .ref ((ux 24)), .int 0, .ref ((ux 31)), .ref ((ux 38)), .ref ((ux 41)), .ref ((ux 44)), .ref ((ux 47)), .ref ((ux 48))])), ((ux 24), .inl (cA 2, 2, .inr (.inr (.inr (.inr (va_up (va_up (fun _ => none) 0 (some ((ux 25)))) 1 (some ((ux 28))))))))), ((ux 28), .inr (1, [.ref ((ux 29)), .int 0, .int 0])), ((ux 29), .inr (8, [.ref ((ux 30)), .int 0, .int 0, .int 0, .int (-1), .int (-1)])), ((ux 20), .inr (8, [.ref ((ux 21)), .int 0, .int 0, .int 0, .int (-1), .int (-1)])), ((ux 21), .inl (cA 0, 9, .inl ms_z)), ((ux 30), .inl (cA 0, 9, .inl ms_z)), ((ux 22), .inr (0, [.ref ((ux 23)), .int 0, .int 0]))]) (wr := ms_WM cA hm0 um) ⟨hx, hb, hml, hown, hts⟩ hE (cX10_keep_3 l D cA hx0 ((ux 24)) ((ux 28)) ((ux 29)) ((ux 20)) ((ux 21)) ((ux 30)) ((ux 22)) ((ux 0)) ((ux 11)) ((ux 31)) ((ux 38)) ((ux 41)) ((ux 44)) ((ux 47)) ((ux 48)) ((ux 25)) ((ux 23))) (cwV 1 hts gL_law_X10_keep rfl rfl rfl (by decide +kernel) ⟨Nat.le_of_ble_eq_true rfl, Nat.le_of_ble_eq_true rfl⟩) hP hD hS hA [0, 25, 29, 30, 21, 22, 31, 23] [50, 51, 52, 53, 54, 55, 56, 57, 58, 59, 60, 61, 62, 63, 64, 65, 66, 67, 68] rfl rfl rfl rfl (by decide) 0 10 rfl rfl rfl hl.1 rfl (Nat.le_of_ble_eq_true rfl) dL_law_948 ⟨Nat.le_of_ble_eq_true rfl, Nat.le_of_ble_eq_true rfl⟩ (fun r13 u12 H locs hp hP hD hS => ?_)
        subst hp
        refine lv_aload_n hx hb dL_law_951 rfl (lv_at hl 1 rfl) ?_
        refine lv_aload_n hx hb dL_law_952 rfl (lv_at hl 3 rfl) ?_
        refine lv_iload_n hx hb dL_law_953 rfl (lv_at hl 0 rfl) ?_
        refine lv_iconst (v := 1) hx hb dL_law_954 (by decide) ?_
        refine lv_iadd hx hb dL_law_955 ?_
        refine ms_eqi (y := 1) (by decide) ?_
        refine ms_sld hx hb hX hbl hbA hS 1 rfl (by decide) (by decide) dL_law_956 ?_
        refine ms_eqi (y := 1) e1 ?_
        refine ms_cVi (qc := (RX11, TX11, 32)) (wc := [(hm0, .inr (11, [.ref ((um 16)), .ref ((um 0)), .ref ((um 14)), .ref ((um 1)), .int 0, .ref ((um 2)), .ref ((um 15)), .long 0, .ref ((um 3)), .int 0, .int (-1), .ref ((um 17)), .ref ((um 4)), .int 0, .ref ((um 5)), .int 0, .int 0, .int 0, .int 0, .int 0, .int 0, .int 0, .ref ((um 6)), .ref ((um 7)), .ref ((um 8)), .int 0, .ref ((um 9)), .ref ((um 10)), .ref ((um 11)), .ref ((um 12)), .int 0, .ref ((um 13))])), ((um 14), .inl (cA 0, 14, .inl ms_n)), ((um 2), .inl (cA 0, 30, .inl ms_z)), ((um 15), .inl (cA 1, 2, .inl ms_z))]) (wr := []) ⟨hx, hb, hml, hown, hts⟩ hE (cX11_keep_3 l D cA hm0 ((um 14)) ((um 2)) ((um 15)) ((um 16)) ((um 0)) ((um 1)) ((um 3)) ((um 17)) ((um 4)) ((um 5)) ((um 6)) ((um 7)) ((um 8)) ((um 9)) ((um 10)) ((um 11)) ((um 12)) ((um 13))) (cwV 1 hts gL_law_X11_keep rfl rfl rfl (by decide +kernel) ⟨Nat.le_of_ble_eq_true rfl, Nat.le_of_ble_eq_true rfl⟩) hP hD hS hA [0, 15, 3, 16] [] rfl rfl rfl rfl (by decide) 0 11 rfl rfl rfl hl.1 rfl (Nat.le_of_ble_eq_true rfl) dL_law_957 ⟨Nat.le_of_ble_eq_true rfl, Nat.le_of_ble_eq_true rfl⟩ (fun r15 u14 H locs hp hP hD hS => ?_)
        subst hp
        refine lv_icmp_eq (tgt := 988) hx hb dL_law_960 (by decide) (fun _ => ?_) (fun c => absurd (by decide) c)
        exact law_end C0 (Nat.le_of_ble_eq_true rfl) (Nat.le_of_ble_eq_true rfl) hS hl
      · skip
        refine lv_aload_n hx hb dL_law_942 rfl (lv_at hl 2 rfl) ?_
        refine lv_aload_n hx hb dL_law_943 rfl (lv_at hl 3 rfl) ?_
        refine lv_iload_n hx hb dL_law_944 rfl (lv_at hl 0 rfl) ?_
        refine lv_iconst (v := 1) hx hb dL_law_945 (by decide) ?_
        refine lv_iadd hx hb dL_law_946 ?_
        refine ms_eqi (y := 1) (by decide) ?_
        refine ms_sld hx hb hX hbl hbA hS 1 rfl (by decide) (by decide) dL_law_947 ?_
        refine ms_cVi (qc := (RX10, TX10, 12)) (wc := [(hx0, .inr (10, [.ref ((ux 0)), .ref ((ux 11)), .ref ((ux 20)), .ref ((ux 22)), .ref ((ux 24)), .int 0, .ref ((ux 31)), .ref ((ux 38)), .ref ((ux 41)), .ref ((ux 44)), .ref ((ux 47)), .ref ((ux 48))]))]) (wr := ms_WM cA hm0 um) ⟨hx, hb, hml, hown, hts⟩ hE (cX10_keep_4 l D cA hx0 ((ux 0)) ((ux 11)) ((ux 20)) ((ux 22)) ((ux 24)) ((ux 31)) ((ux 38)) ((ux 41)) ((ux 44)) ((ux 47)) ((ux 48)) ((xs 1)) (by omega)) (cwV 1 hts gL_law_X10_keep rfl rfl rfl (by decide +kernel) ⟨Nat.le_of_ble_eq_true rfl, Nat.le_of_ble_eq_true rfl⟩) hP hD hS hA [0] [50, 51, 52, 53, 54, 55, 56, 57, 58, 59, 60, 61, 62, 63, 64, 65, 66, 67, 68] rfl rfl rfl rfl (by decide) 0 10 rfl rfl rfl hl.1 rfl (Nat.le_of_ble_eq_true rfl) dL_law_948 ⟨Nat.le_of_ble_eq_true rfl, Nat.le_of_ble_eq_true rfl⟩ (fun r17 u16 H locs hp hP hD hS => ?_)
        subst hp
        refine lv_aload_n hx hb dL_law_951 rfl (lv_at hl 1 rfl) ?_
        refine lv_aload_n hx hb dL_law_952 rfl (lv_at hl 3 rfl) ?_
        refine lv_iload_n hx hb dL_law_953 rfl (lv_at hl 0 rfl) ?_
        refine lv_iconst (v := 1) hx hb dL_law_954 (by decide) ?_
        refine lv_iadd hx hb dL_law_955 ?_
        refine ms_eqi (y := 1) (by decide) ?_
        refine ms_sld hx hb hX hbl hbA hS 1 rfl (by decide) (by decide) dL_law_956 ?_
        refine ms_cVi (qc := (RX11, TX11, 32)) (wc := [(hm0, .inr (11, [.ref ((um 16)), .ref ((um 0)), .ref ((um 14)), .ref ((um 1)), .int 0, .ref ((um 2)), .ref ((um 15)), .long 0, .ref ((um 3)), .int 0, .int (-1), .ref ((um 17)), .ref ((um 4)), .int 0, .ref ((um 5)), .int 0, .int 0, .int 0, .int 0, .int 0, .int 0, .int 0, .ref ((um 6)), .ref ((um 7)), .ref ((um 8)), .int 0, .ref ((um 9)), .ref ((um 10)), .ref ((um 11)), .ref ((um 12)), .int 0, .ref ((um 13))]))]) (wr := []) ⟨hx, hb, hml, hown, hts⟩ hE (cX11_keep_4 l D cA hm0 ((um 16)) ((um 0)) ((um 14)) ((um 1)) ((um 2)) ((um 15)) ((um 3)) ((um 17)) ((um 4)) ((um 5)) ((um 6)) ((um 7)) ((um 8)) ((um 9)) ((um 10)) ((um 11)) ((um 12)) ((um 13)) ((xs 1)) (by omega)) (cwV 1 hts gL_law_X11_keep rfl rfl rfl (by decide +kernel) ⟨Nat.le_of_ble_eq_true rfl, Nat.le_of_ble_eq_true rfl⟩) hP hD hS hA [0] [] rfl rfl rfl rfl (by decide) 0 11 rfl rfl rfl hl.1 rfl (Nat.le_of_ble_eq_true rfl) dL_law_957 ⟨Nat.le_of_ble_eq_true rfl, Nat.le_of_ble_eq_true rfl⟩ (fun r19 u18 H locs hp hP hD hS => ?_)
        subst hp
        refine lv_icmp_eq (tgt := 988) hx hb dL_law_960 (by decide) (fun _ => ?_) (fun c => absurd (by decide) c)
        exact law_end C0 (Nat.le_of_ble_eq_true rfl) (Nat.le_of_ble_eq_true rfl) hS hl
set_option maxHeartbeats 4000000 in
set_option maxRecDepth 100000 in
theorem law_31 (l : Launch) (D : va_G) (cA : Nat → ClassId) (hx0 hm0 : Nat) (ux um : Nat → Nat) {p : Program} {e : Env} {s : State} {m : MethodId} {below : List Frame} {meth : Method} {c : Code} {b : Nat} {xs : Nat → Int32} {H : Heap} {locs : List Loc} {ls : Array Slot} (C0 : lw_At p s m meth c b 4 xs) (hE : ms_EV D cA s) (hP : va_P D vwCl (ms_WX cA hx0 ux ++ ms_WM cA hm0 um) H) (hD : va_D (fun q : Nat => s.heap.size ≤ q) (ms_WX cA hx0 ux ++ ms_WM cA hm0 um)) (hS : va_S (fun q : Nat => s.heap.size ≤ q) s.heap H locs) (hl : lv_has ls 4 [(3, .int 0), (2, .ref hm0), (1, .ref hx0), (0, .ref b)]) : W p l e room_1 s m #[Value.ref b] below meth c H locs 69 1489 (lw_Z below #[Value.ref b] s) (F0 m 965 ls []) := by
  obtain ⟨hx, hb, hr, hml, hown, hts0, hX, hbl, hlocks, hgv⟩ := id C0
  have hb : c.code = cL_law := hb
  have hown : s.vm.findClass RL = some m.cls := hown
  have hts : ∀ w ∈ wsL_law, w.before #[Value.ref b] s = true := fun w h => hts0 w (wsL_law_in w h)
  have hA : ∀ q : Nat, s.heap.size ≤ q → (fun q : Nat => s.heap.size ≤ q) q := fun _ h => h
  have hbA : ¬ (fun q : Nat => s.heap.size ≤ q) b := Nat.not_le.mpr hbl
  by_cases g1_1 : (xs 1).toInt ≤ -1
  · skip
    refine lv_aload_n hx hb dL_law_965 rfl (lv_at hl 2 rfl) ?_
    refine lv_aload_n hx hb dL_law_966 rfl (lv_at hl 3 rfl) ?_
    refine lv_iload_n hx hb dL_law_967 rfl (lv_at hl 0 rfl) ?_
    refine lv_iconst (v := 1) hx hb dL_law_968 (by decide) ?_
    refine lv_iadd hx hb dL_law_969 ?_
    refine ms_eqi (y := 1) (by decide) ?_
    refine ms_sld hx hb hX hbl hbA hS 1 rfl (by decide) (by decide) dL_law_970 ?_
    refine ms_cVi (qc := (RX10, TX10, 12)) (wc := [(hx0, .inr (10, [.ref ((ux 0)), .ref ((ux 11)), .ref ((ux 20)), .ref ((ux 22)), .ref ((ux 24)), .int 0, .ref ((ux 31)), .ref ((ux 38)), .ref ((ux 41)), .ref ((ux 44)), .ref ((ux 47)), .ref ((ux 48))]))]) (wr := ms_WM cA hm0 um) ⟨hx, hb, hml, hown, hts⟩ hE (cX10_goBack_1 l D cA hx0 ((ux 0)) ((ux 11)) ((ux 20)) ((ux 22)) ((ux 24)) ((ux 31)) ((ux 38)) ((ux 41)) ((ux 44)) ((ux 47)) ((ux 48)) ((xs 1)) (by omega)) (cwV 1 hts gL_law_X10_goBack rfl rfl rfl (by decide +kernel) ⟨Nat.le_of_ble_eq_true rfl, Nat.le_of_ble_eq_true rfl⟩) hP hD hS hA [0] [50, 51, 52, 53, 54, 55, 56, 57, 58, 59, 60, 61, 62, 63, 64, 65, 66, 67, 68] rfl rfl rfl rfl (by decide) 0 10 rfl rfl rfl hl.1 rfl (Nat.le_of_ble_eq_true rfl) dL_law_971 ⟨Nat.le_of_ble_eq_true rfl, Nat.le_of_ble_eq_true rfl⟩ (fun r3 u2 H locs hp hP hD hS => ?_)
    subst hp
    refine lv_aload_n hx hb dL_law_974 rfl (lv_at hl 1 rfl) ?_
    refine lv_aload_n hx hb dL_law_975 rfl (lv_at hl 3 rfl) ?_
    refine lv_iload_n hx hb dL_law_976 rfl (lv_at hl 0 rfl) ?_
    refine lv_iconst (v := 1) hx hb dL_law_977 (by decide) ?_
    refine lv_iadd hx hb dL_law_978 ?_
    refine ms_eqi (y := 1) (by decide) ?_
    refine ms_sld hx hb hX hbl hbA hS 1 rfl (by decide) (by decide) dL_law_979 ?_
    refine ms_cVi (qc := (RX11, TX11, 32)) (wc := [(hm0, .inr (11, [.ref ((um 16)), .ref ((um 0)), .ref ((um 14)), .ref ((um 1)), .int 0, .ref ((um 2)), .ref ((um 15)), .long 0, .ref ((um 3)), .int 0, .int (-1), .ref ((um 17)), .ref ((um 4)), .int 0, .ref ((um 5)), .int 0, .int 0, .int 0, .int 0, .int 0, .int 0, .int 0, .ref ((um 6)), .ref ((um 7)), .ref ((um 8)), .int 0, .ref ((um 9)), .ref ((um 10)), .ref ((um 11)), .ref ((um 12)), .int 0, .ref ((um 13))]))]) (wr := []) ⟨hx, hb, hml, hown, hts⟩ hE (cX11_goBack_1 l D cA hm0 ((um 16)) ((um 0)) ((um 14)) ((um 1)) ((um 2)) ((um 15)) ((um 3)) ((um 17)) ((um 4)) ((um 5)) ((um 6)) ((um 7)) ((um 8)) ((um 9)) ((um 10)) ((um 11)) ((um 12)) ((um 13)) ((xs 1)) (by omega)) (cwV 1 hts gL_law_X11_goBack rfl rfl rfl (by decide +kernel) ⟨Nat.le_of_ble_eq_true rfl, Nat.le_of_ble_eq_true rfl⟩) hP hD hS hA [0] [] rfl rfl rfl rfl (by decide) 0 11 rfl rfl rfl hl.1 rfl (Nat.le_of_ble_eq_true rfl) dL_law_980 ⟨Nat.le_of_ble_eq_true rfl, Nat.le_of_ble_eq_true rfl⟩ (fun r5 u4 H locs hp hP hD hS => ?_)
    subst hp
    refine lv_icmp_eq (tgt := 988) hx hb dL_law_983 (by decide) (fun _ => ?_) (fun c => absurd (by decide) c)
    exact law_end C0 (Nat.le_of_ble_eq_true rfl) (Nat.le_of_ble_eq_true rfl) hS hl
  · skip
    by_cases g1_6 : (xs 1).toInt ≤ 0
    · skip
      have e1 : xs 1 = 0 := Int32.toInt_inj.mp (by have z : (0 : Int32).toInt = 0 := (by decide); omega)
      refine lv_aload_n hx hb dL_law_965 rfl (lv_at hl 2 rfl) ?_
      refine lv_aload_n hx hb dL_law_966 rfl (lv_at hl 3 rfl) ?_
      refine lv_iload_n hx hb dL_law_967 rfl (lv_at hl 0 rfl) ?_
      refine lv_iconst (v := 1) hx hb dL_law_968 (by decide) ?_
      refine lv_iadd hx hb dL_law_969 ?_
      refine ms_eqi (y := 1) (by decide) ?_
      refine ms_sld hx hb hX hbl hbA hS 1 rfl (by decide) (by decide) dL_law_970 ?_
      refine ms_eqi (y := 0) e1 ?_
      refine ms_cVi (qc := (RX10, TX10, 12)) (wc := [(hx0, .inr (10, [.ref ((ux 0)), .ref ((ux 11)), .ref ((ux 20)), .ref ((ux 22)), .ref ((ux 24)), .int 0, .ref ((ux 31)), .ref ((ux 38)), .ref ((ux 41)), .ref ((ux 44)), .ref ((ux 47)), .ref ((ux 48))])), ((ux 24), .inl (cA 2, 2, .inr (.inr (.inr (.inr (va_up (va_up (fun _ => none) 0 (some ((ux 25)))) 1 (some ((ux 28))))))))), ((ux 25), .inr (1, [.ref ((ux 26)), .int 0, .int 0]))]) (wr := ms_WM cA hm0 um) ⟨hx, hb, hml, hown, hts⟩ hE (cX10_goBack_2 l D cA hx0 ((ux 24)) ((ux 25)) ((ux 0)) ((ux 11)) ((ux 20)) ((ux 22)) ((ux 31)) ((ux 38)) ((ux 41)) ((ux 44)) ((ux 47)) ((ux 48)) ((ux 28)) ((ux 26))) (cwV 1 hts gL_law_X10_goBack rfl rfl rfl (by decide +kernel) ⟨Nat.le_of_ble_eq_true rfl, Nat.le_of_ble_eq_true rfl⟩) hP hD hS hA [0, 25, 26] [50, 51, 52, 53, 54, 55, 56, 57, 58, 59, 60, 61, 62, 63, 64, 65, 66, 67, 68] rfl rfl rfl rfl (by decide) 0 10 rfl rfl rfl hl.1 rfl (Nat.le_of_ble_eq_true rfl) dL_law_971 ⟨Nat.le_of_ble_eq_true rfl, Nat.le_of_ble_eq_true rfl⟩ (fun r8 u7 H locs hp hP hD hS => ?_)
      subst hp
      refine lv_aload_n hx hb dL_law_974 rfl (lv_at hl 1 rfl) ?_
      refine lv_aload_n hx hb dL_law_975 rfl (lv_at hl 3 rfl) ?_
      refine lv_iload_n hx hb dL_law_976 rfl (lv_at hl 0 rfl) ?_
      refine lv_iconst (v := 1) hx hb dL_law_977 (by decide) ?_
      refine lv_iadd hx hb dL_law_978 ?_
      refine ms_eqi (y := 1) (by decide) ?_
      refine ms_sld hx hb hX hbl hbA hS 1 rfl (by decide) (by decide) dL_law_979 ?_
      refine ms_eqi (y := 0) e1 ?_
      refine ms_cVi (qc := (RX11, TX11, 32)) (wc := [(hm0, .inr (11, [.ref ((um 16)), .ref ((um 0)), .ref ((um 14)), .ref ((um 1)), .int 0, .ref ((um 2)), .ref ((um 15)), .long 0, .ref ((um 3)), .int 0, .int (-1), .ref ((um 17)), .ref ((um 4)), .int 0, .ref ((um 5)), .int 0, .int 0, .int 0, .int 0, .int 0, .int 0, .int 0, .ref ((um 6)), .ref ((um 7)), .ref ((um 8)), .int 0, .ref ((um 9)), .ref ((um 10)), .ref ((um 11)), .ref ((um 12)), .int 0, .ref ((um 13))])), ((um 15), .inl (cA 1, 2, .inl ms_z))]) (wr := []) ⟨hx, hb, hml, hown, hts⟩ hE (cX11_goBack_2 l D cA hm0 ((um 15)) ((um 16)) ((um 0)) ((um 14)) ((um 1)) ((um 2)) ((um 3)) ((um 17)) ((um 4)) ((um 5)) ((um 6)) ((um 7)) ((um 8)) ((um 9)) ((um 10)) ((um 11)) ((um 12)) ((um 13))) (cwV 1 hts gL_law_X11_goBack rfl rfl rfl (by decide +kernel) ⟨Nat.le_of_ble_eq_true rfl, Nat.le_of_ble_eq_true rfl⟩) hP hD hS hA [0, 16] [] rfl rfl rfl rfl (by decide) 0 11 rfl rfl rfl hl.1 rfl (Nat.le_of_ble_eq_true rfl) dL_law_980 ⟨Nat.le_of_ble_eq_true rfl, Nat.le_of_ble_eq_true rfl⟩ (fun r10 u9 H locs hp hP hD hS => ?_)
      subst hp
      refine lv_icmp_eq (tgt := 988) hx hb dL_law_983 (by decide) (fun _ => ?_) (fun c => absurd (by decide) c)
      exact law_end C0 (Nat.le_of_ble_eq_true rfl) (Nat.le_of_ble_eq_true rfl) hS hl
    · skip
      by_cases g1_11 : (xs 1).toInt ≤ 1
      · skip
        have e1 : xs 1 = 1 := Int32.toInt_inj.mp (by have z : (1 : Int32).toInt = 1 := (by decide); omega)
        refine lv_aload_n hx hb dL_law_965 rfl (lv_at hl 2 rfl) ?_
        refine lv_aload_n hx hb dL_law_966 rfl (lv_at hl 3 rfl) ?_
        refine lv_iload_n hx hb dL_law_967 rfl (lv_at hl 0 rfl) ?_
        refine lv_iconst (v := 1) hx hb dL_law_968 (by decide) ?_
        refine lv_iadd hx hb dL_law_969 ?_
        refine ms_eqi (y := 1) (by decide) ?_
        refine ms_sld hx hb hX hbl hbA hS 1 rfl (by decide) (by decide) dL_law_970 ?_
        refine ms_eqi (y := 1) e1 ?_
        refine ms_cVi (qc := (RX10, TX10, 12)) (wc := [(hx0, .inr (10, [.ref ((ux 0)), .ref ((ux 11)), .ref ((ux 20)), .ref ((ux 22)), .ref ((ux 24)), .int 0, .ref ((ux 31)), .ref ((ux 38)), .ref ((ux 41)), .ref ((ux 44)), .ref ((ux 47)), .ref ((ux 48))])), ((ux 24), .inl (cA 2, 2, .inr (.inr (.inr (.inr (va_up (va_up (fun _ => none) 0 (some ((ux 25)))) 1 (some ((ux 28))))))))), ((ux 28), .inr (1, [.ref ((ux 29)), .int 0, .int 0]))]) (wr := ms_WM cA hm0 um) ⟨hx, hb, hml, hown, hts⟩ hE (cX10_goBack_3 l D cA hx0 ((ux 24)) ((ux 28)) ((ux 0)) ((ux 11)) ((ux 20)) ((ux 22)) ((ux 31)) ((ux 38)) ((ux 41)) ((ux 44)) ((ux 47)) ((ux 48)) ((ux 25)) ((ux 29))) (cwV 1 hts gL_law_X10_goBack rfl rfl rfl (by decide +kernel) ⟨Nat.le_of_ble_eq_true rfl, Nat.le_of_ble_eq_true rfl⟩) hP hD hS hA [0, 25, 29] [50, 51, 52, 53, 54, 55, 56, 57, 58, 59, 60, 61, 62, 63, 64, 65, 66, 67, 68] rfl rfl rfl rfl (by decide) 0 10 rfl rfl rfl hl.1 rfl (Nat.le_of_ble_eq_true rfl) dL_law_971 ⟨Nat.le_of_ble_eq_true rfl, Nat.le_of_ble_eq_true rfl⟩ (fun r13 u12 H locs hp hP hD hS => ?_)
        subst hp
        refine lv_aload_n hx hb dL_law_974 rfl (lv_at hl 1 rfl) ?_
        refine lv_aload_n hx hb dL_law_975 rfl (lv_at hl 3 rfl) ?_
        refine lv_iload_n hx hb dL_law_976 rfl (lv_at hl 0 rfl) ?_
        refine lv_iconst (v := 1) hx hb dL_law_977 (by decide) ?_
        refine lv_iadd hx hb dL_law_978 ?_
        refine ms_eqi (y := 1) (by decide) ?_
        refine ms_sld hx hb hX hbl hbA hS 1 rfl (by decide) (by decide) dL_law_979 ?_
        refine ms_eqi (y := 1) e1 ?_
        refine ms_cVi (qc := (RX11, TX11, 32)) (wc := [(hm0, .inr (11, [.ref ((um 16)), .ref ((um 0)), .ref ((um 14)), .ref ((um 1)), .int 0, .ref ((um 2)), .ref ((um 15)), .long 0, .ref ((um 3)), .int 0, .int (-1), .ref ((um 17)), .ref ((um 4)), .int 0, .ref ((um 5)), .int 0, .int 0, .int 0, .int 0, .int 0, .int 0, .int 0, .ref ((um 6)), .ref ((um 7)), .ref ((um 8)), .int 0, .ref ((um 9)), .ref ((um 10)), .ref ((um 11)), .ref ((um 12)), .int 0, .ref ((um 13))])), ((um 15), .inl (cA 1, 2, .inl ms_z))]) (wr := []) ⟨hx, hb, hml, hown, hts⟩ hE (cX11_goBack_3 l D cA hm0 ((um 15)) ((um 16)) ((um 0)) ((um 14)) ((um 1)) ((um 2)) ((um 3)) ((um 17)) ((um 4)) ((um 5)) ((um 6)) ((um 7)) ((um 8)) ((um 9)) ((um 10)) ((um 11)) ((um 12)) ((um 13))) (cwV 1 hts gL_law_X11_goBack rfl rfl rfl (by decide +kernel) ⟨Nat.le_of_ble_eq_true rfl, Nat.le_of_ble_eq_true rfl⟩) hP hD hS hA [0, 16] [] rfl rfl rfl rfl (by decide) 0 11 rfl rfl rfl hl.1 rfl (Nat.le_of_ble_eq_true rfl) dL_law_980 ⟨Nat.le_of_ble_eq_true rfl, Nat.le_of_ble_eq_true rfl⟩ (fun r15 u14 H locs hp hP hD hS => ?_)
        subst hp
        refine lv_icmp_eq (tgt := 988) hx hb dL_law_983 (by decide) (fun _ => ?_) (fun c => absurd (by decide) c)
        exact law_end C0 (Nat.le_of_ble_eq_true rfl) (Nat.le_of_ble_eq_true rfl) hS hl
      · skip
        refine lv_aload_n hx hb dL_law_965 rfl (lv_at hl 2 rfl) ?_
        refine lv_aload_n hx hb dL_law_966 rfl (lv_at hl 3 rfl) ?_
        refine lv_iload_n hx hb dL_law_967 rfl (lv_at hl 0 rfl) ?_
        refine lv_iconst (v := 1) hx hb dL_law_968 (by decide) ?_
        refine lv_iadd hx hb dL_law_969 ?_
        refine ms_eqi (y := 1) (by decide) ?_
        refine ms_sld hx hb hX hbl hbA hS 1 rfl (by decide) (by decide) dL_law_970 ?_
        refine ms_cVi (qc := (RX10, TX10, 12)) (wc := [(hx0, .inr (10, [.ref ((ux 0)), .ref ((ux 11)), .ref ((ux 20)), .ref ((ux 22)), .ref ((ux 24)), .int 0, .ref ((ux 31)), .ref ((ux 38)), .ref ((ux 41)), .ref ((ux 44)), .ref ((ux 47)), .ref ((ux 48))]))]) (wr := ms_WM cA hm0 um) ⟨hx, hb, hml, hown, hts⟩ hE (cX10_goBack_4 l D cA hx0 ((ux 0)) ((ux 11)) ((ux 20)) ((ux 22)) ((ux 24)) ((ux 31)) ((ux 38)) ((ux 41)) ((ux 44)) ((ux 47)) ((ux 48)) ((xs 1)) (by omega)) (cwV 1 hts gL_law_X10_goBack rfl rfl rfl (by decide +kernel) ⟨Nat.le_of_ble_eq_true rfl, Nat.le_of_ble_eq_true rfl⟩) hP hD hS hA [0] [50, 51, 52, 53, 54, 55, 56, 57, 58, 59, 60, 61, 62, 63, 64, 65, 66, 67, 68] rfl rfl rfl rfl (by decide) 0 10 rfl rfl rfl hl.1 rfl (Nat.le_of_ble_eq_true rfl) dL_law_971 ⟨Nat.le_of_ble_eq_true rfl, Nat.le_of_ble_eq_true rfl⟩ (fun r17 u16 H locs hp hP hD hS => ?_)
        subst hp
        refine lv_aload_n hx hb dL_law_974 rfl (lv_at hl 1 rfl) ?_
        refine lv_aload_n hx hb dL_law_975 rfl (lv_at hl 3 rfl) ?_
        refine lv_iload_n hx hb dL_law_976 rfl (lv_at hl 0 rfl) ?_
        refine lv_iconst (v := 1) hx hb dL_law_977 (by decide) ?_
        refine lv_iadd hx hb dL_law_978 ?_
        refine ms_eqi (y := 1) (by decide) ?_
        refine ms_sld hx hb hX hbl hbA hS 1 rfl (by decide) (by decide) dL_law_979 ?_
        refine ms_cVi (qc := (RX11, TX11, 32)) (wc := [(hm0, .inr (11, [.ref ((um 16)), .ref ((um 0)), .ref ((um 14)), .ref ((um 1)), .int 0, .ref ((um 2)), .ref ((um 15)), .long 0, .ref ((um 3)), .int 0, .int (-1), .ref ((um 17)), .ref ((um 4)), .int 0, .ref ((um 5)), .int 0, .int 0, .int 0, .int 0, .int 0, .int 0, .int 0, .ref ((um 6)), .ref ((um 7)), .ref ((um 8)), .int 0, .ref ((um 9)), .ref ((um 10)), .ref ((um 11)), .ref ((um 12)), .int 0, .ref ((um 13))]))]) (wr := []) ⟨hx, hb, hml, hown, hts⟩ hE (cX11_goBack_4 l D cA hm0 ((um 16)) ((um 0)) ((um 14)) ((um 1)) ((um 2)) ((um 15)) ((um 3)) ((um 17)) ((um 4)) ((um 5)) ((um 6)) ((um 7)) ((um 8)) ((um 9)) ((um 10)) ((um 11)) ((um 12)) ((um 13)) ((xs 1)) (by omega)) (cwV 1 hts gL_law_X11_goBack rfl rfl rfl (by decide +kernel) ⟨Nat.le_of_ble_eq_true rfl, Nat.le_of_ble_eq_true rfl⟩) hP hD hS hA [0] [] rfl rfl rfl rfl (by decide) 0 11 rfl rfl rfl hl.1 rfl (Nat.le_of_ble_eq_true rfl) dL_law_980 ⟨Nat.le_of_ble_eq_true rfl, Nat.le_of_ble_eq_true rfl⟩ (fun r19 u18 H locs hp hP hD hS => ?_)
        subst hp
        refine lv_icmp_eq (tgt := 988) hx hb dL_law_983 (by decide) (fun _ => ?_) (fun c => absurd (by decide) c)
        exact law_end C0 (Nat.le_of_ble_eq_true rfl) (Nat.le_of_ble_eq_true rfl) hS hl
