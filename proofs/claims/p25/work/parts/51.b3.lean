set_option maxHeartbeats 4000000 in
set_option maxRecDepth 100000 in
theorem law_24 (l : Launch) (D : va_G) (cA : Nat → ClassId) (xa ma : Nat) (a : Nat → Nat) (b : Nat → Nat) (i : Nat → Int32) (f : Nat → Nat → Int32) (o : Nat → Option Nat) (pl : va_W) (j : Nat → Int32) (g : Nat → Nat → Int32) (t : Nat → Int64) {p : Program} {e : Env} {s : State} {m : MethodId} {below : List Frame} {meth : Method} {c : Code} {b0 L : Nat} {xs : Nat → Int32} {H : Heap} {locs : List Loc} {ls : Array Slot} {n : Nat} (C0 : lw_At p s m meth c b0 L xs) (hE : ms_EV D cA s) (hn : 4 * n + 4 ≤ L) (hL : L ≤ 256) (hP : va_P D vwCl ((ms_WX cA xa a i f o ++ ms_WM cA ma b j g t) ++ pl) H) (hD : va_D (fun q : Nat => s.heap.size ≤ q) ((ms_WX cA xa a i f o ++ ms_WM cA ma b j g t) ++ pl)) (hS : va_S (fun q : Nat => s.heap.size ≤ q) s.heap H locs) (hl : lv_has ls 4 [(3, .int (nI (4 * n))), (2, .ref ma), (1, .ref xa), (0, .ref b0)]) (hB : ms_BX i f) (hM : ms_BM j g t) (hq : ms_hq cA o pl) (hrel : ms_rel i f j g) (kk : ∀ (a : Nat → Nat) (i : Nat → Int32) (f : Nat → Nat → Int32) (o : Nat → Option Nat) (pl : va_W) (j : Nat → Int32) (g : Nat → Nat → Int32) (t : Nat → Int64) (H : Heap) (locs : List Loc) (ls : Array Slot), va_P D vwCl ((ms_WX cA xa a i f o ++ ms_WM cA ma b j g t) ++ pl) H → va_D (fun q : Nat => s.heap.size ≤ q) ((ms_WX cA xa a i f o ++ ms_WM cA ma b j g t) ++ pl) → va_S (fun q : Nat => s.heap.size ≤ q) s.heap H locs → lv_has ls 4 [(3, .int (nI (4 * n))), (2, .ref ma), (1, .ref xa), (0, .ref b0)] → ms_BX i f → ms_BM j g t → ms_hq cA o pl → ms_rel i f j g → W p l e room_1 s m #[Value.ref b0] below meth c H locs (69 + 2 * (n + 1)) (1489 + 15 * (n + 1)) (lw_Z below #[Value.ref b0] s) (F0 m 988 ls [])) : W p l e room_1 s m #[Value.ref b0] below meth c H locs (69 + 2 * n) (1489 + 15 * n) (lw_Z below #[Value.ref b0] s) (F0 m 814 ls []) := by
  obtain ⟨hx, hb, hr, hml, hown, hts0, hX, hbl, hlocks, hgv⟩ := id C0
  have hb : c.code = cL_law := hb
  have hown : s.vm.findClass RL = some m.cls := hown
  have hts : ∀ w ∈ wsL_law, w.before #[Value.ref b0] s = true := fun w h => hts0 w (wsL_law_in w h)
  have hA : ∀ q : Nat, s.heap.size ≤ q → (fun q : Nat => s.heap.size ≤ q) q := fun _ h => h
  have hbA : ¬ (fun q : Nat => s.heap.size ≤ q) b0 := Nat.not_le.mpr hbl
  refine lv_aload_n hx hb dL_law_814 rfl (lv_at hl 2 rfl) ?_
  refine ms_pVi (qc := (RX10, TX10, 12)) (wc := ms_WX cA xa a i f o) (wr := ms_WM cA ma b j g t) (w1 := fun (u : ((Nat → Nat) × (Nat → Int32) × (Nat → Nat → Int32) × (Nat → Option Nat) × va_W)) => ms_WX cA xa u.1 u.2.1 u.2.2.1 u.2.2.2.1) (p1 := fun (u : ((Nat → Nat) × (Nat → Int32) × (Nat → Nat → Int32) × (Nat → Option Nat) × va_W)) => u.2.2.2.2) ⟨hx, hb, hml, hown, hts⟩ hE (wX10_liars l D cA xa a i f o pl   hB hq) (cwV 0 hts gL_law_X10_liars rfl rfl rfl (by decide +kernel) ⟨Nat.le_of_ble_eq_true rfl, Nat.le_of_ble_eq_true rfl⟩) hP hD hS hA [0, 1, 2, 3, 4, 5, 6, 7, 8, 9, 10, 11, 12, 13, 14, 15, 16, 17, 18, 19, 20, 21, 22, 23, 24, 25, 26, 27, 28, 29, 30, 31, 32, 33, 34, 35, 36, 37, 38, 39, 40, 41, 42, 43, 44, 45, 46, 47, 48, 49] [50, 51, 52, 53, 54, 55, 56, 57, 58, 59, 60, 61, 62, 63, 64, 65, 66, 67, 68] rfl rfl rfl rfl (by decide) 0 10 rfl rfl rfl hl.1 rfl (Nat.le_of_ble_eq_true rfl) dL_law_815 ⟨Nat.le_trans (show 69 + 2 * n + 0 ≤ 600 by omega) (Nat.le_of_ble_eq_true rfl), Nat.le_trans (show 1489 + 15 * n + 0 ≤ 6000 by omega) (Nat.le_of_ble_eq_true rfl)⟩ (fun r1 u2 H locs hp hP hD hS => ?_)
  obtain ⟨hB1, hq1, ex1⟩ := hp
  have hP : va_P D vwCl ((ms_WM cA ma b j g t ++ ms_WX cA xa u2.1 u2.2.1 u2.2.2.1 u2.2.2.2.1) ++ u2.2.2.2.2) H := hP
  have hD : va_D (fun q : Nat => s.heap.size ≤ q) ((ms_WM cA ma b j g t ++ ms_WX cA xa u2.1 u2.2.1 u2.2.2.1 u2.2.2.2.1) ++ u2.2.2.2.2) := hD
  refine lv_pop hx hb dL_law_818 rfl ?_
  refine lv_aload_n hx hb dL_law_819 rfl (lv_at hl 1 rfl) ?_
  refine ms_qVi (qc := (RX11, TX11, 32)) (wc := ms_WM cA ma b j g t) (wr := ms_WX cA xa u2.1 u2.2.1 u2.2.2.1 u2.2.2.2.1) (w1 := fun (u : ((Nat → Int32) × (Nat → Nat → Int32) × (Nat → Int64))) => ms_WM cA ma b u.1 u.2.1 u.2.2) ⟨hx, hb, hml, hown, hts⟩ hE (wX11_liars l D cA ma b j g t   hM) (cwV 0 hts gL_law_X11_liars rfl rfl rfl (by decide +kernel) ⟨Nat.le_of_ble_eq_true rfl, Nat.le_of_ble_eq_true rfl⟩) hP hD hS hA [0, 1, 2, 3, 4, 5, 6, 7, 8, 9, 10, 11, 12, 13, 14, 15, 16, 17, 18] [19, 20, 21, 22, 23, 24, 25, 26, 27, 28, 29, 30, 31, 32, 33, 34, 35, 36, 37, 38, 39, 40, 41, 42, 43, 44, 45, 46, 47, 48, 49, 50, 51, 52, 53, 54, 55, 56, 57, 58, 59, 60, 61, 62, 63, 64, 65, 66, 67, 68] rfl rfl rfl rfl (by decide) 0 11 rfl rfl rfl hl.1 rfl (Nat.le_of_ble_eq_true rfl) dL_law_820 ⟨Nat.le_trans (show 69 + 2 * n + 0 + 0 ≤ 600 by omega) (Nat.le_of_ble_eq_true rfl), Nat.le_trans (show 1489 + 15 * n + 0 + 0 ≤ 6000 by omega) (Nat.le_of_ble_eq_true rfl)⟩ (fun r3 u4 H locs hp hP hD hS => ?_)
  obtain ⟨hM1, ex2⟩ := hp
  have hP : va_P D vwCl ((ms_WX cA xa u2.1 u2.2.1 u2.2.2.1 u2.2.2.2.1 ++ ms_WM cA ma b u4.1 u4.2.1 u4.2.2) ++ u2.2.2.2.2) H := hP
  have hD : va_D (fun q : Nat => s.heap.size ≤ q) ((ms_WX cA xa u2.1 u2.2.1 u2.2.2.1 u2.2.2.2.1 ++ ms_WM cA ma b u4.1 u4.2.1 u4.2.2) ++ u2.2.2.2.2) := hD
  refine lv_pop hx hb dL_law_823 rfl ?_
  refine lv_goto (tgt := 988) hx hb dL_law_824 (by decide) ?_
  refine W.widen (k := 69 + 2 * (n + 1)) (n := 1489 + 15 * (n + 1)) (show 69 + 2 * n + 0 + 0 ≤ _ by omega) (show 1489 + 15 * n + 0 + 0 ≤ _ by omega) ?_
  exact kk _ _ _ _ _ _ _ _ _ _ _ hP hD hS hl hB1 hM1 hq1 ⟨ex1.2.1.trans (Eq.trans hrel.1 ex2.2.1.symm), ex1.2.2.2.2.2.2.2.2.2.2.2.2.1.trans (Eq.trans hrel.2.1 ex2.2.2.2.2.2.1.symm), mz_elc hrel.2.2.1 ex1.2.2.2.1 ex1.2.2.2.2.1 ex1.2.2.2.2.2.1 ex1.2.2.2.2.2.2.1 ex1.2.2.2.2.2.2.2.1 ex1.2.2.2.2.2.2.2.2.2.2.2.2.2.1 ex1.2.2.2.2.2.2.2.2.2.2.2.2.2.2.1 ex1.2.2.2.2.2.2.2.2.2.2.2.2.2.2.2.1 ex1.2.2.2.2.2.2.2.2.2.2.2.2.2.2.2.2.1 ex1.2.2.2.2.2.2.2.2.2.2.2.2.2.2.2.2.2.1 ex1.2.2.2.2.2.2.2.2.2.2.2.2.2.2.2.2.2.2.1 ex1.2.2.2.2.2.2.2.2.2.2.2.2.2.2.2.2.2.2.2.1 ex1.2.2.2.2.2.2.2.2.2.2.2.2.2.2.2.2.2.2.2.2.1 ex2.2.2.2.2.2.2.1, ex1.2.2.2.2.2.2.2.2.2.1.trans (Eq.trans hrel.2.2.2.1 ex2.2.2.2.2.1.symm), ex1.2.2.2.2.2.2.2.2.1.trans (Eq.trans hrel.2.2.2.2.1 ex2.2.2.2.1.symm), trivial⟩
set_option maxHeartbeats 4000000 in
set_option maxRecDepth 100000 in
theorem law_25 (l : Launch) (D : va_G) (cA : Nat → ClassId) (xa ma : Nat) (a : Nat → Nat) (b : Nat → Nat) (i : Nat → Int32) (f : Nat → Nat → Int32) (o : Nat → Option Nat) (pl : va_W) (j : Nat → Int32) (g : Nat → Nat → Int32) (t : Nat → Int64) {p : Program} {e : Env} {s : State} {m : MethodId} {below : List Frame} {meth : Method} {c : Code} {b0 L : Nat} {xs : Nat → Int32} {H : Heap} {locs : List Loc} {ls : Array Slot} {n : Nat} (C0 : lw_At p s m meth c b0 L xs) (hE : ms_EV D cA s) (hn : 4 * n + 4 ≤ L) (hL : L ≤ 256) (hP : va_P D vwCl ((ms_WX cA xa a i f o ++ ms_WM cA ma b j g t) ++ pl) H) (hD : va_D (fun q : Nat => s.heap.size ≤ q) ((ms_WX cA xa a i f o ++ ms_WM cA ma b j g t) ++ pl)) (hS : va_S (fun q : Nat => s.heap.size ≤ q) s.heap H locs) (hl : lv_has ls 4 [(3, .int (nI (4 * n))), (2, .ref ma), (1, .ref xa), (0, .ref b0)]) (hB : ms_BX i f) (hM : ms_BM j g t) (hq : ms_hq cA o pl) (hrel : ms_rel i f j g) (kk : ∀ (a : Nat → Nat) (i : Nat → Int32) (f : Nat → Nat → Int32) (o : Nat → Option Nat) (pl : va_W) (j : Nat → Int32) (g : Nat → Nat → Int32) (t : Nat → Int64) (H : Heap) (locs : List Loc) (ls : Array Slot), va_P D vwCl ((ms_WX cA xa a i f o ++ ms_WM cA ma b j g t) ++ pl) H → va_D (fun q : Nat => s.heap.size ≤ q) ((ms_WX cA xa a i f o ++ ms_WM cA ma b j g t) ++ pl) → va_S (fun q : Nat => s.heap.size ≤ q) s.heap H locs → lv_has ls 4 [(3, .int (nI (4 * n))), (2, .ref ma), (1, .ref xa), (0, .ref b0)] → ms_BX i f → ms_BM j g t → ms_hq cA o pl → ms_rel i f j g → W p l e room_1 s m #[Value.ref b0] below meth c H locs (69 + 2 * (n + 1)) (1489 + 15 * (n + 1)) (lw_Z below #[Value.ref b0] s) (F0 m 988 ls [])) : W p l e room_1 s m #[Value.ref b0] below meth c H locs (69 + 2 * n) (1489 + 15 * n) (lw_Z below #[Value.ref b0] s) (F0 m 827 ls []) := by
  obtain ⟨hx, hb, hr, hml, hown, hts0, hX, hbl, hlocks, hgv⟩ := id C0
  have hb : c.code = cL_law := hb
  have hown : s.vm.findClass RL = some m.cls := hown
  have hts : ∀ w ∈ wsL_law, w.before #[Value.ref b0] s = true := fun w h => hts0 w (wsL_law_in w h)
  have hA : ∀ q : Nat, s.heap.size ≤ q → (fun q : Nat => s.heap.size ≤ q) q := fun _ h => h
  have hbA : ¬ (fun q : Nat => s.heap.size ≤ q) b0 := Nat.not_le.mpr hbl
  refine lv_aload_n hx hb dL_law_827 rfl (lv_at hl 2 rfl) ?_
  refine lv_aload_n hx hb dL_law_828 rfl (lv_at hl 3 rfl) ?_
  refine lv_iload_n hx hb dL_law_829 rfl (lv_at hl 0 rfl) ?_
  refine lv_iconst (v := 1) hx hb dL_law_830 (by decide) ?_
  refine lv_iadd hx hb dL_law_831 ?_
  refine ms_eqi (y := nI (4 * n + 1)) (nI_add (4 * n) 1) ?_
  refine ms_sld hx hb hX hbl hbA hS (4 * n + 1) rfl (by omega) (by omega) dL_law_832 ?_
  refine lv_aload_n hx hb dL_law_833 rfl (lv_at hl 3 rfl) ?_
  refine lv_iload_n hx hb dL_law_834 rfl (lv_at hl 0 rfl) ?_
  refine lv_iconst (v := 2) hx hb dL_law_835 (by decide) ?_
  refine lv_iadd hx hb dL_law_836 ?_
  refine ms_eqi (y := nI (4 * n + 2)) (nI_add (4 * n) 2) ?_
  refine ms_sld hx hb hX hbl hbA hS (4 * n + 2) rfl (by omega) (by omega) dL_law_837 ?_
  refine ms_pVi (qc := (RX10, TX10, 12)) (wc := ms_WX cA xa a i f o) (wr := ms_WM cA ma b j g t) (w1 := fun (u : ((Nat → Nat) × (Nat → Int32) × (Nat → Nat → Int32) × (Nat → Option Nat) × va_W)) => ms_WX cA xa u.1 u.2.1 u.2.2.1 u.2.2.2.1) (p1 := fun (u : ((Nat → Nat) × (Nat → Int32) × (Nat → Nat → Int32) × (Nat → Option Nat) × va_W)) => u.2.2.2.2) ⟨hx, hb, hml, hown, hts⟩ hE (wX10_fits l D cA xa a i f o pl (xs (4 * n + 1)) (xs (4 * n + 2))  hB hq) (cwV 2 hts gL_law_X10_fits rfl rfl rfl (by decide +kernel) ⟨Nat.le_of_ble_eq_true rfl, Nat.le_of_ble_eq_true rfl⟩) hP hD hS hA [0, 1, 2, 3, 4, 5, 6, 7, 8, 9, 10, 11, 12, 13, 14, 15, 16, 17, 18, 19, 20, 21, 22, 23, 24, 25, 26, 27, 28, 29, 30, 31, 32, 33, 34, 35, 36, 37, 38, 39, 40, 41, 42, 43, 44, 45, 46, 47, 48, 49] [50, 51, 52, 53, 54, 55, 56, 57, 58, 59, 60, 61, 62, 63, 64, 65, 66, 67, 68] rfl rfl rfl rfl (by decide) 0 10 rfl rfl rfl hl.1 rfl (Nat.le_of_ble_eq_true rfl) dL_law_838 ⟨Nat.le_trans (show 69 + 2 * n + 0 ≤ 600 by omega) (Nat.le_of_ble_eq_true rfl), Nat.le_trans (show 1489 + 15 * n + 0 ≤ 6000 by omega) (Nat.le_of_ble_eq_true rfl)⟩ (fun r1 u2 H locs hp hP hD hS => ?_)
  obtain ⟨hB1, hq1, ex1⟩ := hp
  have hP : va_P D vwCl ((ms_WM cA ma b j g t ++ ms_WX cA xa u2.1 u2.2.1 u2.2.2.1 u2.2.2.2.1) ++ u2.2.2.2.2) H := hP
  have hD : va_D (fun q : Nat => s.heap.size ≤ q) ((ms_WM cA ma b j g t ++ ms_WX cA xa u2.1 u2.2.1 u2.2.2.1 u2.2.2.2.1) ++ u2.2.2.2.2) := hD
  refine lv_pop hx hb dL_law_841 rfl ?_
  refine lv_aload_n hx hb dL_law_842 rfl (lv_at hl 1 rfl) ?_
  refine lv_aload_n hx hb dL_law_843 rfl (lv_at hl 3 rfl) ?_
  refine lv_iload_n hx hb dL_law_844 rfl (lv_at hl 0 rfl) ?_
  refine lv_iconst (v := 1) hx hb dL_law_845 (by decide) ?_
  refine lv_iadd hx hb dL_law_846 ?_
  refine ms_eqi (y := nI (4 * n + 1)) (nI_add (4 * n) 1) ?_
  refine ms_sld hx hb hX hbl hbA hS (4 * n + 1) rfl (by omega) (by omega) dL_law_847 ?_
  refine lv_aload_n hx hb dL_law_848 rfl (lv_at hl 3 rfl) ?_
  refine lv_iload_n hx hb dL_law_849 rfl (lv_at hl 0 rfl) ?_
  refine lv_iconst (v := 2) hx hb dL_law_850 (by decide) ?_
  refine lv_iadd hx hb dL_law_851 ?_
  refine ms_eqi (y := nI (4 * n + 2)) (nI_add (4 * n) 2) ?_
  refine ms_sld hx hb hX hbl hbA hS (4 * n + 2) rfl (by omega) (by omega) dL_law_852 ?_
  refine ms_qVi (qc := (RX11, TX11, 32)) (wc := ms_WM cA ma b j g t) (wr := ms_WX cA xa u2.1 u2.2.1 u2.2.2.1 u2.2.2.2.1) (w1 := fun (u : ((Nat → Int32) × (Nat → Nat → Int32) × (Nat → Int64))) => ms_WM cA ma b u.1 u.2.1 u.2.2) ⟨hx, hb, hml, hown, hts⟩ hE (wX11_fits l D cA ma b j g t (xs (4 * n + 1)) (xs (4 * n + 2))  hM) (cwV 2 hts gL_law_X11_fits rfl rfl rfl (by decide +kernel) ⟨Nat.le_of_ble_eq_true rfl, Nat.le_of_ble_eq_true rfl⟩) hP hD hS hA [0, 1, 2, 3, 4, 5, 6, 7, 8, 9, 10, 11, 12, 13, 14, 15, 16, 17, 18] [19, 20, 21, 22, 23, 24, 25, 26, 27, 28, 29, 30, 31, 32, 33, 34, 35, 36, 37, 38, 39, 40, 41, 42, 43, 44, 45, 46, 47, 48, 49, 50, 51, 52, 53, 54, 55, 56, 57, 58, 59, 60, 61, 62, 63, 64, 65, 66, 67, 68] rfl rfl rfl rfl (by decide) 0 11 rfl rfl rfl hl.1 rfl (Nat.le_of_ble_eq_true rfl) dL_law_853 ⟨Nat.le_trans (show 69 + 2 * n + 0 + 0 ≤ 600 by omega) (Nat.le_of_ble_eq_true rfl), Nat.le_trans (show 1489 + 15 * n + 0 + 0 ≤ 6000 by omega) (Nat.le_of_ble_eq_true rfl)⟩ (fun r3 u4 H locs hp hP hD hS => ?_)
  obtain ⟨hM1, ex2⟩ := hp
  have hP : va_P D vwCl ((ms_WX cA xa u2.1 u2.2.1 u2.2.2.1 u2.2.2.2.1 ++ ms_WM cA ma b u4.1 u4.2.1 u4.2.2) ++ u2.2.2.2.2) H := hP
  have hD : va_D (fun q : Nat => s.heap.size ≤ q) ((ms_WX cA xa u2.1 u2.2.1 u2.2.2.1 u2.2.2.2.1 ++ ms_WM cA ma b u4.1 u4.2.1 u4.2.2) ++ u2.2.2.2.2) := hD
  refine lv_pop hx hb dL_law_856 rfl ?_
  refine lv_goto (tgt := 988) hx hb dL_law_857 (by decide) ?_
  refine W.widen (k := 69 + 2 * (n + 1)) (n := 1489 + 15 * (n + 1)) (show 69 + 2 * n + 0 + 0 ≤ _ by omega) (show 1489 + 15 * n + 0 + 0 ≤ _ by omega) ?_
  exact kk _ _ _ _ _ _ _ _ _ _ _ hP hD hS hl hB1 hM1 hq1 ⟨ex1.2.1.trans (Eq.trans hrel.1 ex2.2.1.symm), ex1.2.2.2.2.2.2.2.2.2.2.2.2.1.trans (Eq.trans hrel.2.1 ex2.2.2.2.2.2.1.symm), mz_elc hrel.2.2.1 ex1.2.2.2.1 ex1.2.2.2.2.1 ex1.2.2.2.2.2.1 ex1.2.2.2.2.2.2.1 ex1.2.2.2.2.2.2.2.1 ex1.2.2.2.2.2.2.2.2.2.2.2.2.2.1 ex1.2.2.2.2.2.2.2.2.2.2.2.2.2.2.1 ex1.2.2.2.2.2.2.2.2.2.2.2.2.2.2.2.1 ex1.2.2.2.2.2.2.2.2.2.2.2.2.2.2.2.2.1 ex1.2.2.2.2.2.2.2.2.2.2.2.2.2.2.2.2.2.1 ex1.2.2.2.2.2.2.2.2.2.2.2.2.2.2.2.2.2.2.1 ex1.2.2.2.2.2.2.2.2.2.2.2.2.2.2.2.2.2.2.2.1 ex1.2.2.2.2.2.2.2.2.2.2.2.2.2.2.2.2.2.2.2.2.1 ex2.2.2.2.2.2.2.1, ex1.2.2.2.2.2.2.2.2.2.1.trans (Eq.trans hrel.2.2.2.1 ex2.2.2.2.2.1.symm), ex1.2.2.2.2.2.2.2.2.1.trans (Eq.trans hrel.2.2.2.2.1 ex2.2.2.2.1.symm), trivial⟩
set_option maxHeartbeats 4000000 in
set_option maxRecDepth 100000 in
theorem law_26 (l : Launch) (D : va_G) (cA : Nat → ClassId) (xa ma : Nat) (a : Nat → Nat) (b : Nat → Nat) (i : Nat → Int32) (f : Nat → Nat → Int32) (o : Nat → Option Nat) (pl : va_W) (j : Nat → Int32) (g : Nat → Nat → Int32) (t : Nat → Int64) {p : Program} {e : Env} {s : State} {m : MethodId} {below : List Frame} {meth : Method} {c : Code} {b0 L : Nat} {xs : Nat → Int32} {H : Heap} {locs : List Loc} {ls : Array Slot} {n : Nat} (C0 : lw_At p s m meth c b0 L xs) (hE : ms_EV D cA s) (hn : 4 * n + 4 ≤ L) (hL : L ≤ 256) (hP : va_P D vwCl ((ms_WX cA xa a i f o ++ ms_WM cA ma b j g t) ++ pl) H) (hD : va_D (fun q : Nat => s.heap.size ≤ q) ((ms_WX cA xa a i f o ++ ms_WM cA ma b j g t) ++ pl)) (hS : va_S (fun q : Nat => s.heap.size ≤ q) s.heap H locs) (hl : lv_has ls 4 [(3, .int (nI (4 * n))), (2, .ref ma), (1, .ref xa), (0, .ref b0)]) (hB : ms_BX i f) (hM : ms_BM j g t) (hq : ms_hq cA o pl) (hrel : ms_rel i f j g) (kk : ∀ (a : Nat → Nat) (i : Nat → Int32) (f : Nat → Nat → Int32) (o : Nat → Option Nat) (pl : va_W) (j : Nat → Int32) (g : Nat → Nat → Int32) (t : Nat → Int64) (H : Heap) (locs : List Loc) (ls : Array Slot), va_P D vwCl ((ms_WX cA xa a i f o ++ ms_WM cA ma b j g t) ++ pl) H → va_D (fun q : Nat => s.heap.size ≤ q) ((ms_WX cA xa a i f o ++ ms_WM cA ma b j g t) ++ pl) → va_S (fun q : Nat => s.heap.size ≤ q) s.heap H locs → lv_has ls 4 [(3, .int (nI (4 * n))), (2, .ref ma), (1, .ref xa), (0, .ref b0)] → ms_BX i f → ms_BM j g t → ms_hq cA o pl → ms_rel i f j g → W p l e room_1 s m #[Value.ref b0] below meth c H locs (69 + 2 * (n + 1)) (1489 + 15 * (n + 1)) (lw_Z below #[Value.ref b0] s) (F0 m 988 ls [])) : W p l e room_1 s m #[Value.ref b0] below meth c H locs (69 + 2 * n) (1489 + 15 * n) (lw_Z below #[Value.ref b0] s) (F0 m 860 ls []) := by
  obtain ⟨hx, hb, hr, hml, hown, hts0, hX, hbl, hlocks, hgv⟩ := id C0
  have hb : c.code = cL_law := hb
  have hown : s.vm.findClass RL = some m.cls := hown
  have hts : ∀ w ∈ wsL_law, w.before #[Value.ref b0] s = true := fun w h => hts0 w (wsL_law_in w h)
  have hA : ∀ q : Nat, s.heap.size ≤ q → (fun q : Nat => s.heap.size ≤ q) q := fun _ h => h
  have hbA : ¬ (fun q : Nat => s.heap.size ≤ q) b0 := Nat.not_le.mpr hbl
  refine lv_aload_n hx hb dL_law_860 rfl (lv_at hl 2 rfl) ?_
  refine lv_aload_n hx hb dL_law_861 rfl (lv_at hl 3 rfl) ?_
  refine lv_iload_n hx hb dL_law_862 rfl (lv_at hl 0 rfl) ?_
  refine lv_iconst (v := 1) hx hb dL_law_863 (by decide) ?_
  refine lv_iadd hx hb dL_law_864 ?_
  refine ms_eqi (y := nI (4 * n + 1)) (nI_add (4 * n) 1) ?_
  refine ms_sld hx hb hX hbl hbA hS (4 * n + 1) rfl (by omega) (by omega) dL_law_865 ?_
  refine lv_aload_n hx hb dL_law_866 rfl (lv_at hl 3 rfl) ?_
  refine lv_iload_n hx hb dL_law_867 rfl (lv_at hl 0 rfl) ?_
  refine lv_iconst (v := 2) hx hb dL_law_868 (by decide) ?_
  refine lv_iadd hx hb dL_law_869 ?_
  refine ms_eqi (y := nI (4 * n + 2)) (nI_add (4 * n) 2) ?_
  refine ms_sld hx hb hX hbl hbA hS (4 * n + 2) rfl (by omega) (by omega) dL_law_870 ?_
  refine ms_pVi (qc := (RX10, TX10, 12)) (wc := ms_WX cA xa a i f o) (wr := ms_WM cA ma b j g t) (w1 := fun (u : ((Nat → Nat) × (Nat → Int32) × (Nat → Nat → Int32) × (Nat → Option Nat) × va_W)) => ms_WX cA xa u.1 u.2.1 u.2.2.1 u.2.2.2.1) (p1 := fun (u : ((Nat → Nat) × (Nat → Int32) × (Nat → Nat → Int32) × (Nat → Option Nat) × va_W)) => u.2.2.2.2) ⟨hx, hb, hml, hown, hts⟩ hE (wX10_write l D cA xa a i f o pl (xs (4 * n + 1)) (xs (4 * n + 2))  hB hq) (cwV 2 hts gL_law_X10_write rfl rfl rfl (by decide +kernel) ⟨Nat.le_of_ble_eq_true rfl, Nat.le_of_ble_eq_true rfl⟩) hP hD hS hA [0, 1, 2, 3, 4, 5, 6, 7, 8, 9, 10, 11, 12, 13, 14, 15, 16, 17, 18, 19, 20, 21, 22, 23, 24, 25, 26, 27, 28, 29, 30, 31, 32, 33, 34, 35, 36, 37, 38, 39, 40, 41, 42, 43, 44, 45, 46, 47, 48, 49] [50, 51, 52, 53, 54, 55, 56, 57, 58, 59, 60, 61, 62, 63, 64, 65, 66, 67, 68] rfl rfl rfl rfl (by decide) 0 10 rfl rfl rfl hl.1 rfl (Nat.le_of_ble_eq_true rfl) dL_law_871 ⟨Nat.le_trans (show 69 + 2 * n + 0 ≤ 600 by omega) (Nat.le_of_ble_eq_true rfl), Nat.le_trans (show 1489 + 15 * n + 0 ≤ 6000 by omega) (Nat.le_of_ble_eq_true rfl)⟩ (fun r1 u2 H locs hp hP hD hS => ?_)
  obtain ⟨hB1, hq1, ex1⟩ := hp
  have hP : va_P D vwCl ((ms_WM cA ma b j g t ++ ms_WX cA xa u2.1 u2.2.1 u2.2.2.1 u2.2.2.2.1) ++ u2.2.2.2.2) H := hP
  have hD : va_D (fun q : Nat => s.heap.size ≤ q) ((ms_WM cA ma b j g t ++ ms_WX cA xa u2.1 u2.2.1 u2.2.2.1 u2.2.2.2.1) ++ u2.2.2.2.2) := hD
  refine lv_pop hx hb dL_law_874 rfl ?_
  refine lv_aload_n hx hb dL_law_875 rfl (lv_at hl 1 rfl) ?_
  refine lv_aload_n hx hb dL_law_876 rfl (lv_at hl 3 rfl) ?_
  refine lv_iload_n hx hb dL_law_877 rfl (lv_at hl 0 rfl) ?_
  refine lv_iconst (v := 1) hx hb dL_law_878 (by decide) ?_
  refine lv_iadd hx hb dL_law_879 ?_
  refine ms_eqi (y := nI (4 * n + 1)) (nI_add (4 * n) 1) ?_
  refine ms_sld hx hb hX hbl hbA hS (4 * n + 1) rfl (by omega) (by omega) dL_law_880 ?_
  refine lv_aload_n hx hb dL_law_881 rfl (lv_at hl 3 rfl) ?_
  refine lv_iload_n hx hb dL_law_882 rfl (lv_at hl 0 rfl) ?_
  refine lv_iconst (v := 2) hx hb dL_law_883 (by decide) ?_
  refine lv_iadd hx hb dL_law_884 ?_
  refine ms_eqi (y := nI (4 * n + 2)) (nI_add (4 * n) 2) ?_
  refine ms_sld hx hb hX hbl hbA hS (4 * n + 2) rfl (by omega) (by omega) dL_law_885 ?_
  refine ms_qVi (qc := (RX11, TX11, 32)) (wc := ms_WM cA ma b j g t) (wr := ms_WX cA xa u2.1 u2.2.1 u2.2.2.1 u2.2.2.2.1) (w1 := fun (u : ((Nat → Int32) × (Nat → Nat → Int32) × (Nat → Int64))) => ms_WM cA ma b u.1 u.2.1 u.2.2) ⟨hx, hb, hml, hown, hts⟩ hE (wX11_write l D cA ma b j g t (xs (4 * n + 1)) (xs (4 * n + 2))  hM) (cwV 2 hts gL_law_X11_write rfl rfl rfl (by decide +kernel) ⟨Nat.le_of_ble_eq_true rfl, Nat.le_of_ble_eq_true rfl⟩) hP hD hS hA [0, 1, 2, 3, 4, 5, 6, 7, 8, 9, 10, 11, 12, 13, 14, 15, 16, 17, 18] [19, 20, 21, 22, 23, 24, 25, 26, 27, 28, 29, 30, 31, 32, 33, 34, 35, 36, 37, 38, 39, 40, 41, 42, 43, 44, 45, 46, 47, 48, 49, 50, 51, 52, 53, 54, 55, 56, 57, 58, 59, 60, 61, 62, 63, 64, 65, 66, 67, 68] rfl rfl rfl rfl (by decide) 0 11 rfl rfl rfl hl.1 rfl (Nat.le_of_ble_eq_true rfl) dL_law_886 ⟨Nat.le_trans (show 69 + 2 * n + 0 + 0 ≤ 600 by omega) (Nat.le_of_ble_eq_true rfl), Nat.le_trans (show 1489 + 15 * n + 0 + 0 ≤ 6000 by omega) (Nat.le_of_ble_eq_true rfl)⟩ (fun r3 u4 H locs hp hP hD hS => ?_)
  obtain ⟨hM1, ex2⟩ := hp
  have hP : va_P D vwCl ((ms_WX cA xa u2.1 u2.2.1 u2.2.2.1 u2.2.2.2.1 ++ ms_WM cA ma b u4.1 u4.2.1 u4.2.2) ++ u2.2.2.2.2) H := hP
  have hD : va_D (fun q : Nat => s.heap.size ≤ q) ((ms_WX cA xa u2.1 u2.2.1 u2.2.2.1 u2.2.2.2.1 ++ ms_WM cA ma b u4.1 u4.2.1 u4.2.2) ++ u2.2.2.2.2) := hD
  refine lv_pop hx hb dL_law_889 rfl ?_
  refine lv_goto (tgt := 988) hx hb dL_law_890 (by decide) ?_
  refine W.widen (k := 69 + 2 * (n + 1)) (n := 1489 + 15 * (n + 1)) (show 69 + 2 * n + 0 + 0 ≤ _ by omega) (show 1489 + 15 * n + 0 + 0 ≤ _ by omega) ?_
  exact kk _ _ _ _ _ _ _ _ _ _ _ hP hD hS hl hB1 hM1 hq1 ⟨ex1.2.1.trans (Eq.trans hrel.1 ex2.2.1.symm), ex1.2.2.2.2.2.2.2.2.2.2.2.1.trans (Eq.trans hrel.2.1 ex2.2.2.2.2.1.symm), mz_elc hrel.2.2.1 ex1.2.2.2.1 ex1.2.2.2.2.1 ex1.2.2.2.2.2.1 ex1.2.2.2.2.2.2.1 ex1.2.2.2.2.2.2.2.1 ex1.2.2.2.2.2.2.2.2.2.2.2.2.1 ex1.2.2.2.2.2.2.2.2.2.2.2.2.2.1 ex1.2.2.2.2.2.2.2.2.2.2.2.2.2.2.1 ex1.2.2.2.2.2.2.2.2.2.2.2.2.2.2.2.1 ex1.2.2.2.2.2.2.2.2.2.2.2.2.2.2.2.2.1 ex1.2.2.2.2.2.2.2.2.2.2.2.2.2.2.2.2.2.1 ex1.2.2.2.2.2.2.2.2.2.2.2.2.2.2.2.2.2.2.1 ex1.2.2.2.2.2.2.2.2.2.2.2.2.2.2.2.2.2.2.2.1 ex2.2.2.2.2.2.1, (mz_wtrel hrel.2.2.1.1.2.2.2.1 hrel.2.2.2.1 ex1.1 ex2.1).2, ex1.2.2.2.2.2.2.2.2.1.trans (Eq.trans hrel.2.2.2.2.1 ex2.2.2.2.1.symm), trivial⟩
set_option maxHeartbeats 4000000 in
set_option maxRecDepth 100000 in
theorem law_27 (l : Launch) (D : va_G) (cA : Nat → ClassId) (xa ma : Nat) (a : Nat → Nat) (b : Nat → Nat) (i : Nat → Int32) (f : Nat → Nat → Int32) (o : Nat → Option Nat) (pl : va_W) (j : Nat → Int32) (g : Nat → Nat → Int32) (t : Nat → Int64) {p : Program} {e : Env} {s : State} {m : MethodId} {below : List Frame} {meth : Method} {c : Code} {b0 L : Nat} {xs : Nat → Int32} {H : Heap} {locs : List Loc} {ls : Array Slot} {n : Nat} (C0 : lw_At p s m meth c b0 L xs) (hE : ms_EV D cA s) (hn : 4 * n + 4 ≤ L) (hL : L ≤ 256) (hP : va_P D vwCl ((ms_WX cA xa a i f o ++ ms_WM cA ma b j g t) ++ pl) H) (hD : va_D (fun q : Nat => s.heap.size ≤ q) ((ms_WX cA xa a i f o ++ ms_WM cA ma b j g t) ++ pl)) (hS : va_S (fun q : Nat => s.heap.size ≤ q) s.heap H locs) (hl : lv_has ls 4 [(3, .int (nI (4 * n))), (2, .ref ma), (1, .ref xa), (0, .ref b0)]) (hB : ms_BX i f) (hM : ms_BM j g t) (hq : ms_hq cA o pl) (hrel : ms_rel i f j g) (kk : ∀ (a : Nat → Nat) (i : Nat → Int32) (f : Nat → Nat → Int32) (o : Nat → Option Nat) (pl : va_W) (j : Nat → Int32) (g : Nat → Nat → Int32) (t : Nat → Int64) (H : Heap) (locs : List Loc) (ls : Array Slot), va_P D vwCl ((ms_WX cA xa a i f o ++ ms_WM cA ma b j g t) ++ pl) H → va_D (fun q : Nat => s.heap.size ≤ q) ((ms_WX cA xa a i f o ++ ms_WM cA ma b j g t) ++ pl) → va_S (fun q : Nat => s.heap.size ≤ q) s.heap H locs → lv_has ls 4 [(3, .int (nI (4 * n))), (2, .ref ma), (1, .ref xa), (0, .ref b0)] → ms_BX i f → ms_BM j g t → ms_hq cA o pl → ms_rel i f j g → W p l e room_1 s m #[Value.ref b0] below meth c H locs (69 + 2 * (n + 1)) (1489 + 15 * (n + 1)) (lw_Z below #[Value.ref b0] s) (F0 m 988 ls [])) : W p l e room_1 s m #[Value.ref b0] below meth c H locs (69 + 2 * n) (1489 + 15 * n) (lw_Z below #[Value.ref b0] s) (F0 m 893 ls []) := by
  obtain ⟨hx, hb, hr, hml, hown, hts0, hX, hbl, hlocks, hgv⟩ := id C0
  have hb : c.code = cL_law := hb
  have hown : s.vm.findClass RL = some m.cls := hown
  have hts : ∀ w ∈ wsL_law, w.before #[Value.ref b0] s = true := fun w h => hts0 w (wsL_law_in w h)
  have hA : ∀ q : Nat, s.heap.size ≤ q → (fun q : Nat => s.heap.size ≤ q) q := fun _ h => h
  have hbA : ¬ (fun q : Nat => s.heap.size ≤ q) b0 := Nat.not_le.mpr hbl
  refine lv_aload_n hx hb dL_law_893 rfl (lv_at hl 2 rfl) ?_
  refine ms_pVi (qc := (RX10, TX10, 12)) (wc := ms_WX cA xa a i f o) (wr := ms_WM cA ma b j g t) (w1 := fun (u : ((Nat → Nat) × (Nat → Int32) × (Nat → Nat → Int32) × (Nat → Option Nat) × va_W)) => ms_WX cA xa u.1 u.2.1 u.2.2.1 u.2.2.2.1) (p1 := fun (u : ((Nat → Nat) × (Nat → Int32) × (Nat → Nat → Int32) × (Nat → Option Nat) × va_W)) => u.2.2.2.2) ⟨hx, hb, hml, hown, hts⟩ hE (wX10_tear l D cA xa a i f o pl   hB hq) (cwV 0 hts gL_law_X10_tear rfl rfl rfl (by decide +kernel) ⟨Nat.le_of_ble_eq_true rfl, Nat.le_of_ble_eq_true rfl⟩) hP hD hS hA [0, 1, 2, 3, 4, 5, 6, 7, 8, 9, 10, 11, 12, 13, 14, 15, 16, 17, 18, 19, 20, 21, 22, 23, 24, 25, 26, 27, 28, 29, 30, 31, 32, 33, 34, 35, 36, 37, 38, 39, 40, 41, 42, 43, 44, 45, 46, 47, 48, 49] [50, 51, 52, 53, 54, 55, 56, 57, 58, 59, 60, 61, 62, 63, 64, 65, 66, 67, 68] rfl rfl rfl rfl (by decide) 0 10 rfl rfl rfl hl.1 rfl (Nat.le_of_ble_eq_true rfl) dL_law_894 ⟨Nat.le_trans (show 69 + 2 * n + 0 ≤ 600 by omega) (Nat.le_of_ble_eq_true rfl), Nat.le_trans (show 1489 + 15 * n + 0 ≤ 6000 by omega) (Nat.le_of_ble_eq_true rfl)⟩ (fun r1 u2 H locs hp hP hD hS => ?_)
  obtain ⟨hB1, hq1, ex1⟩ := hp
  have hP : va_P D vwCl ((ms_WM cA ma b j g t ++ ms_WX cA xa u2.1 u2.2.1 u2.2.2.1 u2.2.2.2.1) ++ u2.2.2.2.2) H := hP
  have hD : va_D (fun q : Nat => s.heap.size ≤ q) ((ms_WM cA ma b j g t ++ ms_WX cA xa u2.1 u2.2.1 u2.2.2.1 u2.2.2.2.1) ++ u2.2.2.2.2) := hD
  refine lv_pop hx hb dL_law_897 rfl ?_
  refine lv_aload_n hx hb dL_law_898 rfl (lv_at hl 1 rfl) ?_
  refine ms_qVi (qc := (RX11, TX11, 32)) (wc := ms_WM cA ma b j g t) (wr := ms_WX cA xa u2.1 u2.2.1 u2.2.2.1 u2.2.2.2.1) (w1 := fun (u : ((Nat → Int32) × (Nat → Nat → Int32) × (Nat → Int64))) => ms_WM cA ma b u.1 u.2.1 u.2.2) ⟨hx, hb, hml, hown, hts⟩ hE (wX11_tear l D cA ma b j g t   hM) (cwV 0 hts gL_law_X11_tear rfl rfl rfl (by decide +kernel) ⟨Nat.le_of_ble_eq_true rfl, Nat.le_of_ble_eq_true rfl⟩) hP hD hS hA [0, 1, 2, 3, 4, 5, 6, 7, 8, 9, 10, 11, 12, 13, 14, 15, 16, 17, 18] [19, 20, 21, 22, 23, 24, 25, 26, 27, 28, 29, 30, 31, 32, 33, 34, 35, 36, 37, 38, 39, 40, 41, 42, 43, 44, 45, 46, 47, 48, 49, 50, 51, 52, 53, 54, 55, 56, 57, 58, 59, 60, 61, 62, 63, 64, 65, 66, 67, 68] rfl rfl rfl rfl (by decide) 0 11 rfl rfl rfl hl.1 rfl (Nat.le_of_ble_eq_true rfl) dL_law_899 ⟨Nat.le_trans (show 69 + 2 * n + 0 + 0 ≤ 600 by omega) (Nat.le_of_ble_eq_true rfl), Nat.le_trans (show 1489 + 15 * n + 0 + 0 ≤ 6000 by omega) (Nat.le_of_ble_eq_true rfl)⟩ (fun r3 u4 H locs hp hP hD hS => ?_)
  obtain ⟨hM1, ex2⟩ := hp
  have hP : va_P D vwCl ((ms_WX cA xa u2.1 u2.2.1 u2.2.2.1 u2.2.2.2.1 ++ ms_WM cA ma b u4.1 u4.2.1 u4.2.2) ++ u2.2.2.2.2) H := hP
  have hD : va_D (fun q : Nat => s.heap.size ≤ q) ((ms_WX cA xa u2.1 u2.2.1 u2.2.2.1 u2.2.2.2.1 ++ ms_WM cA ma b u4.1 u4.2.1 u4.2.2) ++ u2.2.2.2.2) := hD
  refine lv_pop hx hb dL_law_902 rfl ?_
  refine lv_goto (tgt := 988) hx hb dL_law_903 (by decide) ?_
  refine W.widen (k := 69 + 2 * (n + 1)) (n := 1489 + 15 * (n + 1)) (show 69 + 2 * n + 0 + 0 ≤ _ by omega) (show 1489 + 15 * n + 0 + 0 ≤ _ by omega) ?_
  exact kk _ _ _ _ _ _ _ _ _ _ _ hP hD hS hl hB1 hM1 hq1 ⟨ex1.2.1.trans (Eq.trans hrel.1 ex2.2.1.symm), ex1.2.2.2.2.2.2.2.2.2.2.1.trans (Eq.trans hrel.2.1 ex2.2.2.2.1.symm), mz_elc hrel.2.2.1 ex1.2.2.2.1 ex1.2.2.2.2.1 ex1.2.2.2.2.2.1 ex1.2.2.2.2.2.2.1 ex1.2.2.2.2.2.2.2.1 ex1.2.2.2.2.2.2.2.2.2.2.2.1 ex1.2.2.2.2.2.2.2.2.2.2.2.2.1 ex1.2.2.2.2.2.2.2.2.2.2.2.2.2.1 ex1.2.2.2.2.2.2.2.2.2.2.2.2.2.2.1 ex1.2.2.2.2.2.2.2.2.2.2.2.2.2.2.2.1 ex1.2.2.2.2.2.2.2.2.2.2.2.2.2.2.2.2.1 ex1.2.2.2.2.2.2.2.2.2.2.2.2.2.2.2.2.2.1 ex1.2.2.2.2.2.2.2.2.2.2.2.2.2.2.2.2.2.2.1 ex2.2.2.2.2.1, ex1.1.2.2.2.trans ex2.1.2.2.2.symm, ex1.1.2.2.1.trans ex2.1.2.2.1.symm, trivial⟩
set_option maxHeartbeats 4000000 in
set_option maxRecDepth 100000 in
theorem law_28 (l : Launch) (D : va_G) (cA : Nat → ClassId) (xa ma : Nat) (a : Nat → Nat) (b : Nat → Nat) (i : Nat → Int32) (f : Nat → Nat → Int32) (o : Nat → Option Nat) (pl : va_W) (j : Nat → Int32) (g : Nat → Nat → Int32) (t : Nat → Int64) {p : Program} {e : Env} {s : State} {m : MethodId} {below : List Frame} {meth : Method} {c : Code} {b0 L : Nat} {xs : Nat → Int32} {H : Heap} {locs : List Loc} {ls : Array Slot} {n : Nat} (C0 : lw_At p s m meth c b0 L xs) (hE : ms_EV D cA s) (hn : 4 * n + 4 ≤ L) (hL : L ≤ 256) (hP : va_P D vwCl ((ms_WX cA xa a i f o ++ ms_WM cA ma b j g t) ++ pl) H) (hD : va_D (fun q : Nat => s.heap.size ≤ q) ((ms_WX cA xa a i f o ++ ms_WM cA ma b j g t) ++ pl)) (hS : va_S (fun q : Nat => s.heap.size ≤ q) s.heap H locs) (hl : lv_has ls 4 [(3, .int (nI (4 * n))), (2, .ref ma), (1, .ref xa), (0, .ref b0)]) (hB : ms_BX i f) (hM : ms_BM j g t) (hq : ms_hq cA o pl) (hrel : ms_rel i f j g) (kk : ∀ (a : Nat → Nat) (i : Nat → Int32) (f : Nat → Nat → Int32) (o : Nat → Option Nat) (pl : va_W) (j : Nat → Int32) (g : Nat → Nat → Int32) (t : Nat → Int64) (H : Heap) (locs : List Loc) (ls : Array Slot), va_P D vwCl ((ms_WX cA xa a i f o ++ ms_WM cA ma b j g t) ++ pl) H → va_D (fun q : Nat => s.heap.size ≤ q) ((ms_WX cA xa a i f o ++ ms_WM cA ma b j g t) ++ pl) → va_S (fun q : Nat => s.heap.size ≤ q) s.heap H locs → lv_has ls 4 [(3, .int (nI (4 * n))), (2, .ref ma), (1, .ref xa), (0, .ref b0)] → ms_BX i f → ms_BM j g t → ms_hq cA o pl → ms_rel i f j g → W p l e room_1 s m #[Value.ref b0] below meth c H locs (69 + 2 * (n + 1)) (1489 + 15 * (n + 1)) (lw_Z below #[Value.ref b0] s) (F0 m 988 ls [])) : W p l e room_1 s m #[Value.ref b0] below meth c H locs (69 + 2 * n) (1489 + 15 * n) (lw_Z below #[Value.ref b0] s) (F0 m 906 ls []) := by
  obtain ⟨hx, hb, hr, hml, hown, hts0, hX, hbl, hlocks, hgv⟩ := id C0
  have hb : c.code = cL_law := hb
  have hown : s.vm.findClass RL = some m.cls := hown
  have hts : ∀ w ∈ wsL_law, w.before #[Value.ref b0] s = true := fun w h => hts0 w (wsL_law_in w h)
  have hA : ∀ q : Nat, s.heap.size ≤ q → (fun q : Nat => s.heap.size ≤ q) q := fun _ h => h
  have hbA : ¬ (fun q : Nat => s.heap.size ≤ q) b0 := Nat.not_le.mpr hbl
  refine lv_aload_n hx hb dL_law_906 rfl (lv_at hl 2 rfl) ?_
  refine ms_pVi (qc := (RX10, TX10, 12)) (wc := ms_WX cA xa a i f o) (wr := ms_WM cA ma b j g t) (w1 := fun (u : ((Nat → Nat) × (Nat → Int32) × (Nat → Nat → Int32) × (Nat → Option Nat) × va_W)) => ms_WX cA xa u.1 u.2.1 u.2.2.1 u.2.2.2.1) (p1 := fun (u : ((Nat → Nat) × (Nat → Int32) × (Nat → Nat → Int32) × (Nat → Option Nat) × va_W)) => u.2.2.2.2) ⟨hx, hb, hml, hown, hts⟩ hE (wX10_judge l D cA xa a i f o pl   hB hq) (cwV 0 hts gL_law_X10_judge rfl rfl rfl (by decide +kernel) ⟨Nat.le_of_ble_eq_true rfl, Nat.le_of_ble_eq_true rfl⟩) hP hD hS hA [0, 1, 2, 3, 4, 5, 6, 7, 8, 9, 10, 11, 12, 13, 14, 15, 16, 17, 18, 19, 20, 21, 22, 23, 24, 25, 26, 27, 28, 29, 30, 31, 32, 33, 34, 35, 36, 37, 38, 39, 40, 41, 42, 43, 44, 45, 46, 47, 48, 49] [50, 51, 52, 53, 54, 55, 56, 57, 58, 59, 60, 61, 62, 63, 64, 65, 66, 67, 68] rfl rfl rfl rfl (by decide) 0 10 rfl rfl rfl hl.1 rfl (Nat.le_of_ble_eq_true rfl) dL_law_907 ⟨Nat.le_trans (show 69 + 2 * n + 0 ≤ 600 by omega) (Nat.le_of_ble_eq_true rfl), Nat.le_trans (show 1489 + 15 * n + 0 ≤ 6000 by omega) (Nat.le_of_ble_eq_true rfl)⟩ (fun r1 u2 H locs hp hP hD hS => ?_)
  obtain ⟨hB1, hq1, ex1⟩ := hp
  have hP : va_P D vwCl ((ms_WM cA ma b j g t ++ ms_WX cA xa u2.1 u2.2.1 u2.2.2.1 u2.2.2.2.1) ++ u2.2.2.2.2) H := hP
  have hD : va_D (fun q : Nat => s.heap.size ≤ q) ((ms_WM cA ma b j g t ++ ms_WX cA xa u2.1 u2.2.1 u2.2.2.1 u2.2.2.2.1) ++ u2.2.2.2.2) := hD
  refine lv_pop hx hb dL_law_910 rfl ?_
  refine lv_aload_n hx hb dL_law_911 rfl (lv_at hl 1 rfl) ?_
  refine ms_qVi (qc := (RX11, TX11, 32)) (wc := ms_WM cA ma b j g t) (wr := ms_WX cA xa u2.1 u2.2.1 u2.2.2.1 u2.2.2.2.1) (w1 := fun (u : ((Nat → Int32) × (Nat → Nat → Int32) × (Nat → Int64))) => ms_WM cA ma b u.1 u.2.1 u.2.2) ⟨hx, hb, hml, hown, hts⟩ hE (wX11_judge l D cA ma b j g t   hM) (cwV 0 hts gL_law_X11_judge rfl rfl rfl (by decide +kernel) ⟨Nat.le_of_ble_eq_true rfl, Nat.le_of_ble_eq_true rfl⟩) hP hD hS hA [0, 1, 2, 3, 4, 5, 6, 7, 8, 9, 10, 11, 12, 13, 14, 15, 16, 17, 18] [19, 20, 21, 22, 23, 24, 25, 26, 27, 28, 29, 30, 31, 32, 33, 34, 35, 36, 37, 38, 39, 40, 41, 42, 43, 44, 45, 46, 47, 48, 49, 50, 51, 52, 53, 54, 55, 56, 57, 58, 59, 60, 61, 62, 63, 64, 65, 66, 67, 68] rfl rfl rfl rfl (by decide) 0 11 rfl rfl rfl hl.1 rfl (Nat.le_of_ble_eq_true rfl) dL_law_912 ⟨Nat.le_trans (show 69 + 2 * n + 0 + 0 ≤ 600 by omega) (Nat.le_of_ble_eq_true rfl), Nat.le_trans (show 1489 + 15 * n + 0 + 0 ≤ 6000 by omega) (Nat.le_of_ble_eq_true rfl)⟩ (fun r3 u4 H locs hp hP hD hS => ?_)
  obtain ⟨hM1, ex2⟩ := hp
  have hP : va_P D vwCl ((ms_WX cA xa u2.1 u2.2.1 u2.2.2.1 u2.2.2.2.1 ++ ms_WM cA ma b u4.1 u4.2.1 u4.2.2) ++ u2.2.2.2.2) H := hP
  have hD : va_D (fun q : Nat => s.heap.size ≤ q) ((ms_WX cA xa u2.1 u2.2.1 u2.2.2.1 u2.2.2.2.1 ++ ms_WM cA ma b u4.1 u4.2.1 u4.2.2) ++ u2.2.2.2.2) := hD
  refine lv_pop hx hb dL_law_915 rfl ?_
  refine lv_goto (tgt := 988) hx hb dL_law_916 (by decide) ?_
  refine W.widen (k := 69 + 2 * (n + 1)) (n := 1489 + 15 * (n + 1)) (show 69 + 2 * n + 0 + 0 ≤ _ by omega) (show 1489 + 15 * n + 0 + 0 ≤ _ by omega) ?_
  exact kk _ _ _ _ _ _ _ _ _ _ _ hP hD hS hl hB1 hM1 hq1 ⟨ex1.1.trans (Eq.trans hrel.1 ex2.1.symm), ex1.2.2.2.2.2.2.2.2.2.2.2.1.trans (Eq.trans hrel.2.1 ex2.2.2.2.2.1.symm), mz_elc hrel.2.2.1 ex1.2.2.1 ex1.2.2.2.1 ex1.2.2.2.2.1 ex1.2.2.2.2.2.1 ex1.2.2.2.2.2.2.1 ex1.2.2.2.2.2.2.2.2.2.2.2.2.1 ex1.2.2.2.2.2.2.2.2.2.2.2.2.2.1 ex1.2.2.2.2.2.2.2.2.2.2.2.2.2.2.1 ex1.2.2.2.2.2.2.2.2.2.2.2.2.2.2.2.1 ex1.2.2.2.2.2.2.2.2.2.2.2.2.2.2.2.2.1 ex1.2.2.2.2.2.2.2.2.2.2.2.2.2.2.2.2.2.1 ex1.2.2.2.2.2.2.2.2.2.2.2.2.2.2.2.2.2.2.1 ex1.2.2.2.2.2.2.2.2.2.2.2.2.2.2.2.2.2.2.2.1 ex2.2.2.2.2.2.1, ex1.2.2.2.2.2.2.2.2.1.trans (Eq.trans hrel.2.2.2.1 ex2.2.2.2.1.symm), ex1.2.2.2.2.2.2.2.1.trans (Eq.trans hrel.2.2.2.2.1 ex2.2.2.1.symm), trivial⟩
set_option maxHeartbeats 4000000 in
set_option maxRecDepth 100000 in
theorem law_29 (l : Launch) (D : va_G) (cA : Nat → ClassId) (xa ma : Nat) (a : Nat → Nat) (b : Nat → Nat) (i : Nat → Int32) (f : Nat → Nat → Int32) (o : Nat → Option Nat) (pl : va_W) (j : Nat → Int32) (g : Nat → Nat → Int32) (t : Nat → Int64) {p : Program} {e : Env} {s : State} {m : MethodId} {below : List Frame} {meth : Method} {c : Code} {b0 L : Nat} {xs : Nat → Int32} {H : Heap} {locs : List Loc} {ls : Array Slot} {n : Nat} (C0 : lw_At p s m meth c b0 L xs) (hE : ms_EV D cA s) (hn : 4 * n + 4 ≤ L) (hL : L ≤ 256) (hP : va_P D vwCl ((ms_WX cA xa a i f o ++ ms_WM cA ma b j g t) ++ pl) H) (hD : va_D (fun q : Nat => s.heap.size ≤ q) ((ms_WX cA xa a i f o ++ ms_WM cA ma b j g t) ++ pl)) (hS : va_S (fun q : Nat => s.heap.size ≤ q) s.heap H locs) (hl : lv_has ls 4 [(3, .int (nI (4 * n))), (2, .ref ma), (1, .ref xa), (0, .ref b0)]) (hB : ms_BX i f) (hM : ms_BM j g t) (hq : ms_hq cA o pl) (hrel : ms_rel i f j g) (kk : ∀ (a : Nat → Nat) (i : Nat → Int32) (f : Nat → Nat → Int32) (o : Nat → Option Nat) (pl : va_W) (j : Nat → Int32) (g : Nat → Nat → Int32) (t : Nat → Int64) (H : Heap) (locs : List Loc) (ls : Array Slot), va_P D vwCl ((ms_WX cA xa a i f o ++ ms_WM cA ma b j g t) ++ pl) H → va_D (fun q : Nat => s.heap.size ≤ q) ((ms_WX cA xa a i f o ++ ms_WM cA ma b j g t) ++ pl) → va_S (fun q : Nat => s.heap.size ≤ q) s.heap H locs → lv_has ls 4 [(3, .int (nI (4 * n))), (2, .ref ma), (1, .ref xa), (0, .ref b0)] → ms_BX i f → ms_BM j g t → ms_hq cA o pl → ms_rel i f j g → W p l e room_1 s m #[Value.ref b0] below meth c H locs (69 + 2 * (n + 1)) (1489 + 15 * (n + 1)) (lw_Z below #[Value.ref b0] s) (F0 m 988 ls [])) : W p l e room_1 s m #[Value.ref b0] below meth c H locs (69 + 2 * n) (1489 + 15 * n) (lw_Z below #[Value.ref b0] s) (F0 m 919 ls []) := by
  obtain ⟨hx, hb, hr, hml, hown, hts0, hX, hbl, hlocks, hgv⟩ := id C0
  have hb : c.code = cL_law := hb
  have hown : s.vm.findClass RL = some m.cls := hown
  have hts : ∀ w ∈ wsL_law, w.before #[Value.ref b0] s = true := fun w h => hts0 w (wsL_law_in w h)
  have hA : ∀ q : Nat, s.heap.size ≤ q → (fun q : Nat => s.heap.size ≤ q) q := fun _ h => h
  have hbA : ¬ (fun q : Nat => s.heap.size ≤ q) b0 := Nat.not_le.mpr hbl
  refine lv_aload_n hx hb dL_law_919 rfl (lv_at hl 2 rfl) ?_
  refine lv_aload_n hx hb dL_law_920 rfl (lv_at hl 3 rfl) ?_
  refine lv_iload_n hx hb dL_law_921 rfl (lv_at hl 0 rfl) ?_
  refine lv_iconst (v := 1) hx hb dL_law_922 (by decide) ?_
  refine lv_iadd hx hb dL_law_923 ?_
  refine ms_eqi (y := nI (4 * n + 1)) (nI_add (4 * n) 1) ?_
  refine ms_sld hx hb hX hbl hbA hS (4 * n + 1) rfl (by omega) (by omega) dL_law_924 ?_
  refine ms_pVi (qc := (RX10, TX10, 12)) (wc := ms_WX cA xa a i f o) (wr := ms_WM cA ma b j g t) (w1 := fun (u : ((Nat → Nat) × (Nat → Int32) × (Nat → Nat → Int32) × (Nat → Option Nat) × va_W)) => ms_WX cA xa u.1 u.2.1 u.2.2.1 u.2.2.2.1) (p1 := fun (u : ((Nat → Nat) × (Nat → Int32) × (Nat → Nat → Int32) × (Nat → Option Nat) × va_W)) => u.2.2.2.2) ⟨hx, hb, hml, hown, hts⟩ hE (wX10_seed l D cA xa a i f o pl (xs (4 * n + 1))  hB hq) (cwV 1 hts gL_law_X10_seed rfl rfl rfl (by decide +kernel) ⟨Nat.le_of_ble_eq_true rfl, Nat.le_of_ble_eq_true rfl⟩) hP hD hS hA [0, 1, 2, 3, 4, 5, 6, 7, 8, 9, 10, 11, 12, 13, 14, 15, 16, 17, 18, 19, 20, 21, 22, 23, 24, 25, 26, 27, 28, 29, 30, 31, 32, 33, 34, 35, 36, 37, 38, 39, 40, 41, 42, 43, 44, 45, 46, 47, 48, 49] [50, 51, 52, 53, 54, 55, 56, 57, 58, 59, 60, 61, 62, 63, 64, 65, 66, 67, 68] rfl rfl rfl rfl (by decide) 0 10 rfl rfl rfl hl.1 rfl (Nat.le_of_ble_eq_true rfl) dL_law_925 ⟨Nat.le_trans (show 69 + 2 * n + 0 ≤ 600 by omega) (Nat.le_of_ble_eq_true rfl), Nat.le_trans (show 1489 + 15 * n + 0 ≤ 6000 by omega) (Nat.le_of_ble_eq_true rfl)⟩ (fun r1 u2 H locs hp hP hD hS => ?_)
  obtain ⟨hB1, hq1, ex1⟩ := hp
  have hP : va_P D vwCl ((ms_WM cA ma b j g t ++ ms_WX cA xa u2.1 u2.2.1 u2.2.2.1 u2.2.2.2.1) ++ u2.2.2.2.2) H := hP
  have hD : va_D (fun q : Nat => s.heap.size ≤ q) ((ms_WM cA ma b j g t ++ ms_WX cA xa u2.1 u2.2.1 u2.2.2.1 u2.2.2.2.1) ++ u2.2.2.2.2) := hD
  refine lv_pop hx hb dL_law_928 rfl ?_
  refine lv_aload_n hx hb dL_law_929 rfl (lv_at hl 1 rfl) ?_
  refine lv_aload_n hx hb dL_law_930 rfl (lv_at hl 3 rfl) ?_
  refine lv_iload_n hx hb dL_law_931 rfl (lv_at hl 0 rfl) ?_
  refine lv_iconst (v := 1) hx hb dL_law_932 (by decide) ?_
  refine lv_iadd hx hb dL_law_933 ?_
  refine ms_eqi (y := nI (4 * n + 1)) (nI_add (4 * n) 1) ?_
  refine ms_sld hx hb hX hbl hbA hS (4 * n + 1) rfl (by omega) (by omega) dL_law_934 ?_
  refine ms_qVi (qc := (RX11, TX11, 32)) (wc := ms_WM cA ma b j g t) (wr := ms_WX cA xa u2.1 u2.2.1 u2.2.2.1 u2.2.2.2.1) (w1 := fun (u : ((Nat → Int32) × (Nat → Nat → Int32) × (Nat → Int64))) => ms_WM cA ma b u.1 u.2.1 u.2.2) ⟨hx, hb, hml, hown, hts⟩ hE (wX11_seed l D cA ma b j g t (xs (4 * n + 1))  hM) (cwV 1 hts gL_law_X11_seed rfl rfl rfl (by decide +kernel) ⟨Nat.le_of_ble_eq_true rfl, Nat.le_of_ble_eq_true rfl⟩) hP hD hS hA [0, 1, 2, 3, 4, 5, 6, 7, 8, 9, 10, 11, 12, 13, 14, 15, 16, 17, 18] [19, 20, 21, 22, 23, 24, 25, 26, 27, 28, 29, 30, 31, 32, 33, 34, 35, 36, 37, 38, 39, 40, 41, 42, 43, 44, 45, 46, 47, 48, 49, 50, 51, 52, 53, 54, 55, 56, 57, 58, 59, 60, 61, 62, 63, 64, 65, 66, 67, 68] rfl rfl rfl rfl (by decide) 0 11 rfl rfl rfl hl.1 rfl (Nat.le_of_ble_eq_true rfl) dL_law_935 ⟨Nat.le_trans (show 69 + 2 * n + 0 + 0 ≤ 600 by omega) (Nat.le_of_ble_eq_true rfl), Nat.le_trans (show 1489 + 15 * n + 0 + 0 ≤ 6000 by omega) (Nat.le_of_ble_eq_true rfl)⟩ (fun r3 u4 H locs hp hP hD hS => ?_)
  obtain ⟨hM1, ex2⟩ := hp
  have hP : va_P D vwCl ((ms_WX cA xa u2.1 u2.2.1 u2.2.2.1 u2.2.2.2.1 ++ ms_WM cA ma b u4.1 u4.2.1 u4.2.2) ++ u2.2.2.2.2) H := hP
  have hD : va_D (fun q : Nat => s.heap.size ≤ q) ((ms_WX cA xa u2.1 u2.2.1 u2.2.2.1 u2.2.2.2.1 ++ ms_WM cA ma b u4.1 u4.2.1 u4.2.2) ++ u2.2.2.2.2) := hD
  refine lv_pop hx hb dL_law_938 rfl ?_
  refine lv_goto (tgt := 988) hx hb dL_law_939 (by decide) ?_
  refine W.widen (k := 69 + 2 * (n + 1)) (n := 1489 + 15 * (n + 1)) (show 69 + 2 * n + 0 + 0 ≤ _ by omega) (show 1489 + 15 * n + 0 + 0 ≤ _ by omega) ?_
  exact kk _ _ _ _ _ _ _ _ _ _ _ hP hD hS hl hB1 hM1 hq1 ⟨ex1.1.trans (Eq.trans hrel.1 ex2.1.symm), ex1.2.2.2.2.2.2.2.2.2.2.2.1.trans (Eq.trans hrel.2.1 ex2.2.2.2.2.1.symm), mz_elc hrel.2.2.1 ex1.2.2.1 ex1.2.2.2.1 ex1.2.2.2.2.1 ex1.2.2.2.2.2.1 ex1.2.2.2.2.2.2.1 ex1.2.2.2.2.2.2.2.2.2.2.2.2.1 ex1.2.2.2.2.2.2.2.2.2.2.2.2.2.1 ex1.2.2.2.2.2.2.2.2.2.2.2.2.2.2.1 ex1.2.2.2.2.2.2.2.2.2.2.2.2.2.2.2.1 ex1.2.2.2.2.2.2.2.2.2.2.2.2.2.2.2.2.1 ex1.2.2.2.2.2.2.2.2.2.2.2.2.2.2.2.2.2.1 ex1.2.2.2.2.2.2.2.2.2.2.2.2.2.2.2.2.2.2.1 ex1.2.2.2.2.2.2.2.2.2.2.2.2.2.2.2.2.2.2.2.1 ex2.2.2.2.2.2.1, ex1.2.2.2.2.2.2.2.2.1.trans (Eq.trans hrel.2.2.2.1 ex2.2.2.2.1.symm), ex1.2.2.2.2.2.2.2.1.trans (Eq.trans hrel.2.2.2.2.1 ex2.2.2.1.symm), trivial⟩
set_option maxHeartbeats 4000000 in
set_option maxRecDepth 100000 in
theorem law_30 (l : Launch) (D : va_G) (cA : Nat → ClassId) (xa ma : Nat) (a : Nat → Nat) (b : Nat → Nat) (i : Nat → Int32) (f : Nat → Nat → Int32) (o : Nat → Option Nat) (pl : va_W) (j : Nat → Int32) (g : Nat → Nat → Int32) (t : Nat → Int64) {p : Program} {e : Env} {s : State} {m : MethodId} {below : List Frame} {meth : Method} {c : Code} {b0 L : Nat} {xs : Nat → Int32} {H : Heap} {locs : List Loc} {ls : Array Slot} {n : Nat} (C0 : lw_At p s m meth c b0 L xs) (hE : ms_EV D cA s) (hn : 4 * n + 4 ≤ L) (hL : L ≤ 256) (hP : va_P D vwCl ((ms_WX cA xa a i f o ++ ms_WM cA ma b j g t) ++ pl) H) (hD : va_D (fun q : Nat => s.heap.size ≤ q) ((ms_WX cA xa a i f o ++ ms_WM cA ma b j g t) ++ pl)) (hS : va_S (fun q : Nat => s.heap.size ≤ q) s.heap H locs) (hl : lv_has ls 4 [(3, .int (nI (4 * n))), (2, .ref ma), (1, .ref xa), (0, .ref b0)]) (hB : ms_BX i f) (hM : ms_BM j g t) (hq : ms_hq cA o pl) (hrel : ms_rel i f j g) (kk : ∀ (a : Nat → Nat) (i : Nat → Int32) (f : Nat → Nat → Int32) (o : Nat → Option Nat) (pl : va_W) (j : Nat → Int32) (g : Nat → Nat → Int32) (t : Nat → Int64) (H : Heap) (locs : List Loc) (ls : Array Slot), va_P D vwCl ((ms_WX cA xa a i f o ++ ms_WM cA ma b j g t) ++ pl) H → va_D (fun q : Nat => s.heap.size ≤ q) ((ms_WX cA xa a i f o ++ ms_WM cA ma b j g t) ++ pl) → va_S (fun q : Nat => s.heap.size ≤ q) s.heap H locs → lv_has ls 4 [(3, .int (nI (4 * n))), (2, .ref ma), (1, .ref xa), (0, .ref b0)] → ms_BX i f → ms_BM j g t → ms_hq cA o pl → ms_rel i f j g → W p l e room_1 s m #[Value.ref b0] below meth c H locs (69 + 2 * (n + 1)) (1489 + 15 * (n + 1)) (lw_Z below #[Value.ref b0] s) (F0 m 988 ls [])) : W p l e room_1 s m #[Value.ref b0] below meth c H locs (69 + 2 * n) (1489 + 15 * n) (lw_Z below #[Value.ref b0] s) (F0 m 942 ls []) := by
  obtain ⟨hx, hb, hr, hml, hown, hts0, hX, hbl, hlocks, hgv⟩ := id C0
  have hb : c.code = cL_law := hb
  have hown : s.vm.findClass RL = some m.cls := hown
  have hts : ∀ w ∈ wsL_law, w.before #[Value.ref b0] s = true := fun w h => hts0 w (wsL_law_in w h)
  have hA : ∀ q : Nat, s.heap.size ≤ q → (fun q : Nat => s.heap.size ≤ q) q := fun _ h => h
  have hbA : ¬ (fun q : Nat => s.heap.size ≤ q) b0 := Nat.not_le.mpr hbl
  refine lv_aload_n hx hb dL_law_942 rfl (lv_at hl 2 rfl) ?_
  refine lv_aload_n hx hb dL_law_943 rfl (lv_at hl 3 rfl) ?_
  refine lv_iload_n hx hb dL_law_944 rfl (lv_at hl 0 rfl) ?_
  refine lv_iconst (v := 1) hx hb dL_law_945 (by decide) ?_
  refine lv_iadd hx hb dL_law_946 ?_
  refine ms_eqi (y := nI (4 * n + 1)) (nI_add (4 * n) 1) ?_
  refine ms_sld hx hb hX hbl hbA hS (4 * n + 1) rfl (by omega) (by omega) dL_law_947 ?_
  refine ms_pVi (qc := (RX10, TX10, 12)) (wc := ms_WX cA xa a i f o) (wr := ms_WM cA ma b j g t) (w1 := fun (u : ((Nat → Nat) × (Nat → Int32) × (Nat → Nat → Int32) × (Nat → Option Nat) × va_W)) => ms_WX cA xa u.1 u.2.1 u.2.2.1 u.2.2.2.1) (p1 := fun (u : ((Nat → Nat) × (Nat → Int32) × (Nat → Nat → Int32) × (Nat → Option Nat) × va_W)) => u.2.2.2.2) ⟨hx, hb, hml, hown, hts⟩ hE (wX10_keep l D cA xa a i f o pl (xs (4 * n + 1))  hB hq) (cwV 1 hts gL_law_X10_keep rfl rfl rfl (by decide +kernel) ⟨Nat.le_of_ble_eq_true rfl, Nat.le_of_ble_eq_true rfl⟩) hP hD hS hA [0, 1, 2, 3, 4, 5, 6, 7, 8, 9, 10, 11, 12, 13, 14, 15, 16, 17, 18, 19, 20, 21, 22, 23, 24, 25, 26, 27, 28, 29, 30, 31, 32, 33, 34, 35, 36, 37, 38, 39, 40, 41, 42, 43, 44, 45, 46, 47, 48, 49] [50, 51, 52, 53, 54, 55, 56, 57, 58, 59, 60, 61, 62, 63, 64, 65, 66, 67, 68] rfl rfl rfl rfl (by decide) 0 10 rfl rfl rfl hl.1 rfl (Nat.le_of_ble_eq_true rfl) dL_law_948 ⟨Nat.le_trans (show 69 + 2 * n + 0 ≤ 600 by omega) (Nat.le_of_ble_eq_true rfl), Nat.le_trans (show 1489 + 15 * n + 0 ≤ 6000 by omega) (Nat.le_of_ble_eq_true rfl)⟩ (fun r1 u2 H locs hp hP hD hS => ?_)
  obtain ⟨hB1, hq1, ex1⟩ := hp
  have hP : va_P D vwCl ((ms_WM cA ma b j g t ++ ms_WX cA xa u2.1 u2.2.1 u2.2.2.1 u2.2.2.2.1) ++ u2.2.2.2.2) H := hP
  have hD : va_D (fun q : Nat => s.heap.size ≤ q) ((ms_WM cA ma b j g t ++ ms_WX cA xa u2.1 u2.2.1 u2.2.2.1 u2.2.2.2.1) ++ u2.2.2.2.2) := hD
  refine lv_pop hx hb dL_law_951 rfl ?_
  refine lv_aload_n hx hb dL_law_952 rfl (lv_at hl 1 rfl) ?_
  refine lv_aload_n hx hb dL_law_953 rfl (lv_at hl 3 rfl) ?_
  refine lv_iload_n hx hb dL_law_954 rfl (lv_at hl 0 rfl) ?_
  refine lv_iconst (v := 1) hx hb dL_law_955 (by decide) ?_
  refine lv_iadd hx hb dL_law_956 ?_
  refine ms_eqi (y := nI (4 * n + 1)) (nI_add (4 * n) 1) ?_
  refine ms_sld hx hb hX hbl hbA hS (4 * n + 1) rfl (by omega) (by omega) dL_law_957 ?_
  refine ms_qVi (qc := (RX11, TX11, 32)) (wc := ms_WM cA ma b j g t) (wr := ms_WX cA xa u2.1 u2.2.1 u2.2.2.1 u2.2.2.2.1) (w1 := fun (u : ((Nat → Int32) × (Nat → Nat → Int32) × (Nat → Int64))) => ms_WM cA ma b u.1 u.2.1 u.2.2) ⟨hx, hb, hml, hown, hts⟩ hE (wX11_keep l D cA ma b j g t (xs (4 * n + 1))  hM) (cwV 1 hts gL_law_X11_keep rfl rfl rfl (by decide +kernel) ⟨Nat.le_of_ble_eq_true rfl, Nat.le_of_ble_eq_true rfl⟩) hP hD hS hA [0, 1, 2, 3, 4, 5, 6, 7, 8, 9, 10, 11, 12, 13, 14, 15, 16, 17, 18] [19, 20, 21, 22, 23, 24, 25, 26, 27, 28, 29, 30, 31, 32, 33, 34, 35, 36, 37, 38, 39, 40, 41, 42, 43, 44, 45, 46, 47, 48, 49, 50, 51, 52, 53, 54, 55, 56, 57, 58, 59, 60, 61, 62, 63, 64, 65, 66, 67, 68] rfl rfl rfl rfl (by decide) 0 11 rfl rfl rfl hl.1 rfl (Nat.le_of_ble_eq_true rfl) dL_law_958 ⟨Nat.le_trans (show 69 + 2 * n + 0 + 0 ≤ 600 by omega) (Nat.le_of_ble_eq_true rfl), Nat.le_trans (show 1489 + 15 * n + 0 + 0 ≤ 6000 by omega) (Nat.le_of_ble_eq_true rfl)⟩ (fun r3 u4 H locs hp hP hD hS => ?_)
  obtain ⟨hM1, ex2⟩ := hp
  have hP : va_P D vwCl ((ms_WX cA xa u2.1 u2.2.1 u2.2.2.1 u2.2.2.2.1 ++ ms_WM cA ma b u4.1 u4.2.1 u4.2.2) ++ u2.2.2.2.2) H := hP
  have hD : va_D (fun q : Nat => s.heap.size ≤ q) ((ms_WX cA xa u2.1 u2.2.1 u2.2.2.1 u2.2.2.2.1 ++ ms_WM cA ma b u4.1 u4.2.1 u4.2.2) ++ u2.2.2.2.2) := hD
  refine lv_pop hx hb dL_law_961 rfl ?_
  refine lv_goto (tgt := 988) hx hb dL_law_962 (by decide) ?_
  refine W.widen (k := 69 + 2 * (n + 1)) (n := 1489 + 15 * (n + 1)) (show 69 + 2 * n + 0 + 0 ≤ _ by omega) (show 1489 + 15 * n + 0 + 0 ≤ _ by omega) ?_
  exact kk _ _ _ _ _ _ _ _ _ _ _ hP hD hS hl hB1 hM1 hq1 ⟨ex1.2.1.trans (Eq.trans hrel.1 ex2.2.1.symm), ex1.2.2.2.2.2.2.2.2.2.2.1.trans (Eq.trans hrel.2.1 ex2.2.2.2.2.2.1.symm), mz_elc hrel.2.2.1 ex1.2.2.2.1 ex1.2.2.2.2.1 ex1.2.2.2.2.2.1 ex1.2.2.2.2.2.2.1 ex1.2.2.2.2.2.2.2.1 ex1.2.2.2.2.2.2.2.2.2.2.2.1 ex1.2.2.2.2.2.2.2.2.2.2.2.2.1 ex1.2.2.2.2.2.2.2.2.2.2.2.2.2.1 ex1.2.2.2.2.2.2.2.2.2.2.2.2.2.2.1 ex1.2.2.2.2.2.2.2.2.2.2.2.2.2.2.2.1 ex1.2.2.2.2.2.2.2.2.2.2.2.2.2.2.2.2.1 ex1.2.2.2.2.2.2.2.2.2.2.2.2.2.2.2.2.2.1 ex1.2.2.2.2.2.2.2.2.2.2.2.2.2.2.2.2.2.2.1 ex2.2.2.2.2.2.2.1, ex1.2.2.2.2.2.2.2.2.2.1.trans (Eq.trans hrel.2.2.2.1 ex2.2.2.2.2.1.symm), ex1.2.2.2.2.2.2.2.2.1.trans (Eq.trans hrel.2.2.2.2.1 ex2.2.2.2.1.symm), trivial⟩
set_option maxHeartbeats 4000000 in
set_option maxRecDepth 100000 in
theorem law_31 (l : Launch) (D : va_G) (cA : Nat → ClassId) (xa ma : Nat) (a : Nat → Nat) (b : Nat → Nat) (i : Nat → Int32) (f : Nat → Nat → Int32) (o : Nat → Option Nat) (pl : va_W) (j : Nat → Int32) (g : Nat → Nat → Int32) (t : Nat → Int64) {p : Program} {e : Env} {s : State} {m : MethodId} {below : List Frame} {meth : Method} {c : Code} {b0 L : Nat} {xs : Nat → Int32} {H : Heap} {locs : List Loc} {ls : Array Slot} {n : Nat} (C0 : lw_At p s m meth c b0 L xs) (hE : ms_EV D cA s) (hn : 4 * n + 4 ≤ L) (hL : L ≤ 256) (hP : va_P D vwCl ((ms_WX cA xa a i f o ++ ms_WM cA ma b j g t) ++ pl) H) (hD : va_D (fun q : Nat => s.heap.size ≤ q) ((ms_WX cA xa a i f o ++ ms_WM cA ma b j g t) ++ pl)) (hS : va_S (fun q : Nat => s.heap.size ≤ q) s.heap H locs) (hl : lv_has ls 4 [(3, .int (nI (4 * n))), (2, .ref ma), (1, .ref xa), (0, .ref b0)]) (hB : ms_BX i f) (hM : ms_BM j g t) (hq : ms_hq cA o pl) (hrel : ms_rel i f j g) (kk : ∀ (a : Nat → Nat) (i : Nat → Int32) (f : Nat → Nat → Int32) (o : Nat → Option Nat) (pl : va_W) (j : Nat → Int32) (g : Nat → Nat → Int32) (t : Nat → Int64) (H : Heap) (locs : List Loc) (ls : Array Slot), va_P D vwCl ((ms_WX cA xa a i f o ++ ms_WM cA ma b j g t) ++ pl) H → va_D (fun q : Nat => s.heap.size ≤ q) ((ms_WX cA xa a i f o ++ ms_WM cA ma b j g t) ++ pl) → va_S (fun q : Nat => s.heap.size ≤ q) s.heap H locs → lv_has ls 4 [(3, .int (nI (4 * n))), (2, .ref ma), (1, .ref xa), (0, .ref b0)] → ms_BX i f → ms_BM j g t → ms_hq cA o pl → ms_rel i f j g → W p l e room_1 s m #[Value.ref b0] below meth c H locs (69 + 2 * (n + 1)) (1489 + 15 * (n + 1)) (lw_Z below #[Value.ref b0] s) (F0 m 988 ls [])) : W p l e room_1 s m #[Value.ref b0] below meth c H locs (69 + 2 * n) (1489 + 15 * n) (lw_Z below #[Value.ref b0] s) (F0 m 965 ls []) := by
  obtain ⟨hx, hb, hr, hml, hown, hts0, hX, hbl, hlocks, hgv⟩ := id C0
  have hb : c.code = cL_law := hb
  have hown : s.vm.findClass RL = some m.cls := hown
  have hts : ∀ w ∈ wsL_law, w.before #[Value.ref b0] s = true := fun w h => hts0 w (wsL_law_in w h)
  have hA : ∀ q : Nat, s.heap.size ≤ q → (fun q : Nat => s.heap.size ≤ q) q := fun _ h => h
  have hbA : ¬ (fun q : Nat => s.heap.size ≤ q) b0 := Nat.not_le.mpr hbl
  refine lv_aload_n hx hb dL_law_965 rfl (lv_at hl 2 rfl) ?_
  refine lv_aload_n hx hb dL_law_966 rfl (lv_at hl 3 rfl) ?_
  refine lv_iload_n hx hb dL_law_967 rfl (lv_at hl 0 rfl) ?_
  refine lv_iconst (v := 1) hx hb dL_law_968 (by decide) ?_
  refine lv_iadd hx hb dL_law_969 ?_
  refine ms_eqi (y := nI (4 * n + 1)) (nI_add (4 * n) 1) ?_
  refine ms_sld hx hb hX hbl hbA hS (4 * n + 1) rfl (by omega) (by omega) dL_law_970 ?_
  refine ms_pVi (qc := (RX10, TX10, 12)) (wc := ms_WX cA xa a i f o) (wr := ms_WM cA ma b j g t) (w1 := fun (u : ((Nat → Nat) × (Nat → Int32) × (Nat → Nat → Int32) × (Nat → Option Nat) × va_W)) => ms_WX cA xa u.1 u.2.1 u.2.2.1 u.2.2.2.1) (p1 := fun (u : ((Nat → Nat) × (Nat → Int32) × (Nat → Nat → Int32) × (Nat → Option Nat) × va_W)) => u.2.2.2.2) ⟨hx, hb, hml, hown, hts⟩ hE (wX10_goBack l D cA xa a i f o pl (xs (4 * n + 1))  hB hq) (cwV 1 hts gL_law_X10_goBack rfl rfl rfl (by decide +kernel) ⟨Nat.le_of_ble_eq_true rfl, Nat.le_of_ble_eq_true rfl⟩) hP hD hS hA [0, 1, 2, 3, 4, 5, 6, 7, 8, 9, 10, 11, 12, 13, 14, 15, 16, 17, 18, 19, 20, 21, 22, 23, 24, 25, 26, 27, 28, 29, 30, 31, 32, 33, 34, 35, 36, 37, 38, 39, 40, 41, 42, 43, 44, 45, 46, 47, 48, 49] [50, 51, 52, 53, 54, 55, 56, 57, 58, 59, 60, 61, 62, 63, 64, 65, 66, 67, 68] rfl rfl rfl rfl (by decide) 0 10 rfl rfl rfl hl.1 rfl (Nat.le_of_ble_eq_true rfl) dL_law_971 ⟨Nat.le_trans (show 69 + 2 * n + 0 ≤ 600 by omega) (Nat.le_of_ble_eq_true rfl), Nat.le_trans (show 1489 + 15 * n + 0 ≤ 6000 by omega) (Nat.le_of_ble_eq_true rfl)⟩ (fun r1 u2 H locs hp hP hD hS => ?_)
  obtain ⟨hB1, hq1, ex1⟩ := hp
  have hP : va_P D vwCl ((ms_WM cA ma b j g t ++ ms_WX cA xa u2.1 u2.2.1 u2.2.2.1 u2.2.2.2.1) ++ u2.2.2.2.2) H := hP
  have hD : va_D (fun q : Nat => s.heap.size ≤ q) ((ms_WM cA ma b j g t ++ ms_WX cA xa u2.1 u2.2.1 u2.2.2.1 u2.2.2.2.1) ++ u2.2.2.2.2) := hD
  refine lv_pop hx hb dL_law_974 rfl ?_
  refine lv_aload_n hx hb dL_law_975 rfl (lv_at hl 1 rfl) ?_
  refine lv_aload_n hx hb dL_law_976 rfl (lv_at hl 3 rfl) ?_
  refine lv_iload_n hx hb dL_law_977 rfl (lv_at hl 0 rfl) ?_
  refine lv_iconst (v := 1) hx hb dL_law_978 (by decide) ?_
  refine lv_iadd hx hb dL_law_979 ?_
  refine ms_eqi (y := nI (4 * n + 1)) (nI_add (4 * n) 1) ?_
  refine ms_sld hx hb hX hbl hbA hS (4 * n + 1) rfl (by omega) (by omega) dL_law_980 ?_
  refine ms_qVi (qc := (RX11, TX11, 32)) (wc := ms_WM cA ma b j g t) (wr := ms_WX cA xa u2.1 u2.2.1 u2.2.2.1 u2.2.2.2.1) (w1 := fun (u : ((Nat → Int32) × (Nat → Nat → Int32) × (Nat → Int64))) => ms_WM cA ma b u.1 u.2.1 u.2.2) ⟨hx, hb, hml, hown, hts⟩ hE (wX11_goBack l D cA ma b j g t (xs (4 * n + 1))  hM) (cwV 1 hts gL_law_X11_goBack rfl rfl rfl (by decide +kernel) ⟨Nat.le_of_ble_eq_true rfl, Nat.le_of_ble_eq_true rfl⟩) hP hD hS hA [0, 1, 2, 3, 4, 5, 6, 7, 8, 9, 10, 11, 12, 13, 14, 15, 16, 17, 18] [19, 20, 21, 22, 23, 24, 25, 26, 27, 28, 29, 30, 31, 32, 33, 34, 35, 36, 37, 38, 39, 40, 41, 42, 43, 44, 45, 46, 47, 48, 49, 50, 51, 52, 53, 54, 55, 56, 57, 58, 59, 60, 61, 62, 63, 64, 65, 66, 67, 68] rfl rfl rfl rfl (by decide) 0 11 rfl rfl rfl hl.1 rfl (Nat.le_of_ble_eq_true rfl) dL_law_981 ⟨Nat.le_trans (show 69 + 2 * n + 0 + 0 ≤ 600 by omega) (Nat.le_of_ble_eq_true rfl), Nat.le_trans (show 1489 + 15 * n + 0 + 0 ≤ 6000 by omega) (Nat.le_of_ble_eq_true rfl)⟩ (fun r3 u4 H locs hp hP hD hS => ?_)
  obtain ⟨hM1, ex2⟩ := hp
  have hP : va_P D vwCl ((ms_WX cA xa u2.1 u2.2.1 u2.2.2.1 u2.2.2.2.1 ++ ms_WM cA ma b u4.1 u4.2.1 u4.2.2) ++ u2.2.2.2.2) H := hP
  have hD : va_D (fun q : Nat => s.heap.size ≤ q) ((ms_WX cA xa u2.1 u2.2.1 u2.2.2.1 u2.2.2.2.1 ++ ms_WM cA ma b u4.1 u4.2.1 u4.2.2) ++ u2.2.2.2.2) := hD
  refine lv_pop hx hb dL_law_984 rfl ?_
  refine lv_goto (tgt := 988) hx hb dL_law_985 (by decide) ?_
  refine W.widen (k := 69 + 2 * (n + 1)) (n := 1489 + 15 * (n + 1)) (show 69 + 2 * n + 0 + 0 ≤ _ by omega) (show 1489 + 15 * n + 0 + 0 ≤ _ by omega) ?_
  exact kk _ _ _ _ _ _ _ _ _ _ _ hP hD hS hl hB1 hM1 hq1 ⟨ex1.2.1.trans (Eq.trans hrel.1 ex2.2.1.symm), ex1.2.2.2.2.2.2.2.2.2.2.2.2.1.trans (Eq.trans hrel.2.1 ex2.2.2.2.2.2.1.symm), mz_elc hrel.2.2.1 ex1.2.2.2.1 ex1.2.2.2.2.1 ex1.2.2.2.2.2.1 ex1.2.2.2.2.2.2.1 ex1.2.2.2.2.2.2.2.1 ex1.2.2.2.2.2.2.2.2.2.2.2.2.2.1 ex1.2.2.2.2.2.2.2.2.2.2.2.2.2.2.1 ex1.2.2.2.2.2.2.2.2.2.2.2.2.2.2.2.1 ex1.2.2.2.2.2.2.2.2.2.2.2.2.2.2.2.2.1 ex1.2.2.2.2.2.2.2.2.2.2.2.2.2.2.2.2.2.1 ex1.2.2.2.2.2.2.2.2.2.2.2.2.2.2.2.2.2.2.1 ex1.2.2.2.2.2.2.2.2.2.2.2.2.2.2.2.2.2.2.2.1 ex1.2.2.2.2.2.2.2.2.2.2.2.2.2.2.2.2.2.2.2.2.1 ex2.2.2.2.2.2.2.1, ex1.2.2.2.2.2.2.2.2.2.1.trans (Eq.trans hrel.2.2.2.1 ex2.2.2.2.2.1.symm), ex1.2.2.2.2.2.2.2.2.1.trans (Eq.trans hrel.2.2.2.2.1 ex2.2.2.2.1.symm), trivial⟩
