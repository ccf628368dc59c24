set_option maxHeartbeats 4000000 in
set_option maxRecDepth 100000 in
theorem law_8 (l : Launch) (D : va_G) (cA : Nat → ClassId) (xa ma : Nat) (a : Nat → Nat) (b : Nat → Nat) (i : Nat → Int32) (f : Nat → Nat → Int32) (o : Nat → Option Nat) (pl : va_W) (j : Nat → Int32) (g : Nat → Nat → Int32) (t : Nat → Int64) {p : Program} {e : Env} {s : State} {m : MethodId} {below : List Frame} {meth : Method} {c : Code} {b0 L : Nat} {xs : Nat → Int32} {H : Heap} {locs : List Loc} {ls : Array Slot} {n : Nat} (C0 : lw_At p s m meth c b0 L xs) (hE : ms_EV D cA s) (hn : 4 * n + 4 ≤ L) (hL : L ≤ 256) (hP : va_P D vwCl ((ms_WX cA xa a i f o ++ ms_WM cA ma b j g t) ++ pl) H) (hD : va_D (fun q : Nat => s.heap.size ≤ q) ((ms_WX cA xa a i f o ++ ms_WM cA ma b j g t) ++ pl)) (hS : va_S (fun q : Nat => s.heap.size ≤ q) s.heap H locs) (hl : lv_has ls 4 [(3, .int (nI (4 * n))), (2, .ref ma), (1, .ref xa), (0, .ref b0)]) (hB : ms_BX i f) (hM : ms_BM j g t) (hq : ms_hq cA o pl) (hrel : ms_rel i f j g) (kk : ∀ (a : Nat → Nat) (i : Nat → Int32) (f : Nat → Nat → Int32) (o : Nat → Option Nat) (pl : va_W) (j : Nat → Int32) (g : Nat → Nat → Int32) (t : Nat → Int64) (H : Heap) (locs : List Loc) (ls : Array Slot), va_P D vwCl ((ms_WX cA xa a i f o ++ ms_WM cA ma b j g t) ++ pl) H → va_D (fun q : Nat => s.heap.size ≤ q) ((ms_WX cA xa a i f o ++ ms_WM cA ma b j g t) ++ pl) → va_S (fun q : Nat => s.heap.size ≤ q) s.heap H locs → lv_has ls 4 [(3, .int (nI (4 * n))), (2, .ref ma), (1, .ref xa), (0, .ref b0)] → ms_BX i f → ms_BM j g t → ms_hq cA o pl → ms_rel i f j g → W p l e room_1 s m #[Value.ref b0] below meth c H locs (69 + 2 * (n + 1)) (1489 + 15 * (n + 1)) (lw_Z below #[Value.ref b0] s) (F0 m 988 ls [])) : W p l e room_1 s m #[Value.ref b0] below meth c H locs (69 + 2 * n) (1489 + 15 * n) (lw_Z below #[Value.ref b0] s) (F0 m 370 ls []) := by
  obtain ⟨hx, hb, hr, hml, hown, hts0, hX, hbl, hlocks, hgv⟩ := id C0
  have hb : c.code = cL_law := hb
  have hown : s.vm.findClass RL = some m.cls := hown
  have hts : ∀ w ∈ wsL_law, w.before #[Value.ref b0] s = true := fun w h => hts0 w (wsL_law_in w h)
  have hA : ∀ q : Nat, s.heap.size ≤ q → (fun q : Nat => s.heap.size ≤ q) q := fun _ h => h
  have hbA : ¬ (fun q : Nat => s.heap.size ≤ q) b0 := Nat.not_le.mpr hbl
  refine lv_aload_n hx hb dL_law_370 rfl (lv_at hl 2 rfl) ?_
  refine ms_pVi (qc := (RX10, TX10, 12)) (wc := ms_WX cA xa a i f o) (wr := ms_WM cA ma b j g t) (w1 := fun (u : ((Nat → Nat) × (Nat → Int32) × (Nat → Nat → Int32) × (Nat → Option Nat) × va_W)) => ms_WX cA xa u.1 u.2.1 u.2.2.1 u.2.2.2.1) (p1 := fun (u : ((Nat → Nat) × (Nat → Int32) × (Nat → Nat → Int32) × (Nat → Option Nat) × va_W)) => u.2.2.2.2) ⟨hx, hb, hml, hown, hts⟩ hE (wX10_strike l D cA xa a i f o pl   hB hq) (cwV 0 hts gL_law_X10_strike rfl rfl rfl (by decide +kernel) ⟨Nat.le_of_ble_eq_true rfl, Nat.le_of_ble_eq_true rfl⟩) hP hD hS hA [0, 1, 2, 3, 4, 5, 6, 7, 8, 9, 10, 11, 12, 13, 14, 15, 16, 17, 18, 19, 20, 21, 22, 23, 24, 25, 26, 27, 28, 29, 30, 31, 32, 33, 34, 35, 36, 37, 38, 39, 40, 41, 42, 43, 44, 45, 46, 47, 48, 49] [50, 51, 52, 53, 54, 55, 56, 57, 58, 59, 60, 61, 62, 63, 64, 65, 66, 67, 68] rfl rfl rfl rfl (by decide) 0 10 rfl rfl rfl hl.1 rfl (Nat.le_of_ble_eq_true rfl) dL_law_371 ⟨Nat.le_trans (show 69 + 2 * n + 2 ≤ 600 by omega) (Nat.le_of_ble_eq_true rfl), Nat.le_trans (show 1489 + 15 * n + 15 ≤ 6000 by omega) (Nat.le_of_ble_eq_true rfl)⟩ (fun r1 u2 H locs hp hP hD hS => ?_)
  obtain ⟨hB1, hq1, ex1⟩ := hp
  have hP : va_P D vwCl ((ms_WM cA ma b j g t ++ ms_WX cA xa u2.1 u2.2.1 u2.2.2.1 u2.2.2.2.1) ++ u2.2.2.2.2) H := hP
  have hD : va_D (fun q : Nat => s.heap.size ≤ q) ((ms_WM cA ma b j g t ++ ms_WX cA xa u2.1 u2.2.1 u2.2.2.1 u2.2.2.2.1) ++ u2.2.2.2.2) := hD
  refine lv_pop hx hb dL_law_374 rfl ?_
  refine lv_aload_n hx hb dL_law_375 rfl (lv_at hl 1 rfl) ?_
  refine ms_qVi (qc := (RX11, TX11, 32)) (wc := ms_WM cA ma b j g t) (wr := ms_WX cA xa u2.1 u2.2.1 u2.2.2.1 u2.2.2.2.1) (w1 := fun (u : ((Nat → Int32) × (Nat → Nat → Int32) × (Nat → Int64))) => ms_WM cA ma b u.1 u.2.1 u.2.2) ⟨hx, hb, hml, hown, hts⟩ hE (wX11_strike l D cA ma b j g t   hM) (cwV 0 hts gL_law_X11_strike rfl rfl rfl (by decide +kernel) ⟨Nat.le_of_ble_eq_true rfl, Nat.le_of_ble_eq_true rfl⟩) hP hD hS hA [0, 1, 2, 3, 4, 5, 6, 7, 8, 9, 10, 11, 12, 13, 14, 15, 16, 17, 18] [19, 20, 21, 22, 23, 24, 25, 26, 27, 28, 29, 30, 31, 32, 33, 34, 35, 36, 37, 38, 39, 40, 41, 42, 43, 44, 45, 46, 47, 48, 49, 50, 51, 52, 53, 54, 55, 56, 57, 58, 59, 60, 61, 62, 63, 64, 65, 66, 67, 68] rfl rfl rfl rfl (by decide) 0 11 rfl rfl rfl hl.1 rfl (Nat.le_of_ble_eq_true rfl) dL_law_376 ⟨Nat.le_trans (show 69 + 2 * n + 2 + 0 ≤ 600 by omega) (Nat.le_of_ble_eq_true rfl), Nat.le_trans (show 1489 + 15 * n + 15 + 0 ≤ 6000 by omega) (Nat.le_of_ble_eq_true rfl)⟩ (fun r3 u4 H locs hp hP hD hS => ?_)
  obtain ⟨hM1, ex2⟩ := hp
  have hP : va_P D vwCl ((ms_WX cA xa u2.1 u2.2.1 u2.2.2.1 u2.2.2.2.1 ++ ms_WM cA ma b u4.1 u4.2.1 u4.2.2) ++ u2.2.2.2.2) H := hP
  have hD : va_D (fun q : Nat => s.heap.size ≤ q) ((ms_WX cA xa u2.1 u2.2.1 u2.2.2.1 u2.2.2.2.1 ++ ms_WM cA ma b u4.1 u4.2.1 u4.2.2) ++ u2.2.2.2.2) := hD
  refine lv_pop hx hb dL_law_379 rfl ?_
  refine lv_goto (tgt := 988) hx hb dL_law_380 (by decide) ?_
  refine W.widen (k := 69 + 2 * (n + 1)) (n := 1489 + 15 * (n + 1)) (show 69 + 2 * n + 2 + 0 ≤ _ by omega) (show 1489 + 15 * n + 15 + 0 ≤ _ by omega) ?_
  exact kk _ _ _ _ _ _ _ _ _ _ _ hP hD hS hl hB1 hM1 hq1 ⟨ex1.1.trans (Eq.trans hrel.1 ex2.1.symm), ex1.2.2.2.2.2.2.2.2.2.2.2.1.trans (Eq.trans hrel.2.1 ex2.2.2.2.2.1.symm), mz_elc hrel.2.2.1 ex1.2.2.1 ex1.2.2.2.1 ex1.2.2.2.2.1 ex1.2.2.2.2.2.1 ex1.2.2.2.2.2.2.1 ex1.2.2.2.2.2.2.2.2.2.2.2.2.1 ex1.2.2.2.2.2.2.2.2.2.2.2.2.2.1 ex1.2.2.2.2.2.2.2.2.2.2.2.2.2.2.1 ex1.2.2.2.2.2.2.2.2.2.2.2.2.2.2.2.1 ex1.2.2.2.2.2.2.2.2.2.2.2.2.2.2.2.2.1 ex1.2.2.2.2.2.2.2.2.2.2.2.2.2.2.2.2.2.1 ex1.2.2.2.2.2.2.2.2.2.2.2.2.2.2.2.2.2.2.1 ex1.2.2.2.2.2.2.2.2.2.2.2.2.2.2.2.2.2.2.2.1 ex2.2.2.2.2.2.1, ex1.2.2.2.2.2.2.2.2.1.trans (Eq.trans hrel.2.2.2.1 ex2.2.2.2.1.symm), ex1.2.2.2.2.2.2.2.1.trans (Eq.trans hrel.2.2.2.2.1 ex2.2.2.1.symm), trivial⟩
set_option maxHeartbeats 4000000 in
set_option maxRecDepth 100000 in
theorem law_9 (l : Launch) (D : va_G) (cA : Nat → ClassId) (xa ma : Nat) (a : Nat → Nat) (b : Nat → Nat) (i : Nat → Int32) (f : Nat → Nat → Int32) (o : Nat → Option Nat) (pl : va_W) (j : Nat → Int32) (g : Nat → Nat → Int32) (t : Nat → Int64) {p : Program} {e : Env} {s : State} {m : MethodId} {below : List Frame} {meth : Method} {c : Code} {b0 L : Nat} {xs : Nat → Int32} {H : Heap} {locs : List Loc} {ls : Array Slot} {n : Nat} (C0 : lw_At p s m meth c b0 L xs) (hE : ms_EV D cA s) (hn : 4 * n + 4 ≤ L) (hL : L ≤ 256) (hP : va_P D vwCl ((ms_WX cA xa a i f o ++ ms_WM cA ma b j g t) ++ pl) H) (hD : va_D (fun q : Nat => s.heap.size ≤ q) ((ms_WX cA xa a i f o ++ ms_WM cA ma b j g t) ++ pl)) (hS : va_S (fun q : Nat => s.heap.size ≤ q) s.heap H locs) (hl : lv_has ls 4 [(3, .int (nI (4 * n))), (2, .ref ma), (1, .ref xa), (0, .ref b0)]) (hB : ms_BX i f) (hM : ms_BM j g t) (hq : ms_hq cA o pl) (hrel : ms_rel i f j g) (kk : ∀ (a : Nat → Nat) (i : Nat → Int32) (f : Nat → Nat → Int32) (o : Nat → Option Nat) (pl : va_W) (j : Nat → Int32) (g : Nat → Nat → Int32) (t : Nat → Int64) (H : Heap) (locs : List Loc) (ls : Array Slot), va_P D vwCl ((ms_WX cA xa a i f o ++ ms_WM cA ma b j g t) ++ pl) H → va_D (fun q : Nat => s.heap.size ≤ q) ((ms_WX cA xa a i f o ++ ms_WM cA ma b j g t) ++ pl) → va_S (fun q : Nat => s.heap.size ≤ q) s.heap H locs → lv_has ls 4 [(3, .int (nI (4 * n))), (2, .ref ma), (1, .ref xa), (0, .ref b0)] → ms_BX i f → ms_BM j g t → ms_hq cA o pl → ms_rel i f j g → W p l e room_1 s m #[Value.ref b0] below meth c H locs (69 + 2 * (n + 1)) (1489 + 15 * (n + 1)) (lw_Z below #[Value.ref b0] s) (F0 m 988 ls [])) : W p l e room_1 s m #[Value.ref b0] below meth c H locs (69 + 2 * n) (1489 + 15 * n) (lw_Z below #[Value.ref b0] s) (F0 m 383 ls []) := by
  obtain ⟨hx, hb, hr, hml, hown, hts0, hX, hbl, hlocks, hgv⟩ := id C0
  have hb : c.code = cL_law := hb
  have hown : s.vm.findClass RL = some m.cls := hown
  have hts : ∀ w ∈ wsL_law, w.before #[Value.ref b0] s = true := fun w h => hts0 w (wsL_law_in w h)
  have hA : ∀ q : Nat, s.heap.size ≤ q → (fun q : Nat => s.heap.size ≤ q) q := fun _ h => h
  have hbA : ¬ (fun q : Nat => s.heap.size ≤ q) b0 := Nat.not_le.mpr hbl
  refine lv_aload_n hx hb dL_law_383 rfl (lv_at hl 2 rfl) ?_
  refine lv_aload_n hx hb dL_law_384 rfl (lv_at hl 3 rfl) ?_
  refine lv_iload_n hx hb dL_law_385 rfl (lv_at hl 0 rfl) ?_
  refine lv_iconst (v := 1) hx hb dL_law_386 (by decide) ?_
  refine lv_iadd hx hb dL_law_387 ?_
  refine ms_eqi (y := nI (4 * n + 1)) (nI_add (4 * n) 1) ?_
  refine ms_sld hx hb hX hbl hbA hS (4 * n + 1) rfl (by omega) (by omega) dL_law_388 ?_
  refine ms_pVi (qc := (RX10, TX10, 12)) (wc := ms_WX cA xa a i f o) (wr := ms_WM cA ma b j g t) (w1 := fun (u : ((Nat → Nat) × (Nat → Int32) × (Nat → Nat → Int32) × (Nat → Option Nat) × va_W)) => ms_WX cA xa u.1 u.2.1 u.2.2.1 u.2.2.2.1) (p1 := fun (u : ((Nat → Nat) × (Nat → Int32) × (Nat → Nat → Int32) × (Nat → Option Nat) × va_W)) => u.2.2.2.2) ⟨hx, hb, hml, hown, hts⟩ hE (wX10_drift l D cA xa a i f o pl (xs (4 * n + 1))  hB hq) (cwV 1 hts gL_law_X10_drift rfl rfl rfl (by decide +kernel) ⟨Nat.le_of_ble_eq_true rfl, Nat.le_of_ble_eq_true rfl⟩) hP hD hS hA [0, 1, 2, 3, 4, 5, 6, 7, 8, 9, 10, 11, 12, 13, 14, 15, 16, 17, 18, 19, 20, 21, 22, 23, 24, 25, 26, 27, 28, 29, 30, 31, 32, 33, 34, 35, 36, 37, 38, 39, 40, 41, 42, 43, 44, 45, 46, 47, 48, 49] [50, 51, 52, 53, 54, 55, 56, 57, 58, 59, 60, 61, 62, 63, 64, 65, 66, 67, 68] rfl rfl rfl rfl (by decide) 0 10 rfl rfl rfl hl.1 rfl (Nat.le_of_ble_eq_true rfl) dL_law_389 ⟨Nat.le_trans (show 69 + 2 * n + 2 ≤ 600 by omega) (Nat.le_of_ble_eq_true rfl), Nat.le_trans (show 1489 + 15 * n + 15 ≤ 6000 by omega) (Nat.le_of_ble_eq_true rfl)⟩ (fun r1 u2 H locs hp hP hD hS => ?_)
  obtain ⟨hB1, hq1, ex1⟩ := hp
  have hP : va_P D vwCl ((ms_WM cA ma b j g t ++ ms_WX cA xa u2.1 u2.2.1 u2.2.2.1 u2.2.2.2.1) ++ u2.2.2.2.2) H := hP
  have hD : va_D (fun q : Nat => s.heap.size ≤ q) ((ms_WM cA ma b j g t ++ ms_WX cA xa u2.1 u2.2.1 u2.2.2.1 u2.2.2.2.1) ++ u2.2.2.2.2) := hD
  refine lv_pop hx hb dL_law_392 rfl ?_
  refine lv_aload_n hx hb dL_law_393 rfl (lv_at hl 1 rfl) ?_
  refine lv_aload_n hx hb dL_law_394 rfl (lv_at hl 3 rfl) ?_
  refine lv_iload_n hx hb dL_law_395 rfl (lv_at hl 0 rfl) ?_
  refine lv_iconst (v := 1) hx hb dL_law_396 (by decide) ?_
  refine lv_iadd hx hb dL_law_397 ?_
  refine ms_eqi (y := nI (4 * n + 1)) (nI_add (4 * n) 1) ?_
  refine ms_sld hx hb hX hbl hbA hS (4 * n + 1) rfl (by omega) (by omega) dL_law_398 ?_
  refine ms_qVi (qc := (RX11, TX11, 32)) (wc := ms_WM cA ma b j g t) (wr := ms_WX cA xa u2.1 u2.2.1 u2.2.2.1 u2.2.2.2.1) (w1 := fun (u : ((Nat → Int32) × (Nat → Nat → Int32) × (Nat → Int64))) => ms_WM cA ma b u.1 u.2.1 u.2.2) ⟨hx, hb, hml, hown, hts⟩ hE (wX11_drift l D cA ma b j g t (xs (4 * n + 1))  hM) (cwV 1 hts gL_law_X11_drift rfl rfl rfl (by decide +kernel) ⟨Nat.le_of_ble_eq_true rfl, Nat.le_of_ble_eq_true rfl⟩) hP hD hS hA [0, 1, 2, 3, 4, 5, 6, 7, 8, 9, 10, 11, 12, 13, 14, 15, 16, 17, 18] [19, 20, 21, 22, 23, 24, 25, 26, 27, 28, 29, 30, 31, 32, 33, 34, 35, 36, 37, 38, 39, 40, 41, 42, 43, 44, 45, 46, 47, 48, 49, 50, 51, 52, 53, 54, 55, 56, 57, 58, 59, 60, 61, 62, 63, 64, 65, 66, 67, 68] rfl rfl rfl rfl (by decide) 0 11 rfl rfl rfl hl.1 rfl (Nat.le_of_ble_eq_true rfl) dL_law_399 ⟨Nat.le_trans (show 69 + 2 * n + 2 + 0 ≤ 600 by omega) (Nat.le_of_ble_eq_true rfl), Nat.le_trans (show 1489 + 15 * n + 15 + 0 ≤ 6000 by omega) (Nat.le_of_ble_eq_true rfl)⟩ (fun r3 u4 H locs hp hP hD hS => ?_)
  obtain ⟨hM1, ex2⟩ := hp
  have hP : va_P D vwCl ((ms_WX cA xa u2.1 u2.2.1 u2.2.2.1 u2.2.2.2.1 ++ ms_WM cA ma b u4.1 u4.2.1 u4.2.2) ++ u2.2.2.2.2) H := hP
  have hD : va_D (fun q : Nat => s.heap.size ≤ q) ((ms_WX cA xa u2.1 u2.2.1 u2.2.2.1 u2.2.2.2.1 ++ ms_WM cA ma b u4.1 u4.2.1 u4.2.2) ++ u2.2.2.2.2) := hD
  refine lv_pop hx hb dL_law_402 rfl ?_
  refine lv_goto (tgt := 988) hx hb dL_law_403 (by decide) ?_
  refine W.widen (k := 69 + 2 * (n + 1)) (n := 1489 + 15 * (n + 1)) (show 69 + 2 * n + 2 + 0 ≤ _ by omega) (show 1489 + 15 * n + 15 + 0 ≤ _ by omega) ?_
  exact kk _ _ _ _ _ _ _ _ _ _ _ hP hD hS hl hB1 hM1 hq1 ⟨ex1.1.trans (Eq.trans hrel.1 ex2.1.symm), ex1.2.2.2.2.2.2.2.2.2.2.2.1.trans (Eq.trans hrel.2.1 ex2.2.2.2.2.1.symm), mz_elc hrel.2.2.1 ex1.2.2.1 ex1.2.2.2.1 ex1.2.2.2.2.1 ex1.2.2.2.2.2.1 ex1.2.2.2.2.2.2.1 ex1.2.2.2.2.2.2.2.2.2.2.2.2.1 ex1.2.2.2.2.2.2.2.2.2.2.2.2.2.1 ex1.2.2.2.2.2.2.2.2.2.2.2.2.2.2.1 ex1.2.2.2.2.2.2.2.2.2.2.2.2.2.2.2.1 ex1.2.2.2.2.2.2.2.2.2.2.2.2.2.2.2.2.1 ex1.2.2.2.2.2.2.2.2.2.2.2.2.2.2.2.2.2.1 ex1.2.2.2.2.2.2.2.2.2.2.2.2.2.2.2.2.2.2.1 ex1.2.2.2.2.2.2.2.2.2.2.2.2.2.2.2.2.2.2.2.1 ex2.2.2.2.2.2.1, ex1.2.2.2.2.2.2.2.2.1.trans (Eq.trans hrel.2.2.2.1 ex2.2.2.2.1.symm), ex1.2.2.2.2.2.2.2.1.trans (Eq.trans hrel.2.2.2.2.1 ex2.2.2.1.symm), trivial⟩
set_option maxHeartbeats 4000000 in
set_option maxRecDepth 100000 in
theorem law_10 (l : Launch) (D : va_G) (cA : Nat → ClassId) (xa ma : Nat) (a : Nat → Nat) (b : Nat → Nat) (i : Nat → Int32) (f : Nat → Nat → Int32) (o : Nat → Option Nat) (pl : va_W) (j : Nat → Int32) (g : Nat → Nat → Int32) (t : Nat → Int64) {p : Program} {e : Env} {s : State} {m : MethodId} {below : List Frame} {meth : Method} {c : Code} {b0 L : Nat} {xs : Nat → Int32} {H : Heap} {locs : List Loc} {ls : Array Slot} {n : Nat} (C0 : lw_At p s m meth c b0 L xs) (hE : ms_EV D cA s) (hn : 4 * n + 4 ≤ L) (hL : L ≤ 256) (hP : va_P D vwCl ((ms_WX cA xa a i f o ++ ms_WM cA ma b j g t) ++ pl) H) (hD : va_D (fun q : Nat => s.heap.size ≤ q) ((ms_WX cA xa a i f o ++ ms_WM cA ma b j g t) ++ pl)) (hS : va_S (fun q : Nat => s.heap.size ≤ q) s.heap H locs) (hl : lv_has ls 4 [(3, .int (nI (4 * n))), (2, .ref ma), (1, .ref xa), (0, .ref b0)]) (hB : ms_BX i f) (hM : ms_BM j g t) (hq : ms_hq cA o pl) (hrel : ms_rel i f j g) (kk : ∀ (a : Nat → Nat) (i : Nat → Int32) (f : Nat → Nat → Int32) (o : Nat → Option Nat) (pl : va_W) (j : Nat → Int32) (g : Nat → Nat → Int32) (t : Nat → Int64) (H : Heap) (locs : List Loc) (ls : Array Slot), va_P D vwCl ((ms_WX cA xa a i f o ++ ms_WM cA ma b j g t) ++ pl) H → va_D (fun q : Nat => s.heap.size ≤ q) ((ms_WX cA xa a i f o ++ ms_WM cA ma b j g t) ++ pl) → va_S (fun q : Nat => s.heap.size ≤ q) s.heap H locs → lv_has ls 4 [(3, .int (nI (4 * n))), (2, .ref ma), (1, .ref xa), (0, .ref b0)] → ms_BX i f → ms_BM j g t → ms_hq cA o pl → ms_rel i f j g → W p l e room_1 s m #[Value.ref b0] below meth c H locs (69 + 2 * (n + 1)) (1489 + 15 * (n + 1)) (lw_Z below #[Value.ref b0] s) (F0 m 988 ls [])) : W p l e room_1 s m #[Value.ref b0] below meth c H locs (69 + 2 * n) (1489 + 15 * n) (lw_Z below #[Value.ref b0] s) (F0 m 406 ls []) := by
  obtain ⟨hx, hb, hr, hml, hown, hts0, hX, hbl, hlocks, hgv⟩ := id C0
  have hb : c.code = cL_law := hb
  have hown : s.vm.findClass RL = some m.cls := hown
  have hts : ∀ w ∈ wsL_law, w.before #[Value.ref b0] s = true := fun w h => hts0 w (wsL_law_in w h)
  have hA : ∀ q : Nat, s.heap.size ≤ q → (fun q : Nat => s.heap.size ≤ q) q := fun _ h => h
  have hbA : ¬ (fun q : Nat => s.heap.size ≤ q) b0 := Nat.not_le.mpr hbl
  refine lv_aload_n hx hb dL_law_406 rfl (lv_at hl 2 rfl) ?_
  refine ms_pVi (qc := (RX10, TX10, 12)) (wc := ms_WX cA xa a i f o) (wr := ms_WM cA ma b j g t) (w1 := fun (u : ((Nat → Nat) × (Nat → Int32) × (Nat → Nat → Int32) × (Nat → Option Nat) × va_W)) => ms_WX cA xa u.1 u.2.1 u.2.2.1 u.2.2.2.1) (p1 := fun (u : ((Nat → Nat) × (Nat → Int32) × (Nat → Nat → Int32) × (Nat → Option Nat) × va_W)) => u.2.2.2.2) ⟨hx, hb, hml, hown, hts⟩ hE (wX10_undo l D cA xa a i f o pl   hB hq) (cwV 0 hts gL_law_X10_undo rfl rfl rfl (by decide +kernel) ⟨Nat.le_of_ble_eq_true rfl, Nat.le_of_ble_eq_true rfl⟩) hP hD hS hA [0, 1, 2, 3, 4, 5, 6, 7, 8, 9, 10, 11, 12, 13, 14, 15, 16, 17, 18, 19, 20, 21, 22, 23, 24, 25, 26, 27, 28, 29, 30, 31, 32, 33, 34, 35, 36, 37, 38, 39, 40, 41, 42, 43, 44, 45, 46, 47, 48, 49] [50, 51, 52, 53, 54, 55, 56, 57, 58, 59, 60, 61, 62, 63, 64, 65, 66, 67, 68] rfl rfl rfl rfl (by decide) 0 10 rfl rfl rfl hl.1 rfl (Nat.le_of_ble_eq_true rfl) dL_law_407 ⟨Nat.le_trans (show 69 + 2 * n + 0 ≤ 600 by omega) (Nat.le_of_ble_eq_true rfl), Nat.le_trans (show 1489 + 15 * n + 0 ≤ 6000 by omega) (Nat.le_of_ble_eq_true rfl)⟩ (fun r1 u2 H locs hp hP hD hS => ?_)
  obtain ⟨hB1, hq1, ex1⟩ := hp
  have hP : va_P D vwCl ((ms_WM cA ma b j g t ++ ms_WX cA xa u2.1 u2.2.1 u2.2.2.1 u2.2.2.2.1) ++ u2.2.2.2.2) H := hP
  have hD : va_D (fun q : Nat => s.heap.size ≤ q) ((ms_WM cA ma b j g t ++ ms_WX cA xa u2.1 u2.2.1 u2.2.2.1 u2.2.2.2.1) ++ u2.2.2.2.2) := hD
  refine lv_pop hx hb dL_law_410 rfl ?_
  refine lv_aload_n hx hb dL_law_411 rfl (lv_at hl 1 rfl) ?_
  refine ms_qVi (qc := (RX11, TX11, 32)) (wc := ms_WM cA ma b j g t) (wr := ms_WX cA xa u2.1 u2.2.1 u2.2.2.1 u2.2.2.2.1) (w1 := fun (u : ((Nat → Int32) × (Nat → Nat → Int32) × (Nat → Int64))) => ms_WM cA ma b u.1 u.2.1 u.2.2) ⟨hx, hb, hml, hown, hts⟩ hE (wX11_undo l D cA ma b j g t   hM) (cwV 0 hts gL_law_X11_undo rfl rfl rfl (by decide +kernel) ⟨Nat.le_of_ble_eq_true rfl, Nat.le_of_ble_eq_true rfl⟩) hP hD hS hA [0, 1, 2, 3, 4, 5, 6, 7, 8, 9, 10, 11, 12, 13, 14, 15, 16, 17, 18] [19, 20, 21, 22, 23, 24, 25, 26, 27, 28, 29, 30, 31, 32, 33, 34, 35, 36, 37, 38, 39, 40, 41, 42, 43, 44, 45, 46, 47, 48, 49, 50, 51, 52, 53, 54, 55, 56, 57, 58, 59, 60, 61, 62, 63, 64, 65, 66, 67, 68] rfl rfl rfl rfl (by decide) 0 11 rfl rfl rfl hl.1 rfl (Nat.le_of_ble_eq_true rfl) dL_law_412 ⟨Nat.le_trans (show 69 + 2 * n + 0 + 0 ≤ 600 by omega) (Nat.le_of_ble_eq_true rfl), Nat.le_trans (show 1489 + 15 * n + 0 + 0 ≤ 6000 by omega) (Nat.le_of_ble_eq_true rfl)⟩ (fun r3 u4 H locs hp hP hD hS => ?_)
  obtain ⟨hM1, ex2⟩ := hp
  have hP : va_P D vwCl ((ms_WX cA xa u2.1 u2.2.1 u2.2.2.1 u2.2.2.2.1 ++ ms_WM cA ma b u4.1 u4.2.1 u4.2.2) ++ u2.2.2.2.2) H := hP
  have hD : va_D (fun q : Nat => s.heap.size ≤ q) ((ms_WX cA xa u2.1 u2.2.1 u2.2.2.1 u2.2.2.2.1 ++ ms_WM cA ma b u4.1 u4.2.1 u4.2.2) ++ u2.2.2.2.2) := hD
  refine lv_pop hx hb dL_law_415 rfl ?_
  refine lv_goto (tgt := 988) hx hb dL_law_416 (by decide) ?_
  refine W.widen (k := 69 + 2 * (n + 1)) (n := 1489 + 15 * (n + 1)) (show 69 + 2 * n + 0 + 0 ≤ _ by omega) (show 1489 + 15 * n + 0 + 0 ≤ _ by omega) ?_
  exact kk _ _ _ _ _ _ _ _ _ _ _ hP hD hS hl hB1 hM1 hq1 ⟨ex1.1.trans (Eq.trans hrel.1 ex2.1.symm), ex1.2.2.2.2.2.2.2.2.2.2.2.1.trans (Eq.trans hrel.2.1 ex2.2.2.2.2.1.symm), mz_elc hrel.2.2.1 ex1.2.2.1 ex1.2.2.2.1 ex1.2.2.2.2.1 ex1.2.2.2.2.2.1 ex1.2.2.2.2.2.2.1 ex1.2.2.2.2.2.2.2.2.2.2.2.2.1 ex1.2.2.2.2.2.2.2.2.2.2.2.2.2.1 ex1.2.2.2.2.2.2.2.2.2.2.2.2.2.2.1 ex1.2.2.2.2.2.2.2.2.2.2.2.2.2.2.2.1 ex1.2.2.2.2.2.2.2.2.2.2.2.2.2.2.2.2.1 ex1.2.2.2.2.2.2.2.2.2.2.2.2.2.2.2.2.2.1 ex1.2.2.2.2.2.2.2.2.2.2.2.2.2.2.2.2.2.2.1 ex1.2.2.2.2.2.2.2.2.2.2.2.2.2.2.2.2.2.2.2.1 ex2.2.2.2.2.2.1, ex1.2.2.2.2.2.2.2.2.1.trans (Eq.trans hrel.2.2.2.1 ex2.2.2.2.1.symm), ex1.2.2.2.2.2.2.2.1.trans (Eq.trans hrel.2.2.2.2.1 ex2.2.2.1.symm), trivial⟩
set_option maxHeartbeats 4000000 in
set_option maxRecDepth 100000 in
theorem law_11 (l : Launch) (D : va_G) (cA : Nat → ClassId) (xa ma : Nat) (a : Nat → Nat) (b : Nat → Nat) (i : Nat → Int32) (f : Nat → Nat → Int32) (o : Nat → Option Nat) (pl : va_W) (j : Nat → Int32) (g : Nat → Nat → Int32) (t : Nat → Int64) {p : Program} {e : Env} {s : State} {m : MethodId} {below : List Frame} {meth : Method} {c : Code} {b0 L : Nat} {xs : Nat → Int32} {H : Heap} {locs : List Loc} {ls : Array Slot} {n : Nat} (C0 : lw_At p s m meth c b0 L xs) (hE : ms_EV D cA s) (hn : 4 * n + 4 ≤ L) (hL : L ≤ 256) (hP : va_P D vwCl ((ms_WX cA xa a i f o ++ ms_WM cA ma b j g t) ++ pl) H) (hD : va_D (fun q : Nat => s.heap.size ≤ q) ((ms_WX cA xa a i f o ++ ms_WM cA ma b j g t) ++ pl)) (hS : va_S (fun q : Nat => s.heap.size ≤ q) s.heap H locs) (hl : lv_has ls 4 [(3, .int (nI (4 * n))), (2, .ref ma), (1, .ref xa), (0, .ref b0)]) (hB : ms_BX i f) (hM : ms_BM j g t) (hq : ms_hq cA o pl) (hrel : ms_rel i f j g) (kk : ∀ (a : Nat → Nat) (i : Nat → Int32) (f : Nat → Nat → Int32) (o : Nat → Option Nat) (pl : va_W) (j : Nat → Int32) (g : Nat → Nat → Int32) (t : Nat → Int64) (H : Heap) (locs : List Loc) (ls : Array Slot), va_P D vwCl ((ms_WX cA xa a i f o ++ ms_WM cA ma b j g t) ++ pl) H → va_D (fun q : Nat => s.heap.size ≤ q) ((ms_WX cA xa a i f o ++ ms_WM cA ma b j g t) ++ pl) → va_S (fun q : Nat => s.heap.size ≤ q) s.heap H locs → lv_has ls 4 [(3, .int (nI (4 * n))), (2, .ref ma), (1, .ref xa), (0, .ref b0)] → ms_BX i f → ms_BM j g t → ms_hq cA o pl → ms_rel i f j g → W p l e room_1 s m #[Value.ref b0] below meth c H locs (69 + 2 * (n + 1)) (1489 + 15 * (n + 1)) (lw_Z below #[Value.ref b0] s) (F0 m 988 ls [])) : W p l e room_1 s m #[Value.ref b0] below meth c H locs (69 + 2 * n) (1489 + 15 * n) (lw_Z below #[Value.ref b0] s) (F0 m 419 ls []) := by
  obtain ⟨hx, hb, hr, hml, hown, hts0, hX, hbl, hlocks, hgv⟩ := id C0
  have hb : c.code = cL_law := hb
  have hown : s.vm.findClass RL = some m.cls := hown
  have hts : ∀ w ∈ wsL_law, w.before #[Value.ref b0] s = true := fun w h => hts0 w (wsL_law_in w h)
  have hA : ∀ q : Nat, s.heap.size ≤ q → (fun q : Nat => s.heap.size ≤ q) q := fun _ h => h
  have hbA : ¬ (fun q : Nat => s.heap.size ≤ q) b0 := Nat.not_le.mpr hbl
  refine lv_aload_n hx hb dL_law_419 rfl (lv_at hl 2 rfl) ?_
  refine lv_aload_n hx hb dL_law_420 rfl (lv_at hl 3 rfl) ?_
  refine lv_iload_n hx hb dL_law_421 rfl (lv_at hl 0 rfl) ?_
  refine lv_iconst (v := 1) hx hb dL_law_422 (by decide) ?_
  refine lv_iadd hx hb dL_law_423 ?_
  refine ms_eqi (y := nI (4 * n + 1)) (nI_add (4 * n) 1) ?_
  refine ms_sld hx hb hX hbl hbA hS (4 * n + 1) rfl (by omega) (by omega) dL_law_424 ?_
  refine lv_aload_n hx hb dL_law_425 rfl (lv_at hl 3 rfl) ?_
  refine lv_iload_n hx hb dL_law_426 rfl (lv_at hl 0 rfl) ?_
  refine lv_iconst (v := 2) hx hb dL_law_427 (by decide) ?_
  refine lv_iadd hx hb dL_law_428 ?_
  refine ms_eqi (y := nI (4 * n + 2)) (nI_add (4 * n) 2) ?_
  refine ms_sld hx hb hX hbl hbA hS (4 * n + 2) rfl (by omega) (by omega) dL_law_429 ?_
  refine lv_aload_n hx hb dL_law_430 rfl (lv_at hl 3 rfl) ?_
  refine lv_iload_n hx hb dL_law_431 rfl (lv_at hl 0 rfl) ?_
  refine lv_iconst (v := 3) hx hb dL_law_432 (by decide) ?_
  refine lv_iadd hx hb dL_law_433 ?_
  refine ms_eqi (y := nI (4 * n + 3)) (nI_add (4 * n) 3) ?_
  refine ms_sld hx hb hX hbl hbA hS (4 * n + 3) rfl (by omega) (by omega) dL_law_434 ?_
  refine lv_if_eq (tgt := 442) hx hb dL_law_435 (by decide) (fun c1 => ?_) (fun c1 => ?_)
  · refine lv_iconst (v := 0) hx hb dL_law_442 (by decide) ?_
    refine ms_pVi (qc := (RX10, TX10, 12)) (wc := ms_WX cA xa a i f o) (wr := ms_WM cA ma b j g t) (w1 := fun (u : ((Nat → Nat) × (Nat → Int32) × (Nat → Nat → Int32) × (Nat → Option Nat) × va_W)) => ms_WX cA xa u.1 u.2.1 u.2.2.1 u.2.2.2.1) (p1 := fun (u : ((Nat → Nat) × (Nat → Int32) × (Nat → Nat → Int32) × (Nat → Option Nat) × va_W)) => u.2.2.2.2) ⟨hx, hb, hml, hown, hts⟩ hE (wX10_way l D cA xa a i f o pl (xs (4 * n + 1)) (xs (4 * n + 2)) 0 (by decide) (by decide) hB hq) (cwV 3 hts gL_law_X10_way rfl rfl rfl (by decide +kernel) ⟨Nat.le_of_ble_eq_true rfl, Nat.le_of_ble_eq_true rfl⟩) hP hD hS hA [0, 1, 2, 3, 4, 5, 6, 7, 8, 9, 10, 11, 12, 13, 14, 15, 16, 17, 18, 19, 20, 21, 22, 23, 24, 25, 26, 27, 28, 29, 30, 31, 32, 33, 34, 35, 36, 37, 38, 39, 40, 41, 42, 43, 44, 45, 46, 47, 48, 49] [50, 51, 52, 53, 54, 55, 56, 57, 58, 59, 60, 61, 62, 63, 64, 65, 66, 67, 68] rfl rfl rfl rfl (by decide) 0 10 rfl rfl rfl hl.1 rfl (Nat.le_of_ble_eq_true rfl) dL_law_443 ⟨Nat.le_trans (show 69 + 2 * n + 0 ≤ 600 by omega) (Nat.le_of_ble_eq_true rfl), Nat.le_trans (show 1489 + 15 * n + 0 ≤ 6000 by omega) (Nat.le_of_ble_eq_true rfl)⟩ (fun r2 u3 H locs hp hP hD hS => ?_)
    obtain ⟨hB1, hq1, ex1⟩ := hp
    have hP : va_P D vwCl ((ms_WM cA ma b j g t ++ ms_WX cA xa u3.1 u3.2.1 u3.2.2.1 u3.2.2.2.1) ++ u3.2.2.2.2) H := hP
    have hD : va_D (fun q : Nat => s.heap.size ≤ q) ((ms_WM cA ma b j g t ++ ms_WX cA xa u3.1 u3.2.1 u3.2.2.1 u3.2.2.2.1) ++ u3.2.2.2.2) := hD
    refine lv_pop hx hb dL_law_446 rfl ?_
    refine lv_aload_n hx hb dL_law_447 rfl (lv_at hl 1 rfl) ?_
    refine lv_aload_n hx hb dL_law_448 rfl (lv_at hl 3 rfl) ?_
    refine lv_iload_n hx hb dL_law_449 rfl (lv_at hl 0 rfl) ?_
    refine lv_iconst (v := 1) hx hb dL_law_450 (by decide) ?_
    refine lv_iadd hx hb dL_law_451 ?_
    refine ms_eqi (y := nI (4 * n + 1)) (nI_add (4 * n) 1) ?_
    refine ms_sld hx hb hX hbl hbA hS (4 * n + 1) rfl (by omega) (by omega) dL_law_452 ?_
    refine lv_aload_n hx hb dL_law_453 rfl (lv_at hl 3 rfl) ?_
    refine lv_iload_n hx hb dL_law_454 rfl (lv_at hl 0 rfl) ?_
    refine lv_iconst (v := 2) hx hb dL_law_455 (by decide) ?_
    refine lv_iadd hx hb dL_law_456 ?_
    refine ms_eqi (y := nI (4 * n + 2)) (nI_add (4 * n) 2) ?_
    refine ms_sld hx hb hX hbl hbA hS (4 * n + 2) rfl (by omega) (by omega) dL_law_457 ?_
    refine lv_aload_n hx hb dL_law_458 rfl (lv_at hl 3 rfl) ?_
    refine lv_iload_n hx hb dL_law_459 rfl (lv_at hl 0 rfl) ?_
    refine lv_iconst (v := 3) hx hb dL_law_460 (by decide) ?_
    refine lv_iadd hx hb dL_law_461 ?_
    refine ms_eqi (y := nI (4 * n + 3)) (nI_add (4 * n) 3) ?_
    refine ms_sld hx hb hX hbl hbA hS (4 * n + 3) rfl (by omega) (by omega) dL_law_462 ?_
    refine lv_if_eq (tgt := 470) hx hb dL_law_463 (by decide) (fun _ => ?_) (fun c => absurd c1 c)
    refine lv_iconst (v := 0) hx hb dL_law_470 (by decide) ?_
    refine ms_qVi (qc := (RX11, TX11, 32)) (wc := ms_WM cA ma b j g t) (wr := ms_WX cA xa u3.1 u3.2.1 u3.2.2.1 u3.2.2.2.1) (w1 := fun (u : ((Nat → Int32) × (Nat → Nat → Int32) × (Nat → Int64))) => ms_WM cA ma b u.1 u.2.1 u.2.2) ⟨hx, hb, hml, hown, hts⟩ hE (wX11_way l D cA ma b j g t (xs (4 * n + 1)) (xs (4 * n + 2)) 0 (by decide) (by decide) hM) (cwV 3 hts gL_law_X11_way rfl rfl rfl (by decide +kernel) ⟨Nat.le_of_ble_eq_true rfl, Nat.le_of_ble_eq_true rfl⟩) hP hD hS hA [0, 1, 2, 3, 4, 5, 6, 7, 8, 9, 10, 11, 12, 13, 14, 15, 16, 17, 18] [19, 20, 21, 22, 23, 24, 25, 26, 27, 28, 29, 30, 31, 32, 33, 34, 35, 36, 37, 38, 39, 40, 41, 42, 43, 44, 45, 46, 47, 48, 49, 50, 51, 52, 53, 54, 55, 56, 57, 58, 59, 60, 61, 62, 63, 64, 65, 66, 67, 68] rfl rfl rfl rfl (by decide) 0 11 rfl rfl rfl hl.1 rfl (Nat.le_of_ble_eq_true rfl) dL_law_471 ⟨Nat.le_trans (show 69 + 2 * n + 0 + 0 ≤ 600 by omega) (Nat.le_of_ble_eq_true rfl), Nat.le_trans (show 1489 + 15 * n + 0 + 0 ≤ 6000 by omega) (Nat.le_of_ble_eq_true rfl)⟩ (fun r4 u5 H locs hp hP hD hS => ?_)
    obtain ⟨hM1, ex2⟩ := hp
    have hP : va_P D vwCl ((ms_WX cA xa u3.1 u3.2.1 u3.2.2.1 u3.2.2.2.1 ++ ms_WM cA ma b u5.1 u5.2.1 u5.2.2) ++ u3.2.2.2.2) H := hP
    have hD : va_D (fun q : Nat => s.heap.size ≤ q) ((ms_WX cA xa u3.1 u3.2.1 u3.2.2.1 u3.2.2.2.1 ++ ms_WM cA ma b u5.1 u5.2.1 u5.2.2) ++ u3.2.2.2.2) := hD
    refine lv_pop hx hb dL_law_474 rfl ?_
    refine lv_goto (tgt := 988) hx hb dL_law_475 (by decide) ?_
    refine W.widen (k := 69 + 2 * (n + 1)) (n := 1489 + 15 * (n + 1)) (show 69 + 2 * n + 0 + 0 ≤ _ by omega) (show 1489 + 15 * n + 0 + 0 ≤ _ by omega) ?_
    exact kk _ _ _ _ _ _ _ _ _ _ _ hP hD hS hl hB1 hM1 hq1 ⟨ex1.1.trans (Eq.trans hrel.1 ex2.1.symm), ex1.2.2.2.2.2.2.2.2.2.2.2.1.trans (Eq.trans hrel.2.1 ex2.2.2.2.2.1.symm), mz_elc hrel.2.2.1 ex1.2.2.1 ex1.2.2.2.1 ex1.2.2.2.2.1 ex1.2.2.2.2.2.1 ex1.2.2.2.2.2.2.1 ex1.2.2.2.2.2.2.2.2.2.2.2.2.1 ex1.2.2.2.2.2.2.2.2.2.2.2.2.2.1 ex1.2.2.2.2.2.2.2.2.2.2.2.2.2.2.1 ex1.2.2.2.2.2.2.2.2.2.2.2.2.2.2.2.1 ex1.2.2.2.2.2.2.2.2.2.2.2.2.2.2.2.2.1 ex1.2.2.2.2.2.2.2.2.2.2.2.2.2.2.2.2.2.1 ex1.2.2.2.2.2.2.2.2.2.2.2.2.2.2.2.2.2.2.1 ex1.2.2.2.2.2.2.2.2.2.2.2.2.2.2.2.2.2.2.2.1 ex2.2.2.2.2.2.1, ex1.2.2.2.2.2.2.2.2.1.trans (Eq.trans hrel.2.2.2.1 ex2.2.2.2.1.symm), ex1.2.2.2.2.2.2.2.1.trans (Eq.trans hrel.2.2.2.2.1 ex2.2.2.1.symm), trivial⟩
  · refine lv_iconst (v := 1) hx hb dL_law_438 (by decide) ?_
    refine lv_goto (tgt := 443) hx hb dL_law_439 (by decide) ?_
    refine ms_pVi (qc := (RX10, TX10, 12)) (wc := ms_WX cA xa a i f o) (wr := ms_WM cA ma b j g t) (w1 := fun (u : ((Nat → Nat) × (Nat → Int32) × (Nat → Nat → Int32) × (Nat → Option Nat) × va_W)) => ms_WX cA xa u.1 u.2.1 u.2.2.1 u.2.2.2.1) (p1 := fun (u : ((Nat → Nat) × (Nat → Int32) × (Nat → Nat → Int32) × (Nat → Option Nat) × va_W)) => u.2.2.2.2) ⟨hx, hb, hml, hown, hts⟩ hE (wX10_way l D cA xa a i f o pl (xs (4 * n + 1)) (xs (4 * n + 2)) 1 (by decide) (by decide) hB hq) (cwV 3 hts gL_law_X10_way rfl rfl rfl (by decide +kernel) ⟨Nat.le_of_ble_eq_true rfl, Nat.le_of_ble_eq_true rfl⟩) hP hD hS hA [0, 1, 2, 3, 4, 5, 6, 7, 8, 9, 10, 11, 12, 13, 14, 15, 16, 17, 18, 19, 20, 21, 22, 23, 24, 25, 26, 27, 28, 29, 30, 31, 32, 33, 34, 35, 36, 37, 38, 39, 40, 41, 42, 43, 44, 45, 46, 47, 48, 49] [50, 51, 52, 53, 54, 55, 56, 57, 58, 59, 60, 61, 62, 63, 64, 65, 66, 67, 68] rfl rfl rfl rfl (by decide) 0 10 rfl rfl rfl hl.1 rfl (Nat.le_of_ble_eq_true rfl) dL_law_443 ⟨Nat.le_trans (show 69 + 2 * n + 0 ≤ 600 by omega) (Nat.le_of_ble_eq_true rfl), Nat.le_trans (show 1489 + 15 * n + 0 ≤ 6000 by omega) (Nat.le_of_ble_eq_true rfl)⟩ (fun r6 u7 H locs hp hP hD hS => ?_)
    obtain ⟨hB1, hq1, ex1⟩ := hp
    have hP : va_P D vwCl ((ms_WM cA ma b j g t ++ ms_WX cA xa u7.1 u7.2.1 u7.2.2.1 u7.2.2.2.1) ++ u7.2.2.2.2) H := hP
    have hD : va_D (fun q : Nat => s.heap.size ≤ q) ((ms_WM cA ma b j g t ++ ms_WX cA xa u7.1 u7.2.1 u7.2.2.1 u7.2.2.2.1) ++ u7.2.2.2.2) := hD
    refine lv_pop hx hb dL_law_446 rfl ?_
    refine lv_aload_n hx hb dL_law_447 rfl (lv_at hl 1 rfl) ?_
    refine lv_aload_n hx hb dL_law_448 rfl (lv_at hl 3 rfl) ?_
    refine lv_iload_n hx hb dL_law_449 rfl (lv_at hl 0 rfl) ?_
    refine lv_iconst (v := 1) hx hb dL_law_450 (by decide) ?_
    refine lv_iadd hx hb dL_law_451 ?_
    refine ms_eqi (y := nI (4 * n + 1)) (nI_add (4 * n) 1) ?_
    refine ms_sld hx hb hX hbl hbA hS (4 * n + 1) rfl (by omega) (by omega) dL_law_452 ?_
    refine lv_aload_n hx hb dL_law_453 rfl (lv_at hl 3 rfl) ?_
    refine lv_iload_n hx hb dL_law_454 rfl (lv_at hl 0 rfl) ?_
    refine lv_iconst (v := 2) hx hb dL_law_455 (by decide) ?_
    refine lv_iadd hx hb dL_law_456 ?_
    refine ms_eqi (y := nI (4 * n + 2)) (nI_add (4 * n) 2) ?_
    refine ms_sld hx hb hX hbl hbA hS (4 * n + 2) rfl (by omega) (by omega) dL_law_457 ?_
    refine lv_aload_n hx hb dL_law_458 rfl (lv_at hl 3 rfl) ?_
    refine lv_iload_n hx hb dL_law_459 rfl (lv_at hl 0 rfl) ?_
    refine lv_iconst (v := 3) hx hb dL_law_460 (by decide) ?_
    refine lv_iadd hx hb dL_law_461 ?_
    refine ms_eqi (y := nI (4 * n + 3)) (nI_add (4 * n) 3) ?_
    refine ms_sld hx hb hX hbl hbA hS (4 * n + 3) rfl (by omega) (by omega) dL_law_462 ?_
    refine lv_if_eq (tgt := 470) hx hb dL_law_463 (by decide) (fun c => absurd c c1) (fun _ => ?_)
    refine lv_iconst (v := 1) hx hb dL_law_466 (by decide) ?_
    refine lv_goto (tgt := 471) hx hb dL_law_467 (by decide) ?_
    refine ms_qVi (qc := (RX11, TX11, 32)) (wc := ms_WM cA ma b j g t) (wr := ms_WX cA xa u7.1 u7.2.1 u7.2.2.1 u7.2.2.2.1) (w1 := fun (u : ((Nat → Int32) × (Nat → Nat → Int32) × (Nat → Int64))) => ms_WM cA ma b u.1 u.2.1 u.2.2) ⟨hx, hb, hml, hown, hts⟩ hE (wX11_way l D cA ma b j g t (xs (4 * n + 1)) (xs (4 * n + 2)) 1 (by decide) (by decide) hM) (cwV 3 hts gL_law_X11_way rfl rfl rfl (by decide +kernel) ⟨Nat.le_of_ble_eq_true rfl, Nat.le_of_ble_eq_true rfl⟩) hP hD hS hA [0, 1, 2, 3, 4, 5, 6, 7, 8, 9, 10, 11, 12, 13, 14, 15, 16, 17, 18] [19, 20, 21, 22, 23, 24, 25, 26, 27, 28, 29, 30, 31, 32, 33, 34, 35, 36, 37, 38, 39, 40, 41, 42, 43, 44, 45, 46, 47, 48, 49, 50, 51, 52, 53, 54, 55, 56, 57, 58, 59, 60, 61, 62, 63, 64, 65, 66, 67, 68] rfl rfl rfl rfl (by decide) 0 11 rfl rfl rfl hl.1 rfl (Nat.le_of_ble_eq_true rfl) dL_law_471 ⟨Nat.le_trans (show 69 + 2 * n + 0 + 0 ≤ 600 by omega) (Nat.le_of_ble_eq_true rfl), Nat.le_trans (show 1489 + 15 * n + 0 + 0 ≤ 6000 by omega) (Nat.le_of_ble_eq_true rfl)⟩ (fun r8 u9 H locs hp hP hD hS => ?_)
    obtain ⟨hM1, ex2⟩ := hp
    have hP : va_P D vwCl ((ms_WX cA xa u7.1 u7.2.1 u7.2.2.1 u7.2.2.2.1 ++ ms_WM cA ma b u9.1 u9.2.1 u9.2.2) ++ u7.2.2.2.2) H := hP
    have hD : va_D (fun q : Nat => s.heap.size ≤ q) ((ms_WX cA xa u7.1 u7.2.1 u7.2.2.1 u7.2.2.2.1 ++ ms_WM cA ma b u9.1 u9.2.1 u9.2.2) ++ u7.2.2.2.2) := hD
    refine lv_pop hx hb dL_law_474 rfl ?_
    refine lv_goto (tgt := 988) hx hb dL_law_475 (by decide) ?_
    refine W.widen (k := 69 + 2 * (n + 1)) (n := 1489 + 15 * (n + 1)) (show 69 + 2 * n + 0 + 0 ≤ _ by omega) (show 1489 + 15 * n + 0 + 0 ≤ _ by omega) ?_
    exact kk _ _ _ _ _ _ _ _ _ _ _ hP hD hS hl hB1 hM1 hq1 ⟨ex1.1.trans (Eq.trans hrel.1 ex2.1.symm), ex1.2.2.2.2.2.2.2.2.2.2.2.1.trans (Eq.trans hrel.2.1 ex2.2.2.2.2.1.symm), mz_elc hrel.2.2.1 ex1.2.2.1 ex1.2.2.2.1 ex1.2.2.2.2.1 ex1.2.2.2.2.2.1 ex1.2.2.2.2.2.2.1 ex1.2.2.2.2.2.2.2.2.2.2.2.2.1 ex1.2.2.2.2.2.2.2.2.2.2.2.2.2.1 ex1.2.2.2.2.2.2.2.2.2.2.2.2.2.2.1 ex1.2.2.2.2.2.2.2.2.2.2.2.2.2.2.2.1 ex1.2.2.2.2.2.2.2.2.2.2.2.2.2.2.2.2.1 ex1.2.2.2.2.2.2.2.2.2.2.2.2.2.2.2.2.2.1 ex1.2.2.2.2.2.2.2.2.2.2.2.2.2.2.2.2.2.2.1 ex1.2.2.2.2.2.2.2.2.2.2.2.2.2.2.2.2.2.2.2.1 ex2.2.2.2.2.2.1, ex1.2.2.2.2.2.2.2.2.1.trans (Eq.trans hrel.2.2.2.1 ex2.2.2.2.1.symm), ex1.2.2.2.2.2.2.2.1.trans (Eq.trans hrel.2.2.2.2.1 ex2.2.2.1.symm), trivial⟩
set_option maxHeartbeats 4000000 in
set_option maxRecDepth 100000 in
theorem law_12 (l : Launch) (D : va_G) (cA : Nat → ClassId) (xa ma : Nat) (a : Nat → Nat) (b : Nat → Nat) (i : Nat → Int32) (f : Nat → Nat → Int32) (o : Nat → Option Nat) (pl : va_W) (j : Nat → Int32) (g : Nat → Nat → Int32) (t : Nat → Int64) {p : Program} {e : Env} {s : State} {m : MethodId} {below : List Frame} {meth : Method} {c : Code} {b0 L : Nat} {xs : Nat → Int32} {H : Heap} {locs : List Loc} {ls : Array Slot} {n : Nat} (C0 : lw_At p s m meth c b0 L xs) (hE : ms_EV D cA s) (hn : 4 * n + 4 ≤ L) (hL : L ≤ 256) (hP : va_P D vwCl ((ms_WX cA xa a i f o ++ ms_WM cA ma b j g t) ++ pl) H) (hD : va_D (fun q : Nat => s.heap.size ≤ q) ((ms_WX cA xa a i f o ++ ms_WM cA ma b j g t) ++ pl)) (hS : va_S (fun q : Nat => s.heap.size ≤ q) s.heap H locs) (hl : lv_has ls 4 [(3, .int (nI (4 * n))), (2, .ref ma), (1, .ref xa), (0, .ref b0)]) (hB : ms_BX i f) (hM : ms_BM j g t) (hq : ms_hq cA o pl) (hrel : ms_rel i f j g) (kk : ∀ (a : Nat → Nat) (i : Nat → Int32) (f : Nat → Nat → Int32) (o : Nat → Option Nat) (pl : va_W) (j : Nat → Int32) (g : Nat → Nat → Int32) (t : Nat → Int64) (H : Heap) (locs : List Loc) (ls : Array Slot), va_P D vwCl ((ms_WX cA xa a i f o ++ ms_WM cA ma b j g t) ++ pl) H → va_D (fun q : Nat => s.heap.size ≤ q) ((ms_WX cA xa a i f o ++ ms_WM cA ma b j g t) ++ pl) → va_S (fun q : Nat => s.heap.size ≤ q) s.heap H locs → lv_has ls 4 [(3, .int (nI (4 * n))), (2, .ref ma), (1, .ref xa), (0, .ref b0)] → ms_BX i f → ms_BM j g t → ms_hq cA o pl → ms_rel i f j g → W p l e room_1 s m #[Value.ref b0] below meth c H locs (69 + 2 * (n + 1)) (1489 + 15 * (n + 1)) (lw_Z below #[Value.ref b0] s) (F0 m 988 ls [])) : W p l e room_1 s m #[Value.ref b0] below meth c H locs (69 + 2 * n) (1489 + 15 * n) (lw_Z below #[Value.ref b0] s) (F0 m 478 ls []) := by
  obtain ⟨hx, hb, hr, hml, hown, hts0, hX, hbl, hlocks, hgv⟩ := id C0
  have hb : c.code = cL_law := hb
  have hown : s.vm.findClass RL = some m.cls := hown
  have hts : ∀ w ∈ wsL_law, w.before #[Value.ref b0] s = true := fun w h => hts0 w (wsL_law_in w h)
  have hA : ∀ q : Nat, s.heap.size ≤ q → (fun q : Nat => s.heap.size ≤ q) q := fun _ h => h
  have hbA : ¬ (fun q : Nat => s.heap.size ≤ q) b0 := Nat.not_le.mpr hbl
  refine lv_aload_n hx hb dL_law_478 rfl (lv_at hl 2 rfl) ?_
  refine lv_aload_n hx hb dL_law_479 rfl (lv_at hl 3 rfl) ?_
  refine lv_iload_n hx hb dL_law_480 rfl (lv_at hl 0 rfl) ?_
  refine lv_iconst (v := 1) hx hb dL_law_481 (by decide) ?_
  refine lv_iadd hx hb dL_law_482 ?_
  refine ms_eqi (y := nI (4 * n + 1)) (nI_add (4 * n) 1) ?_
  refine ms_sld hx hb hX hbl hbA hS (4 * n + 1) rfl (by omega) (by omega) dL_law_483 ?_
  refine lv_aload_n hx hb dL_law_484 rfl (lv_at hl 3 rfl) ?_
  refine lv_iload_n hx hb dL_law_485 rfl (lv_at hl 0 rfl) ?_
  refine lv_iconst (v := 2) hx hb dL_law_486 (by decide) ?_
  refine lv_iadd hx hb dL_law_487 ?_
  refine ms_eqi (y := nI (4 * n + 2)) (nI_add (4 * n) 2) ?_
  refine ms_sld hx hb hX hbl hbA hS (4 * n + 2) rfl (by omega) (by omega) dL_law_488 ?_
  refine lv_aload_n hx hb dL_law_489 rfl (lv_at hl 3 rfl) ?_
  refine lv_iload_n hx hb dL_law_490 rfl (lv_at hl 0 rfl) ?_
  refine lv_iconst (v := 3) hx hb dL_law_491 (by decide) ?_
  refine lv_iadd hx hb dL_law_492 ?_
  refine ms_eqi (y := nI (4 * n + 3)) (nI_add (4 * n) 3) ?_
  refine ms_sld hx hb hX hbl hbA hS (4 * n + 3) rfl (by omega) (by omega) dL_law_493 ?_
  refine ms_pVi (qc := (RX10, TX10, 12)) (wc := ms_WX cA xa a i f o) (wr := ms_WM cA ma b j g t) (w1 := fun (u : ((Nat → Nat) × (Nat → Int32) × (Nat → Nat → Int32) × (Nat → Option Nat) × va_W)) => ms_WX cA xa u.1 u.2.1 u.2.2.1 u.2.2.2.1) (p1 := fun (u : ((Nat → Nat) × (Nat → Int32) × (Nat → Nat → Int32) × (Nat → Option Nat) × va_W)) => u.2.2.2.2) ⟨hx, hb, hml, hown, hts⟩ hE (wX10_truly l D cA xa a i f o pl (xs (4 * n + 1)) (xs (4 * n + 2)) (xs (4 * n + 3))  hB hq) (cwV 3 hts gL_law_X10_truly rfl rfl rfl (by decide +kernel) ⟨Nat.le_of_ble_eq_true rfl, Nat.le_of_ble_eq_true rfl⟩) hP hD hS hA [0, 1, 2, 3, 4, 5, 6, 7, 8, 9, 10, 11, 12, 13, 14, 15, 16, 17, 18, 19, 20, 21, 22, 23, 24, 25, 26, 27, 28, 29, 30, 31, 32, 33, 34, 35, 36, 37, 38, 39, 40, 41, 42, 43, 44, 45, 46, 47, 48, 49] [50, 51, 52, 53, 54, 55, 56, 57, 58, 59, 60, 61, 62, 63, 64, 65, 66, 67, 68] rfl rfl rfl rfl (by decide) 0 10 rfl rfl rfl hl.1 rfl (Nat.le_of_ble_eq_true rfl) dL_law_494 ⟨Nat.le_trans (show 69 + 2 * n + 0 ≤ 600 by omega) (Nat.le_of_ble_eq_true rfl), Nat.le_trans (show 1489 + 15 * n + 0 ≤ 6000 by omega) (Nat.le_of_ble_eq_true rfl)⟩ (fun r1 u2 H locs hp hP hD hS => ?_)
  obtain ⟨hB1, hq1, ex1⟩ := hp
  have hP : va_P D vwCl ((ms_WM cA ma b j g t ++ ms_WX cA xa u2.1 u2.2.1 u2.2.2.1 u2.2.2.2.1) ++ u2.2.2.2.2) H := hP
  have hD : va_D (fun q : Nat => s.heap.size ≤ q) ((ms_WM cA ma b j g t ++ ms_WX cA xa u2.1 u2.2.1 u2.2.2.1 u2.2.2.2.1) ++ u2.2.2.2.2) := hD
  refine lv_pop hx hb dL_law_497 rfl ?_
  refine lv_aload_n hx hb dL_law_498 rfl (lv_at hl 1 rfl) ?_
  refine lv_aload_n hx hb dL_law_499 rfl (lv_at hl 3 rfl) ?_
  refine lv_iload_n hx hb dL_law_500 rfl (lv_at hl 0 rfl) ?_
  refine lv_iconst (v := 1) hx hb dL_law_501 (by decide) ?_
  refine lv_iadd hx hb dL_law_502 ?_
  refine ms_eqi (y := nI (4 * n + 1)) (nI_add (4 * n) 1) ?_
  refine ms_sld hx hb hX hbl hbA hS (4 * n + 1) rfl (by omega) (by omega) dL_law_503 ?_
  refine lv_aload_n hx hb dL_law_504 rfl (lv_at hl 3 rfl) ?_
  refine lv_iload_n hx hb dL_law_505 rfl (lv_at hl 0 rfl) ?_
  refine lv_iconst (v := 2) hx hb dL_law_506 (by decide) ?_
  refine lv_iadd hx hb dL_law_507 ?_
  refine ms_eqi (y := nI (4 * n + 2)) (nI_add (4 * n) 2) ?_
  refine ms_sld hx hb hX hbl hbA hS (4 * n + 2) rfl (by omega) (by omega) dL_law_508 ?_
  refine lv_aload_n hx hb dL_law_509 rfl (lv_at hl 3 rfl) ?_
  refine lv_iload_n hx hb dL_law_510 rfl (lv_at hl 0 rfl) ?_
  refine lv_iconst (v := 3) hx hb dL_law_511 (by decide) ?_
  refine lv_iadd hx hb dL_law_512 ?_
  refine ms_eqi (y := nI (4 * n + 3)) (nI_add (4 * n) 3) ?_
  refine ms_sld hx hb hX hbl hbA hS (4 * n + 3) rfl (by omega) (by omega) dL_law_513 ?_
  refine ms_qVi (qc := (RX11, TX11, 32)) (wc := ms_WM cA ma b j g t) (wr := ms_WX cA xa u2.1 u2.2.1 u2.2.2.1 u2.2.2.2.1) (w1 := fun (u : ((Nat → Int32) × (Nat → Nat → Int32) × (Nat → Int64))) => ms_WM cA ma b u.1 u.2.1 u.2.2) ⟨hx, hb, hml, hown, hts⟩ hE (wX11_truly l D cA ma b j g t (xs (4 * n + 1)) (xs (4 * n + 2)) (xs (4 * n + 3))  hM) (cwV 3 hts gL_law_X11_truly rfl rfl rfl (by decide +kernel) ⟨Nat.le_of_ble_eq_true rfl, Nat.le_of_ble_eq_true rfl⟩) hP hD hS hA [0, 1, 2, 3, 4, 5, 6, 7, 8, 9, 10, 11, 12, 13, 14, 15, 16, 17, 18] [19, 20, 21, 22, 23, 24, 25, 26, 27, 28, 29, 30, 31, 32, 33, 34, 35, 36, 37, 38, 39, 40, 41, 42, 43, 44, 45, 46, 47, 48, 49, 50, 51, 52, 53, 54, 55, 56, 57, 58, 59, 60, 61, 62, 63, 64, 65, 66, 67, 68] rfl rfl rfl rfl (by decide) 0 11 rfl rfl rfl hl.1 rfl (Nat.le_of_ble_eq_true rfl) dL_law_514 ⟨Nat.le_trans (show 69 + 2 * n + 0 + 0 ≤ 600 by omega) (Nat.le_of_ble_eq_true rfl), Nat.le_trans (show 1489 + 15 * n + 0 + 0 ≤ 6000 by omega) (Nat.le_of_ble_eq_true rfl)⟩ (fun r3 u4 H locs hp hP hD hS => ?_)
  obtain ⟨hM1, ex2⟩ := hp
  have hP : va_P D vwCl ((ms_WX cA xa u2.1 u2.2.1 u2.2.2.1 u2.2.2.2.1 ++ ms_WM cA ma b u4.1 u4.2.1 u4.2.2) ++ u2.2.2.2.2) H := hP
  have hD : va_D (fun q : Nat => s.heap.size ≤ q) ((ms_WX cA xa u2.1 u2.2.1 u2.2.2.1 u2.2.2.2.1 ++ ms_WM cA ma b u4.1 u4.2.1 u4.2.2) ++ u2.2.2.2.2) := hD
  refine lv_pop hx hb dL_law_517 rfl ?_
  refine lv_goto (tgt := 988) hx hb dL_law_518 (by decide) ?_
  refine W.widen (k := 69 + 2 * (n + 1)) (n := 1489 + 15 * (n + 1)) (show 69 + 2 * n + 0 + 0 ≤ _ by omega) (show 1489 + 15 * n + 0 + 0 ≤ _ by omega) ?_
  exact kk _ _ _ _ _ _ _ _ _ _ _ hP hD hS hl hB1 hM1 hq1 ⟨ex1.1.trans (Eq.trans hrel.1 ex2.1.symm), ex1.2.2.2.2.2.2.2.2.2.2.2.1.trans (Eq.trans hrel.2.1 ex2.2.2.2.2.1.symm), mz_elc hrel.2.2.1 ex1.2.2.1 ex1.2.2.2.1 ex1.2.2.2.2.1 ex1.2.2.2.2.2.1 ex1.2.2.2.2.2.2.1 ex1.2.2.2.2.2.2.2.2.2.2.2.2.1 ex1.2.2.2.2.2.2.2.2.2.2.2.2.2.1 ex1.2.2.2.2.2.2.2.2.2.2.2.2.2.2.1 ex1.2.2.2.2.2.2.2.2.2.2.2.2.2.2.2.1 ex1.2.2.2.2.2.2.2.2.2.2.2.2.2.2.2.2.1 ex1.2.2.2.2.2.2.2.2.2.2.2.2.2.2.2.2.2.1 ex1.2.2.2.2.2.2.2.2.2.2.2.2.2.2.2.2.2.2.1 ex1.2.2.2.2.2.2.2.2.2.2.2.2.2.2.2.2.2.2.2.1 ex2.2.2.2.2.2.1, ex1.2.2.2.2.2.2.2.2.1.trans (Eq.trans hrel.2.2.2.1 ex2.2.2.2.1.symm), ex1.2.2.2.2.2.2.2.1.trans (Eq.trans hrel.2.2.2.2.1 ex2.2.2.1.symm), trivial⟩
set_option maxHeartbeats 4000000 in
set_option maxRecDepth 100000 in
theorem law_13 (l : Launch) (D : va_G) (cA : Nat → ClassId) (xa ma : Nat) (a : Nat → Nat) (b : Nat → Nat) (i : Nat → Int32) (f : Nat → Nat → Int32) (o : Nat → Option Nat) (pl : va_W) (j : Nat → Int32) (g : Nat → Nat → Int32) (t : Nat → Int64) {p : Program} {e : Env} {s : State} {m : MethodId} {below : List Frame} {meth : Method} {c : Code} {b0 L : Nat} {xs : Nat → Int32} {H : Heap} {locs : List Loc} {ls : Array Slot} {n : Nat} (C0 : lw_At p s m meth c b0 L xs) (hE : ms_EV D cA s) (hn : 4 * n + 4 ≤ L) (hL : L ≤ 256) (hP : va_P D vwCl ((ms_WX cA xa a i f o ++ ms_WM cA ma b j g t) ++ pl) H) (hD : va_D (fun q : Nat => s.heap.size ≤ q) ((ms_WX cA xa a i f o ++ ms_WM cA ma b j g t) ++ pl)) (hS : va_S (fun q : Nat => s.heap.size ≤ q) s.heap H locs) (hl : lv_has ls 4 [(3, .int (nI (4 * n))), (2, .ref ma), (1, .ref xa), (0, .ref b0)]) (hB : ms_BX i f) (hM : ms_BM j g t) (hq : ms_hq cA o pl) (hrel : ms_rel i f j g) (kk : ∀ (a : Nat → Nat) (i : Nat → Int32) (f : Nat → Nat → Int32) (o : Nat → Option Nat) (pl : va_W) (j : Nat → Int32) (g : Nat → Nat → Int32) (t : Nat → Int64) (H : Heap) (locs : List Loc) (ls : Array Slot), va_P D vwCl ((ms_WX cA xa a i f o ++ ms_WM cA ma b j g t) ++ pl) H → va_D (fun q : Nat => s.heap.size ≤ q) ((ms_WX cA xa a i f o ++ ms_WM cA ma b j g t) ++ pl) → va_S (fun q : Nat => s.heap.size ≤ q) s.heap H locs → lv_has ls 4 [(3, .int (nI (4 * n))), (2, .ref ma), (1, .ref xa), (0, .ref b0)] → ms_BX i f → ms_BM j g t → ms_hq cA o pl → ms_rel i f j g → W p l e room_1 s m #[Value.ref b0] below meth c H locs (69 + 2 * (n + 1)) (1489 + 15 * (n + 1)) (lw_Z below #[Value.ref b0] s) (F0 m 988 ls [])) : W p l e room_1 s m #[Value.ref b0] below meth c H locs (69 + 2 * n) (1489 + 15 * n) (lw_Z below #[Value.ref b0] s) (F0 m 521 ls []) := by
  obtain ⟨hx, hb, hr, hml, hown, hts0, hX, hbl, hlocks, hgv⟩ := id C0
  have hb : c.code = cL_law := hb
  have hown : s.vm.findClass RL = some m.cls := hown
  have hts : ∀ w ∈ wsL_law, w.before #[Value.ref b0] s = true := fun w h => hts0 w (wsL_law_in w h)
  have hA : ∀ q : Nat, s.heap.size ≤ q → (fun q : Nat => s.heap.size ≤ q) q := fun _ h => h
  have hbA : ¬ (fun q : Nat => s.heap.size ≤ q) b0 := Nat.not_le.mpr hbl
  refine lv_aload_n hx hb dL_law_521 rfl (lv_at hl 2 rfl) ?_
  refine ms_pVi (qc := (RX10, TX10, 12)) (wc := ms_WX cA xa a i f o) (wr := ms_WM cA ma b j g t) (w1 := fun (u : ((Nat → Nat) × (Nat → Int32) × (Nat → Nat → Int32) × (Nat → Option Nat) × va_W)) => ms_WX cA xa u.1 u.2.1 u.2.2.1 u.2.2.2.1) (p1 := fun (u : ((Nat → Nat) × (Nat → Int32) × (Nat → Nat → Int32) × (Nat → Option Nat) × va_W)) => u.2.2.2.2) ⟨hx, hb, hml, hown, hts⟩ hE (wX10_adds l D cA xa a i f o pl   hB hq) (cwV 0 hts gL_law_X10_adds rfl rfl rfl (by decide +kernel) ⟨Nat.le_of_ble_eq_true rfl, Nat.le_of_ble_eq_true rfl⟩) hP hD hS hA [0, 1, 2, 3, 4, 5, 6, 7, 8, 9, 10, 11, 12, 13, 14, 15, 16, 17, 18, 19, 20, 21, 22, 23, 24, 25, 26, 27, 28, 29, 30, 31, 32, 33, 34, 35, 36, 37, 38, 39, 40, 41, 42, 43, 44, 45, 46, 47, 48, 49] [50, 51, 52, 53, 54, 55, 56, 57, 58, 59, 60, 61, 62, 63, 64, 65, 66, 67, 68] rfl rfl rfl rfl (by decide) 0 10 rfl rfl rfl hl.1 rfl (Nat.le_of_ble_eq_true rfl) dL_law_522 ⟨Nat.le_trans (show 69 + 2 * n + 0 ≤ 600 by omega) (Nat.le_of_ble_eq_true rfl), Nat.le_trans (show 1489 + 15 * n + 0 ≤ 6000 by omega) (Nat.le_of_ble_eq_true rfl)⟩ (fun r1 u2 H locs hp hP hD hS => ?_)
  obtain ⟨hB1, hq1, ex1⟩ := hp
  have hP : va_P D vwCl ((ms_WM cA ma b j g t ++ ms_WX cA xa u2.1 u2.2.1 u2.2.2.1 u2.2.2.2.1) ++ u2.2.2.2.2) H := hP
  have hD : va_D (fun q : Nat => s.heap.size ≤ q) ((ms_WM cA ma b j g t ++ ms_WX cA xa u2.1 u2.2.1 u2.2.2.1 u2.2.2.2.1) ++ u2.2.2.2.2) := hD
  refine lv_pop hx hb dL_law_525 rfl ?_
  refine lv_aload_n hx hb dL_law_526 rfl (lv_at hl 1 rfl) ?_
  refine ms_qVi (qc := (RX11, TX11, 32)) (wc := ms_WM cA ma b j g t) (wr := ms_WX cA xa u2.1 u2.2.1 u2.2.2.1 u2.2.2.2.1) (w1 := fun (u : ((Nat → Int32) × (Nat → Nat → Int32) × (Nat → Int64))) => ms_WM cA ma b u.1 u.2.1 u.2.2) ⟨hx, hb, hml, hown, hts⟩ hE (wX11_adds l D cA ma b j g t   hM) (cwV 0 hts gL_law_X11_adds rfl rfl rfl (by decide +kernel) ⟨Nat.le_of_ble_eq_true rfl, Nat.le_of_ble_eq_true rfl⟩) hP hD hS hA [0, 1, 2, 3, 4, 5, 6, 7, 8, 9, 10, 11, 12, 13, 14, 15, 16, 17, 18] [19, 20, 21, 22, 23, 24, 25, 26, 27, 28, 29, 30, 31, 32, 33, 34, 35, 36, 37, 38, 39, 40, 41, 42, 43, 44, 45, 46, 47, 48, 49, 50, 51, 52, 53, 54, 55, 56, 57, 58, 59, 60, 61, 62, 63, 64, 65, 66, 67, 68] rfl rfl rfl rfl (by decide) 0 11 rfl rfl rfl hl.1 rfl (Nat.le_of_ble_eq_true rfl) dL_law_527 ⟨Nat.le_trans (show 69 + 2 * n + 0 + 0 ≤ 600 by omega) (Nat.le_of_ble_eq_true rfl), Nat.le_trans (show 1489 + 15 * n + 0 + 0 ≤ 6000 by omega) (Nat.le_of_ble_eq_true rfl)⟩ (fun r3 u4 H locs hp hP hD hS => ?_)
  obtain ⟨hM1, ex2⟩ := hp
  have hP : va_P D vwCl ((ms_WX cA xa u2.1 u2.2.1 u2.2.2.1 u2.2.2.2.1 ++ ms_WM cA ma b u4.1 u4.2.1 u4.2.2) ++ u2.2.2.2.2) H := hP
  have hD : va_D (fun q : Nat => s.heap.size ≤ q) ((ms_WX cA xa u2.1 u2.2.1 u2.2.2.1 u2.2.2.2.1 ++ ms_WM cA ma b u4.1 u4.2.1 u4.2.2) ++ u2.2.2.2.2) := hD
  refine lv_pop hx hb dL_law_530 rfl ?_
  refine lv_goto (tgt := 988) hx hb dL_law_531 (by decide) ?_
  refine W.widen (k := 69 + 2 * (n + 1)) (n := 1489 + 15 * (n + 1)) (show 69 + 2 * n + 0 + 0 ≤ _ by omega) (show 1489 + 15 * n + 0 + 0 ≤ _ by omega) ?_
  exact kk _ _ _ _ _ _ _ _ _ _ _ hP hD hS hl hB1 hM1 hq1 ⟨ex1.1.trans (Eq.trans hrel.1 ex2.1.symm), ex1.2.2.2.2.2.2.2.2.2.2.2.1.trans (Eq.trans hrel.2.1 ex2.2.2.2.2.1.symm), mz_elc hrel.2.2.1 ex1.2.2.1 ex1.2.2.2.1 ex1.2.2.2.2.1 ex1.2.2.2.2.2.1 ex1.2.2.2.2.2.2.1 ex1.2.2.2.2.2.2.2.2.2.2.2.2.1 ex1.2.2.2.2.2.2.2.2.2.2.2.2.2.1 ex1.2.2.2.2.2.2.2.2.2.2.2.2.2.2.1 ex1.2.2.2.2.2.2.2.2.2.2.2.2.2.2.2.1 ex1.2.2.2.2.2.2.2.2.2.2.2.2.2.2.2.2.1 ex1.2.2.2.2.2.2.2.2.2.2.2.2.2.2.2.2.2.1 ex1.2.2.2.2.2.2.2.2.2.2.2.2.2.2.2.2.2.2.1 ex1.2.2.2.2.2.2.2.2.2.2.2.2.2.2.2.2.2.2.2.1 ex2.2.2.2.2.2.1, ex1.2.2.2.2.2.2.2.2.1.trans (Eq.trans hrel.2.2.2.1 ex2.2.2.2.1.symm), ex1.2.2.2.2.2.2.2.1.trans (Eq.trans hrel.2.2.2.2.1 ex2.2.2.1.symm), trivial⟩
set_option maxHeartbeats 4000000 in
set_option maxRecDepth 100000 in
theorem law_14 (l : Launch) (D : va_G) (cA : Nat → ClassId) (xa ma : Nat) (a : Nat → Nat) (b : Nat → Nat) (i : Nat → Int32) (f : Nat → Nat → Int32) (o : Nat → Option Nat) (pl : va_W) (j : Nat → Int32) (g : Nat → Nat → Int32) (t : Nat → Int64) {p : Program} {e : Env} {s : State} {m : MethodId} {below : List Frame} {meth : Method} {c : Code} {b0 L : Nat} {xs : Nat → Int32} {H : Heap} {locs : List Loc} {ls : Array Slot} {n : Nat} (C0 : lw_At p s m meth c b0 L xs) (hE : ms_EV D cA s) (hn : 4 * n + 4 ≤ L) (hL : L ≤ 256) (hP : va_P D vwCl ((ms_WX cA xa a i f o ++ ms_WM cA ma b j g t) ++ pl) H) (hD : va_D (fun q : Nat => s.heap.size ≤ q) ((ms_WX cA xa a i f o ++ ms_WM cA ma b j g t) ++ pl)) (hS : va_S (fun q : Nat => s.heap.size ≤ q) s.heap H locs) (hl : lv_has ls 4 [(3, .int (nI (4 * n))), (2, .ref ma), (1, .ref xa), (0, .ref b0)]) (hB : ms_BX i f) (hM : ms_BM j g t) (hq : ms_hq cA o pl) (hrel : ms_rel i f j g) (kk : ∀ (a : Nat → Nat) (i : Nat → Int32) (f : Nat → Nat → Int32) (o : Nat → Option Nat) (pl : va_W) (j : Nat → Int32) (g : Nat → Nat → Int32) (t : Nat → Int64) (H : Heap) (locs : List Loc) (ls : Array Slot), va_P D vwCl ((ms_WX cA xa a i f o ++ ms_WM cA ma b j g t) ++ pl) H → va_D (fun q : Nat => s.heap.size ≤ q) ((ms_WX cA xa a i f o ++ ms_WM cA ma b j g t) ++ pl) → va_S (fun q : Nat => s.heap.size ≤ q) s.heap H locs → lv_has ls 4 [(3, .int (nI (4 * n))), (2, .ref ma), (1, .ref xa), (0, .ref b0)] → ms_BX i f → ms_BM j g t → ms_hq cA o pl → ms_rel i f j g → W p l e room_1 s m #[Value.ref b0] below meth c H locs (69 + 2 * (n + 1)) (1489 + 15 * (n + 1)) (lw_Z below #[Value.ref b0] s) (F0 m 988 ls [])) : W p l e room_1 s m #[Value.ref b0] below meth c H locs (69 + 2 * n) (1489 + 15 * n) (lw_Z below #[Value.ref b0] s) (F0 m 534 ls []) := by
  obtain ⟨hx, hb, hr, hml, hown, hts0, hX, hbl, hlocks, hgv⟩ := id C0
  have hb : c.code = cL_law := hb
  have hown : s.vm.findClass RL = some m.cls := hown
  have hts : ∀ w ∈ wsL_law, w.before #[Value.ref b0] s = true := fun w h => hts0 w (wsL_law_in w h)
  have hA : ∀ q : Nat, s.heap.size ≤ q → (fun q : Nat => s.heap.size ≤ q) q := fun _ h => h
  have hbA : ¬ (fun q : Nat => s.heap.size ≤ q) b0 := Nat.not_le.mpr hbl
  refine lv_aload_n hx hb dL_law_534 rfl (lv_at hl 2 rfl) ?_
  refine lv_aload_n hx hb dL_law_535 rfl (lv_at hl 3 rfl) ?_
  refine lv_iload_n hx hb dL_law_536 rfl (lv_at hl 0 rfl) ?_
  refine lv_iconst (v := 1) hx hb dL_law_537 (by decide) ?_
  refine lv_iadd hx hb dL_law_538 ?_
  refine ms_eqi (y := nI (4 * n + 1)) (nI_add (4 * n) 1) ?_
  refine ms_sld hx hb hX hbl hbA hS (4 * n + 1) rfl (by omega) (by omega) dL_law_539 ?_
  refine ms_pVi (qc := (RX10, TX10, 12)) (wc := ms_WX cA xa a i f o) (wr := ms_WM cA ma b j g t) (w1 := fun (u : ((Nat → Nat) × (Nat → Int32) × (Nat → Nat → Int32) × (Nat → Option Nat) × va_W)) => ms_WX cA xa u.1 u.2.1 u.2.2.1 u.2.2.2.1) (p1 := fun (u : ((Nat → Nat) × (Nat → Int32) × (Nat → Nat → Int32) × (Nat → Option Nat) × va_W)) => u.2.2.2.2) ⟨hx, hb, hml, hown, hts⟩ hE (wX10_mend l D cA xa a i f o pl (xs (4 * n + 1))  hB hq) (cwV 1 hts gL_law_X10_mend rfl rfl rfl (by decide +kernel) ⟨Nat.le_of_ble_eq_true rfl, Nat.le_of_ble_eq_true rfl⟩) hP hD hS hA [0, 1, 2, 3, 4, 5, 6, 7, 8, 9, 10, 11, 12, 13, 14, 15, 16, 17, 18, 19, 20, 21, 22, 23, 24, 25, 26, 27, 28, 29, 30, 31, 32, 33, 34, 35, 36, 37, 38, 39, 40, 41, 42, 43, 44, 45, 46, 47, 48, 49] [50, 51, 52, 53, 54, 55, 56, 57, 58, 59, 60, 61, 62, 63, 64, 65, 66, 67, 68] rfl rfl rfl rfl (by decide) 0 10 rfl rfl rfl hl.1 rfl (Nat.le_of_ble_eq_true rfl) dL_law_540 ⟨Nat.le_trans (show 69 + 2 * n + 0 ≤ 600 by omega) (Nat.le_of_ble_eq_true rfl), Nat.le_trans (show 1489 + 15 * n + 0 ≤ 6000 by omega) (Nat.le_of_ble_eq_true rfl)⟩ (fun r1 u2 H locs hp hP hD hS => ?_)
  obtain ⟨hB1, hq1, ex1⟩ := hp
  have hP : va_P D vwCl ((ms_WM cA ma b j g t ++ ms_WX cA xa u2.1 u2.2.1 u2.2.2.1 u2.2.2.2.1) ++ u2.2.2.2.2) H := hP
  have hD : va_D (fun q : Nat => s.heap.size ≤ q) ((ms_WM cA ma b j g t ++ ms_WX cA xa u2.1 u2.2.1 u2.2.2.1 u2.2.2.2.1) ++ u2.2.2.2.2) := hD
  refine lv_pop hx hb dL_law_543 rfl ?_
  refine lv_aload_n hx hb dL_law_544 rfl (lv_at hl 1 rfl) ?_
  refine lv_aload_n hx hb dL_law_545 rfl (lv_at hl 3 rfl) ?_
  refine lv_iload_n hx hb dL_law_546 rfl (lv_at hl 0 rfl) ?_
  refine lv_iconst (v := 1) hx hb dL_law_547 (by decide) ?_
  refine lv_iadd hx hb dL_law_548 ?_
  refine ms_eqi (y := nI (4 * n + 1)) (nI_add (4 * n) 1) ?_
  refine ms_sld hx hb hX hbl hbA hS (4 * n + 1) rfl (by omega) (by omega) dL_law_549 ?_
  refine ms_qVi (qc := (RX11, TX11, 32)) (wc := ms_WM cA ma b j g t) (wr := ms_WX cA xa u2.1 u2.2.1 u2.2.2.1 u2.2.2.2.1) (w1 := fun (u : ((Nat → Int32) × (Nat → Nat → Int32) × (Nat → Int64))) => ms_WM cA ma b u.1 u.2.1 u.2.2) ⟨hx, hb, hml, hown, hts⟩ hE (wX11_mend l D cA ma b j g t (xs (4 * n + 1))  hM) (cwV 1 hts gL_law_X11_mend rfl rfl rfl (by decide +kernel) ⟨Nat.le_of_ble_eq_true rfl, Nat.le_of_ble_eq_true rfl⟩) hP hD hS hA [0, 1, 2, 3, 4, 5, 6, 7, 8, 9, 10, 11, 12, 13, 14, 15, 16, 17, 18] [19, 20, 21, 22, 23, 24, 25, 26, 27, 28, 29, 30, 31, 32, 33, 34, 35, 36, 37, 38, 39, 40, 41, 42, 43, 44, 45, 46, 47, 48, 49, 50, 51, 52, 53, 54, 55, 56, 57, 58, 59, 60, 61, 62, 63, 64, 65, 66, 67, 68] rfl rfl rfl rfl (by decide) 0 11 rfl rfl rfl hl.1 rfl (Nat.le_of_ble_eq_true rfl) dL_law_550 ⟨Nat.le_trans (show 69 + 2 * n + 0 + 0 ≤ 600 by omega) (Nat.le_of_ble_eq_true rfl), Nat.le_trans (show 1489 + 15 * n + 0 + 0 ≤ 6000 by omega) (Nat.le_of_ble_eq_true rfl)⟩ (fun r3 u4 H locs hp hP hD hS => ?_)
  obtain ⟨hM1, ex2⟩ := hp
  have hP : va_P D vwCl ((ms_WX cA xa u2.1 u2.2.1 u2.2.2.1 u2.2.2.2.1 ++ ms_WM cA ma b u4.1 u4.2.1 u4.2.2) ++ u2.2.2.2.2) H := hP
  have hD : va_D (fun q : Nat => s.heap.size ≤ q) ((ms_WX cA xa u2.1 u2.2.1 u2.2.2.1 u2.2.2.2.1 ++ ms_WM cA ma b u4.1 u4.2.1 u4.2.2) ++ u2.2.2.2.2) := hD
  refine lv_pop hx hb dL_law_553 rfl ?_
  refine lv_goto (tgt := 988) hx hb dL_law_554 (by decide) ?_
  refine W.widen (k := 69 + 2 * (n + 1)) (n := 1489 + 15 * (n + 1)) (show 69 + 2 * n + 0 + 0 ≤ _ by omega) (show 1489 + 15 * n + 0 + 0 ≤ _ by omega) ?_
  exact kk _ _ _ _ _ _ _ _ _ _ _ hP hD hS hl hB1 hM1 hq1 ⟨ex1.1.trans (Eq.trans hrel.1 ex2.1.symm), ex1.2.2.2.2.2.2.2.2.2.2.2.1.trans (Eq.trans hrel.2.1 ex2.2.2.2.2.1.symm), mz_elc hrel.2.2.1 ex1.2.2.1 ex1.2.2.2.1 ex1.2.2.2.2.1 ex1.2.2.2.2.2.1 ex1.2.2.2.2.2.2.1 ex1.2.2.2.2.2.2.2.2.2.2.2.2.1 ex1.2.2.2.2.2.2.2.2.2.2.2.2.2.1 ex1.2.2.2.2.2.2.2.2.2.2.2.2.2.2.1 ex1.2.2.2.2.2.2.2.2.2.2.2.2.2.2.2.1 ex1.2.2.2.2.2.2.2.2.2.2.2.2.2.2.2.2.1 ex1.2.2.2.2.2.2.2.2.2.2.2.2.2.2.2.2.2.1 ex1.2.2.2.2.2.2.2.2.2.2.2.2.2.2.2.2.2.2.1 ex1.2.2.2.2.2.2.2.2.2.2.2.2.2.2.2.2.2.2.2.1 ex2.2.2.2.2.2.1, ex1.2.2.2.2.2.2.2.2.1.trans (Eq.trans hrel.2.2.2.1 ex2.2.2.2.1.symm), ex1.2.2.2.2.2.2.2.1.trans (Eq.trans hrel.2.2.2.2.1 ex2.2.2.1.symm), trivial⟩
set_option maxHeartbeats 4000000 in
set_option maxRecDepth 100000 in
theorem law_15 (l : Launch) (D : va_G) (cA : Nat → ClassId) (xa ma : Nat) (a : Nat → Nat) (b : Nat → Nat) (i : Nat → Int32) (f : Nat → Nat → Int32) (o : Nat → Option Nat) (pl : va_W) (j : Nat → Int32) (g : Nat → Nat → Int32) (t : Nat → Int64) {p : Program} {e : Env} {s : State} {m : MethodId} {below : List Frame} {meth : Method} {c : Code} {b0 L : Nat} {xs : Nat → Int32} {H : Heap} {locs : List Loc} {ls : Array Slot} {n : Nat} (C0 : lw_At p s m meth c b0 L xs) (hE : ms_EV D cA s) (hn : 4 * n + 4 ≤ L) (hL : L ≤ 256) (hP : va_P D vwCl ((ms_WX cA xa a i f o ++ ms_WM cA ma b j g t) ++ pl) H) (hD : va_D (fun q : Nat => s.heap.size ≤ q) ((ms_WX cA xa a i f o ++ ms_WM cA ma b j g t) ++ pl)) (hS : va_S (fun q : Nat => s.heap.size ≤ q) s.heap H locs) (hl : lv_has ls 4 [(3, .int (nI (4 * n))), (2, .ref ma), (1, .ref xa), (0, .ref b0)]) (hB : ms_BX i f) (hM : ms_BM j g t) (hq : ms_hq cA o pl) (hrel : ms_rel i f j g) (kk : ∀ (a : Nat → Nat) (i : Nat → Int32) (f : Nat → Nat → Int32) (o : Nat → Option Nat) (pl : va_W) (j : Nat → Int32) (g : Nat → Nat → Int32) (t : Nat → Int64) (H : Heap) (locs : List Loc) (ls : Array Slot), va_P D vwCl ((ms_WX cA xa a i f o ++ ms_WM cA ma b j g t) ++ pl) H → va_D (fun q : Nat => s.heap.size ≤ q) ((ms_WX cA xa a i f o ++ ms_WM cA ma b j g t) ++ pl) → va_S (fun q : Nat => s.heap.size ≤ q) s.heap H locs → lv_has ls 4 [(3, .int (nI (4 * n))), (2, .ref ma), (1, .ref xa), (0, .ref b0)] → ms_BX i f → ms_BM j g t → ms_hq cA o pl → ms_rel i f j g → W p l e room_1 s m #[Value.ref b0] below meth c H locs (69 + 2 * (n + 1)) (1489 + 15 * (n + 1)) (lw_Z below #[Value.ref b0] s) (F0 m 988 ls [])) : W p l e room_1 s m #[Value.ref b0] below meth c H locs (69 + 2 * n) (1489 + 15 * n) (lw_Z below #[Value.ref b0] s) (F0 m 557 ls []) := by
  obtain ⟨hx, hb, hr, hml, hown, hts0, hX, hbl, hlocks, hgv⟩ := id C0
  have hb : c.code = cL_law := hb
  have hown : s.vm.findClass RL = some m.cls := hown
  have hts : ∀ w ∈ wsL_law, w.before #[Value.ref b0] s = true := fun w h => hts0 w (wsL_law_in w h)
  have hA : ∀ q : Nat, s.heap.size ≤ q → (fun q : Nat => s.heap.size ≤ q) q := fun _ h => h
  have hbA : ¬ (fun q : Nat => s.heap.size ≤ q) b0 := Nat.not_le.mpr hbl
  refine lv_aload_n hx hb dL_law_557 rfl (lv_at hl 2 rfl) ?_
  refine lv_aload_n hx hb dL_law_558 rfl (lv_at hl 3 rfl) ?_
  refine lv_iload_n hx hb dL_law_559 rfl (lv_at hl 0 rfl) ?_
  refine lv_iconst (v := 1) hx hb dL_law_560 (by decide) ?_
  refine lv_iadd hx hb dL_law_561 ?_
  refine ms_eqi (y := nI (4 * n + 1)) (nI_add (4 * n) 1) ?_
  refine ms_sld hx hb hX hbl hbA hS (4 * n + 1) rfl (by omega) (by omega) dL_law_562 ?_
  refine lv_aload_n hx hb dL_law_563 rfl (lv_at hl 3 rfl) ?_
  refine lv_iload_n hx hb dL_law_564 rfl (lv_at hl 0 rfl) ?_
  refine lv_iconst (v := 2) hx hb dL_law_565 (by decide) ?_
  refine lv_iadd hx hb dL_law_566 ?_
  refine ms_eqi (y := nI (4 * n + 2)) (nI_add (4 * n) 2) ?_
  refine ms_sld hx hb hX hbl hbA hS (4 * n + 2) rfl (by omega) (by omega) dL_law_567 ?_
  refine ms_pVi (qc := (RX10, TX10, 12)) (wc := ms_WX cA xa a i f o) (wr := ms_WM cA ma b j g t) (w1 := fun (u : ((Nat → Nat) × (Nat → Int32) × (Nat → Nat → Int32) × (Nat → Option Nat) × va_W)) => ms_WX cA xa u.1 u.2.1 u.2.2.1 u.2.2.2.1) (p1 := fun (u : ((Nat → Nat) × (Nat → Int32) × (Nat → Nat → Int32) × (Nat → Option Nat) × va_W)) => u.2.2.2.2) ⟨hx, hb, hml, hown, hts⟩ hE (wX10_want l D cA xa a i f o pl (xs (4 * n + 1)) (xs (4 * n + 2))  hB hq) (cwV 2 hts gL_law_X10_want rfl rfl rfl (by decide +kernel) ⟨Nat.le_of_ble_eq_true rfl, Nat.le_of_ble_eq_true rfl⟩) hP hD hS hA [0, 1, 2, 3, 4, 5, 6, 7, 8, 9, 10, 11, 12, 13, 14, 15, 16, 17, 18, 19, 20, 21, 22, 23, 24, 25, 26, 27, 28, 29, 30, 31, 32, 33, 34, 35, 36, 37, 38, 39, 40, 41, 42, 43, 44, 45, 46, 47, 48, 49] [50, 51, 52, 53, 54, 55, 56, 57, 58, 59, 60, 61, 62, 63, 64, 65, 66, 67, 68] rfl rfl rfl rfl (by decide) 0 10 rfl rfl rfl hl.1 rfl (Nat.le_of_ble_eq_true rfl) dL_law_568 ⟨Nat.le_trans (show 69 + 2 * n + 0 ≤ 600 by omega) (Nat.le_of_ble_eq_true rfl), Nat.le_trans (show 1489 + 15 * n + 0 ≤ 6000 by omega) (Nat.le_of_ble_eq_true rfl)⟩ (fun r1 u2 H locs hp hP hD hS => ?_)
  obtain ⟨hB1, hq1, ex1⟩ := hp
  have hP : va_P D vwCl ((ms_WM cA ma b j g t ++ ms_WX cA xa u2.1 u2.2.1 u2.2.2.1 u2.2.2.2.1) ++ u2.2.2.2.2) H := hP
  have hD : va_D (fun q : Nat => s.heap.size ≤ q) ((ms_WM cA ma b j g t ++ ms_WX cA xa u2.1 u2.2.1 u2.2.2.1 u2.2.2.2.1) ++ u2.2.2.2.2) := hD
  refine lv_pop hx hb dL_law_571 rfl ?_
  refine lv_aload_n hx hb dL_law_572 rfl (lv_at hl 1 rfl) ?_
  refine lv_aload_n hx hb dL_law_573 rfl (lv_at hl 3 rfl) ?_
  refine lv_iload_n hx hb dL_law_574 rfl (lv_at hl 0 rfl) ?_
  refine lv_iconst (v := 1) hx hb dL_law_575 (by decide) ?_
  refine lv_iadd hx hb dL_law_576 ?_
  refine ms_eqi (y := nI (4 * n + 1)) (nI_add (4 * n) 1) ?_
  refine ms_sld hx hb hX hbl hbA hS (4 * n + 1) rfl (by omega) (by omega) dL_law_577 ?_
  refine lv_aload_n hx hb dL_law_578 rfl (lv_at hl 3 rfl) ?_
  refine lv_iload_n hx hb dL_law_579 rfl (lv_at hl 0 rfl) ?_
  refine lv_iconst (v := 2) hx hb dL_law_580 (by decide) ?_
  refine lv_iadd hx hb dL_law_581 ?_
  refine ms_eqi (y := nI (4 * n + 2)) (nI_add (4 * n) 2) ?_
  refine ms_sld hx hb hX hbl hbA hS (4 * n + 2) rfl (by omega) (by omega) dL_law_582 ?_
  refine ms_qVi (qc := (RX11, TX11, 32)) (wc := ms_WM cA ma b j g t) (wr := ms_WX cA xa u2.1 u2.2.1 u2.2.2.1 u2.2.2.2.1) (w1 := fun (u : ((Nat → Int32) × (Nat → Nat → Int32) × (Nat → Int64))) => ms_WM cA ma b u.1 u.2.1 u.2.2) ⟨hx, hb, hml, hown, hts⟩ hE (wX11_want l D cA ma b j g t (xs (4 * n + 1)) (xs (4 * n + 2))  hM) (cwV 2 hts gL_law_X11_want rfl rfl rfl (by decide +kernel) ⟨Nat.le_of_ble_eq_true rfl, Nat.le_of_ble_eq_true rfl⟩) hP hD hS hA [0, 1, 2, 3, 4, 5, 6, 7, 8, 9, 10, 11, 12, 13, 14, 15, 16, 17, 18] [19, 20, 21, 22, 23, 24, 25, 26, 27, 28, 29, 30, 31, 32, 33, 34, 35, 36, 37, 38, 39, 40, 41, 42, 43, 44, 45, 46, 47, 48, 49, 50, 51, 52, 53, 54, 55, 56, 57, 58, 59, 60, 61, 62, 63, 64, 65, 66, 67, 68] rfl rfl rfl rfl (by decide) 0 11 rfl rfl rfl hl.1 rfl (Nat.le_of_ble_eq_true rfl) dL_law_583 ⟨Nat.le_trans (show 69 + 2 * n + 0 + 0 ≤ 600 by omega) (Nat.le_of_ble_eq_true rfl), Nat.le_trans (show 1489 + 15 * n + 0 + 0 ≤ 6000 by omega) (Nat.le_of_ble_eq_true rfl)⟩ (fun r3 u4 H locs hp hP hD hS => ?_)
  obtain ⟨hM1, ex2⟩ := hp
  have hP : va_P D vwCl ((ms_WX cA xa u2.1 u2.2.1 u2.2.2.1 u2.2.2.2.1 ++ ms_WM cA ma b u4.1 u4.2.1 u4.2.2) ++ u2.2.2.2.2) H := hP
  have hD : va_D (fun q : Nat => s.heap.size ≤ q) ((ms_WX cA xa u2.1 u2.2.1 u2.2.2.1 u2.2.2.2.1 ++ ms_WM cA ma b u4.1 u4.2.1 u4.2.2) ++ u2.2.2.2.2) := hD
  refine lv_pop hx hb dL_law_586 rfl ?_
  refine lv_goto (tgt := 988) hx hb dL_law_587 (by decide) ?_
  refine W.widen (k := 69 + 2 * (n + 1)) (n := 1489 + 15 * (n + 1)) (show 69 + 2 * n + 0 + 0 ≤ _ by omega) (show 1489 + 15 * n + 0 + 0 ≤ _ by omega) ?_
  exact kk _ _ _ _ _ _ _ _ _ _ _ hP hD hS hl hB1 hM1 hq1 ⟨ex1.2.1.trans (Eq.trans hrel.1 ex2.2.1.symm), ex1.2.2.2.2.2.2.2.2.2.2.2.2.1.trans (Eq.trans hrel.2.1 ex2.2.2.2.2.2.1.symm), mz_elc hrel.2.2.1 ex1.2.2.2.1 ex1.2.2.2.2.1 ex1.2.2.2.2.2.1 ex1.2.2.2.2.2.2.1 ex1.2.2.2.2.2.2.2.1 ex1.2.2.2.2.2.2.2.2.2.2.2.2.2.1 ex1.2.2.2.2.2.2.2.2.2.2.2.2.2.2.1 ex1.2.2.2.2.2.2.2.2.2.2.2.2.2.2.2.1 ex1.2.2.2.2.2.2.2.2.2.2.2.2.2.2.2.2.1 ex1.2.2.2.2.2.2.2.2.2.2.2.2.2.2.2.2.2.1 ex1.2.2.2.2.2.2.2.2.2.2.2.2.2.2.2.2.2.2.1 ex1.2.2.2.2.2.2.2.2.2.2.2.2.2.2.2.2.2.2.2.1 ex1.2.2.2.2.2.2.2.2.2.2.2.2.2.2.2.2.2.2.2.2.1 ex2.2.2.2.2.2.2.1, ex1.2.2.2.2.2.2.2.2.2.1.trans (Eq.trans hrel.2.2.2.1 ex2.2.2.2.2.1.symm), ex1.2.2.2.2.2.2.2.2.1.trans (Eq.trans hrel.2.2.2.2.1 ex2.2.2.2.1.symm), trivial⟩
