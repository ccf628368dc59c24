set_option maxHeartbeats 4000000 in
set_option maxRecDepth 100000 in
theorem law_16 (l : Launch) (D : va_G) (cA : Nat → ClassId) (xa ma : Nat) (a : Nat → Nat) (b : Nat → Nat) (i : Nat → Int32) (f : Nat → Nat → Int32) (o : Nat → Option Nat) (pl : va_W) (j : Nat → Int32) (g : Nat → Nat → Int32) (t : Nat → Int64) {p : Program} {e : Env} {s : State} {m : MethodId} {below : List Frame} {meth : Method} {c : Code} {b0 L : Nat} {xs : Nat → Int32} {H : Heap} {locs : List Loc} {ls : Array Slot} {n : Nat} (C0 : lw_At p s m meth c b0 L xs) (hE : ms_EV D cA s) (hn : 4 * n + 4 ≤ L) (hL : L ≤ 256) (hP : va_P D vwCl ((ms_WX cA xa a i f o ++ ms_WM cA ma b j g t) ++ pl) H) (hD : va_D (fun q : Nat => s.heap.size ≤ q) ((ms_WX cA xa a i f o ++ ms_WM cA ma b j g t) ++ pl)) (hS : va_S (fun q : Nat => s.heap.size ≤ q) s.heap H locs) (hl : lv_has ls 4 [(3, .int (nI (4 * n))), (2, .ref ma), (1, .ref xa), (0, .ref b0)]) (hB : ms_BX i f) (hM : ms_BM j g t) (hq : ms_hq cA o pl) (hrel : ms_rel i f j g) (kk : ∀ (a : Nat → Nat) (i : Nat → Int32) (f : Nat → Nat → Int32) (o : Nat → Option Nat) (pl : va_W) (j : Nat → Int32) (g : Nat → Nat → Int32) (t : Nat → Int64) (H : Heap) (locs : List Loc) (ls : Array Slot), va_P D vwCl ((ms_WX cA xa a i f o ++ ms_WM cA ma b j g t) ++ pl) H → va_D (fun q : Nat => s.heap.size ≤ q) ((ms_WX cA xa a i f o ++ ms_WM cA ma b j g t) ++ pl) → va_S (fun q : Nat => s.heap.size ≤ q) s.heap H locs → lv_has ls 4 [(3, .int (nI (4 * n))), (2, .ref ma), (1, .ref xa), (0, .ref b0)] → ms_BX i f → ms_BM j g t → ms_hq cA o pl → ms_rel i f j g → W p l e room_1 s m #[Value.ref b0] below meth c H locs (69 + 2 * (n + 1)) (1489 + 15 * (n + 1)) (lw_Z below #[Value.ref b0] s) (F0 m 988 ls [])) : W p l e room_1 s m #[Value.ref b0] below meth c H locs (69 + 2 * n) (1489 + 15 * n) (lw_Z below #[Value.ref b0] s) (F0 m 590 ls []) := by
  obtain ⟨hx, hb, hr, hml, hown, hts0, hX, hbl, hlocks, hgv⟩ := id C0
  have hb : c.code = cL_law := hb
  have hown : s.vm.findClass RL = some m.cls := hown
  have hts : ∀ w ∈ wsL_law, w.before #[Value.ref b0] s = true := fun w h => hts0 w (wsL_law_in w h)
  have hA : ∀ q : Nat, s.heap.size ≤ q → (fun q : Nat => s.heap.size ≤ q) q := fun _ h => h
  have hbA : ¬ (fun q : Nat => s.heap.size ≤ q) b0 := Nat.not_le.mpr hbl
  refine lv_aload_n hx hb dL_law_590 rfl (lv_at hl 2 rfl) ?_
  refine lv_aload_n hx hb dL_law_591 rfl (lv_at hl 3 rfl) ?_
  refine lv_iload_n hx hb dL_law_592 rfl (lv_at hl 0 rfl) ?_
  refine lv_iconst (v := 1) hx hb dL_law_593 (by decide) ?_
  refine lv_iadd hx hb dL_law_594 ?_
  refine ms_eqi (y := nI (4 * n + 1)) (nI_add (4 * n) 1) ?_
  refine ms_sld hx hb hX hbl hbA hS (4 * n + 1) rfl (by omega) (by omega) dL_law_595 ?_
  refine ms_pVi (qc := (RX10, TX10, 12)) (wc := ms_WX cA xa a i f o) (wr := ms_WM cA ma b j g t) (w1 := fun (u : ((Nat → Nat) × (Nat → Int32) × (Nat → Nat → Int32) × (Nat → Option Nat) × va_W)) => ms_WX cA xa u.1 u.2.1 u.2.2.1 u.2.2.2.1) (p1 := fun (u : ((Nat → Nat) × (Nat → Int32) × (Nat → Nat → Int32) × (Nat → Option Nat) × va_W)) => u.2.2.2.2) ⟨hx, hb, hml, hown, hts⟩ hE (wX10_dawns l D cA xa a i f o pl (xs (4 * n + 1))  hB hq) (cwV 1 hts gL_law_X10_dawns rfl rfl rfl (by decide +kernel) ⟨Nat.le_of_ble_eq_true rfl, Nat.le_of_ble_eq_true rfl⟩) hP hD hS hA [0, 1, 2, 3, 4, 5, 6, 7, 8, 9, 10, 11, 12, 13, 14, 15, 16, 17, 18, 19, 20, 21, 22, 23, 24, 25, 26, 27, 28, 29, 30, 31, 32, 33, 34, 35, 36, 37, 38, 39, 40, 41, 42, 43, 44, 45, 46, 47, 48, 49] [50, 51, 52, 53, 54, 55, 56, 57, 58, 59, 60, 61, 62, 63, 64, 65, 66, 67, 68] rfl rfl rfl rfl (by decide) 0 10 rfl rfl rfl hl.1 rfl (Nat.le_of_ble_eq_true rfl) dL_law_596 ⟨Nat.le_trans (show 69 + 2 * n + 0 ≤ 600 by omega) (Nat.le_of_ble_eq_true rfl), Nat.le_trans (show 1489 + 15 * n + 0 ≤ 6000 by omega) (Nat.le_of_ble_eq_true rfl)⟩ (fun r1 u2 H locs hp hP hD hS => ?_)
  obtain ⟨hB1, hq1, ex1⟩ := hp
  have hP : va_P D vwCl ((ms_WM cA ma b j g t ++ ms_WX cA xa u2.1 u2.2.1 u2.2.2.1 u2.2.2.2.1) ++ u2.2.2.2.2) H := hP
  have hD : va_D (fun q : Nat => s.heap.size ≤ q) ((ms_WM cA ma b j g t ++ ms_WX cA xa u2.1 u2.2.1 u2.2.2.1 u2.2.2.2.1) ++ u2.2.2.2.2) := hD
  refine lv_pop hx hb dL_law_599 rfl ?_
  refine lv_aload_n hx hb dL_law_600 rfl (lv_at hl 1 rfl) ?_
  refine lv_aload_n hx hb dL_law_601 rfl (lv_at hl 3 rfl) ?_
  refine lv_iload_n hx hb dL_law_602 rfl (lv_at hl 0 rfl) ?_
  refine lv_iconst (v := 1) hx hb dL_law_603 (by decide) ?_
  refine lv_iadd hx hb dL_law_604 ?_
  refine ms_eqi (y := nI (4 * n + 1)) (nI_add (4 * n) 1) ?_
  refine ms_sld hx hb hX hbl hbA hS (4 * n + 1) rfl (by omega) (by omega) dL_law_605 ?_
  refine ms_qVi (qc := (RX11, TX11, 32)) (wc := ms_WM cA ma b j g t) (wr := ms_WX cA xa u2.1 u2.2.1 u2.2.2.1 u2.2.2.2.1) (w1 := fun (u : ((Nat → Int32) × (Nat → Nat → Int32) × (Nat → Int64))) => ms_WM cA ma b u.1 u.2.1 u.2.2) ⟨hx, hb, hml, hown, hts⟩ hE (wX11_dawns l D cA ma b j g t (xs (4 * n + 1))  hM) (cwV 1 hts gL_law_X11_dawns rfl rfl rfl (by decide +kernel) ⟨Nat.le_of_ble_eq_true rfl, Nat.le_of_ble_eq_true rfl⟩) hP hD hS hA [0, 1, 2, 3, 4, 5, 6, 7, 8, 9, 10, 11, 12, 13, 14, 15, 16, 17, 18] [19, 20, 21, 22, 23, 24, 25, 26, 27, 28, 29, 30, 31, 32, 33, 34, 35, 36, 37, 38, 39, 40, 41, 42, 43, 44, 45, 46, 47, 48, 49, 50, 51, 52, 53, 54, 55, 56, 57, 58, 59, 60, 61, 62, 63, 64, 65, 66, 67, 68] rfl rfl rfl rfl (by decide) 0 11 rfl rfl rfl hl.1 rfl (Nat.le_of_ble_eq_true rfl) dL_law_606 ⟨Nat.le_trans (show 69 + 2 * n + 0 + 0 ≤ 600 by omega) (Nat.le_of_ble_eq_true rfl), Nat.le_trans (show 1489 + 15 * n + 0 + 0 ≤ 6000 by omega) (Nat.le_of_ble_eq_true rfl)⟩ (fun r3 u4 H locs hp hP hD hS => ?_)
  obtain ⟨hM1, ex2⟩ := hp
  have hP : va_P D vwCl ((ms_WX cA xa u2.1 u2.2.1 u2.2.2.1 u2.2.2.2.1 ++ ms_WM cA ma b u4.1 u4.2.1 u4.2.2) ++ u2.2.2.2.2) H := hP
  have hD : va_D (fun q : Nat => s.heap.size ≤ q) ((ms_WX cA xa u2.1 u2.2.1 u2.2.2.1 u2.2.2.2.1 ++ ms_WM cA ma b u4.1 u4.2.1 u4.2.2) ++ u2.2.2.2.2) := hD
  refine lv_pop hx hb dL_law_609 rfl ?_
  refine lv_goto (tgt := 988) hx hb dL_law_610 (by decide) ?_
  refine W.widen (k := 69 + 2 * (n + 1)) (n := 1489 + 15 * (n + 1)) (show 69 + 2 * n + 0 + 0 ≤ _ by omega) (show 1489 + 15 * n + 0 + 0 ≤ _ by omega) ?_
  exact kk _ _ _ _ _ _ _ _ _ _ _ hP hD hS hl hB1 hM1 hq1 ⟨ex1.1.trans (Eq.trans hrel.1 ex2.1.symm), ex1.2.2.2.2.2.2.2.2.2.2.2.1.trans (Eq.trans hrel.2.1 ex2.2.2.2.2.1.symm), mz_elc hrel.2.2.1 ex1.2.2.1 ex1.2.2.2.1 ex1.2.2.2.2.1 ex1.2.2.2.2.2.1 ex1.2.2.2.2.2.2.1 ex1.2.2.2.2.2.2.2.2.2.2.2.2.1 ex1.2.2.2.2.2.2.2.2.2.2.2.2.2.1 ex1.2.2.2.2.2.2.2.2.2.2.2.2.2.2.1 ex1.2.2.2.2.2.2.2.2.2.2.2.2.2.2.2.1 ex1.2.2.2.2.2.2.2.2.2.2.2.2.2.2.2.2.1 ex1.2.2.2.2.2.2.2.2.2.2.2.2.2.2.2.2.2.1 ex1.2.2.2.2.2.2.2.2.2.2.2.2.2.2.2.2.2.2.1 ex1.2.2.2.2.2.2.2.2.2.2.2.2.2.2.2.2.2.2.2.1 ex2.2.2.2.2.2.1, ex1.2.2.2.2.2.2.2.2.1.trans (Eq.trans hrel.2.2.2.1 ex2.2.2.2.1.symm), ex1.2.2.2.2.2.2.2.1.trans (Eq.trans hrel.2.2.2.2.1 ex2.2.2.1.symm), trivial⟩
set_option maxHeartbeats 4000000 in
set_option maxRecDepth 100000 in
theorem law_17 (l : Launch) (D : va_G) (cA : Nat → ClassId) (xa ma : Nat) (a : Nat → Nat) (b : Nat → Nat) (i : Nat → Int32) (f : Nat → Nat → Int32) (o : Nat → Option Nat) (pl : va_W) (j : Nat → Int32) (g : Nat → Nat → Int32) (t : Nat → Int64) {p : Program} {e : Env} {s : State} {m : MethodId} {below : List Frame} {meth : Method} {c : Code} {b0 L : Nat} {xs : Nat → Int32} {H : Heap} {locs : List Loc} {ls : Array Slot} {n : Nat} (C0 : lw_At p s m meth c b0 L xs) (hE : ms_EV D cA s) (hn : 4 * n + 4 ≤ L) (hL : L ≤ 256) (hP : va_P D vwCl ((ms_WX cA xa a i f o ++ ms_WM cA ma b j g t) ++ pl) H) (hD : va_D (fun q : Nat => s.heap.size ≤ q) ((ms_WX cA xa a i f o ++ ms_WM cA ma b j g t) ++ pl)) (hS : va_S (fun q : Nat => s.heap.size ≤ q) s.heap H locs) (hl : lv_has ls 4 [(3, .int (nI (4 * n))), (2, .ref ma), (1, .ref xa), (0, .ref b0)]) (hB : ms_BX i f) (hM : ms_BM j g t) (hq : ms_hq cA o pl) (hrel : ms_rel i f j g) (kk : ∀ (a : Nat → Nat) (i : Nat → Int32) (f : Nat → Nat → Int32) (o : Nat → Option Nat) (pl : va_W) (j : Nat → Int32) (g : Nat → Nat → Int32) (t : Nat → Int64) (H : Heap) (locs : List Loc) (ls : Array Slot), va_P D vwCl ((ms_WX cA xa a i f o ++ ms_WM cA ma b j g t) ++ pl) H → va_D (fun q : Nat => s.heap.size ≤ q) ((ms_WX cA xa a i f o ++ ms_WM cA ma b j g t) ++ pl) → va_S (fun q : Nat => s.heap.size ≤ q) s.heap H locs → lv_has ls 4 [(3, .int (nI (4 * n))), (2, .ref ma), (1, .ref xa), (0, .ref b0)] → ms_BX i f → ms_BM j g t → ms_hq cA o pl → ms_rel i f j g → W p l e room_1 s m #[Value.ref b0] below meth c H locs (69 + 2 * (n + 1)) (1489 + 15 * (n + 1)) (lw_Z below #[Value.ref b0] s) (F0 m 988 ls [])) : W p l e room_1 s m #[Value.ref b0] below meth c H locs (69 + 2 * n) (1489 + 15 * n) (lw_Z below #[Value.ref b0] s) (F0 m 613 ls []) := by
  obtain ⟨hx, hb, hr, hml, hown, hts0, hX, hbl, hlocks, hgv⟩ := id C0
  have hb : c.code = cL_law := hb
  have hown : s.vm.findClass RL = some m.cls := hown
  have hts : ∀ w ∈ wsL_law, w.before #[Value.ref b0] s = true := fun w h => hts0 w (wsL_law_in w h)
  have hA : ∀ q : Nat, s.heap.size ≤ q → (fun q : Nat => s.heap.size ≤ q) q := fun _ h => h
  have hbA : ¬ (fun q : Nat => s.heap.size ≤ q) b0 := Nat.not_le.mpr hbl
  refine lv_aload_n hx hb dL_law_613 rfl (lv_at hl 2 rfl) ?_
  refine lv_aload_n hx hb dL_law_614 rfl (lv_at hl 3 rfl) ?_
  refine lv_iload_n hx hb dL_law_615 rfl (lv_at hl 0 rfl) ?_
  refine lv_iconst (v := 1) hx hb dL_law_616 (by decide) ?_
  refine lv_iadd hx hb dL_law_617 ?_
  refine ms_eqi (y := nI (4 * n + 1)) (nI_add (4 * n) 1) ?_
  refine ms_sld hx hb hX hbl hbA hS (4 * n + 1) rfl (by omega) (by omega) dL_law_618 ?_
  refine ms_pVi (qc := (RX10, TX10, 12)) (wc := ms_WX cA xa a i f o) (wr := ms_WM cA ma b j g t) (w1 := fun (u : ((Nat → Nat) × (Nat → Int32) × (Nat → Nat → Int32) × (Nat → Option Nat) × va_W)) => ms_WX cA xa u.1 u.2.1 u.2.2.1 u.2.2.2.1) (p1 := fun (u : ((Nat → Nat) × (Nat → Int32) × (Nat → Nat → Int32) × (Nat → Option Nat) × va_W)) => u.2.2.2.2) ⟨hx, hb, hml, hown, hts⟩ hE (wX10_round l D cA xa a i f o pl (xs (4 * n + 1))  hB hq) (cwV 1 hts gL_law_X10_round rfl rfl rfl (by decide +kernel) ⟨Nat.le_of_ble_eq_true rfl, Nat.le_of_ble_eq_true rfl⟩) hP hD hS hA [0, 1, 2, 3, 4, 5, 6, 7, 8, 9, 10, 11, 12, 13, 14, 15, 16, 17, 18, 19, 20, 21, 22, 23, 24, 25, 26, 27, 28, 29, 30, 31, 32, 33, 34, 35, 36, 37, 38, 39, 40, 41, 42, 43, 44, 45, 46, 47, 48, 49] [50, 51, 52, 53, 54, 55, 56, 57, 58, 59, 60, 61, 62, 63, 64, 65, 66, 67, 68] rfl rfl rfl rfl (by decide) 0 10 rfl rfl rfl hl.1 rfl (Nat.le_of_ble_eq_true rfl) dL_law_619 ⟨Nat.le_trans (show 69 + 2 * n + 0 ≤ 600 by omega) (Nat.le_of_ble_eq_true rfl), Nat.le_trans (show 1489 + 15 * n + 0 ≤ 6000 by omega) (Nat.le_of_ble_eq_true rfl)⟩ (fun r1 u2 H locs hp hP hD hS => ?_)
  obtain ⟨hB1, hq1, ex1⟩ := hp
  have hP : va_P D vwCl ((ms_WM cA ma b j g t ++ ms_WX cA xa u2.1 u2.2.1 u2.2.2.1 u2.2.2.2.1) ++ u2.2.2.2.2) H := hP
  have hD : va_D (fun q : Nat => s.heap.size ≤ q) ((ms_WM cA ma b j g t ++ ms_WX cA xa u2.1 u2.2.1 u2.2.2.1 u2.2.2.2.1) ++ u2.2.2.2.2) := hD
  refine lv_pop hx hb dL_law_622 rfl ?_
  refine lv_aload_n hx hb dL_law_623 rfl (lv_at hl 1 rfl) ?_
  refine lv_aload_n hx hb dL_law_624 rfl (lv_at hl 3 rfl) ?_
  refine lv_iload_n hx hb dL_law_625 rfl (lv_at hl 0 rfl) ?_
  refine lv_iconst (v := 1) hx hb dL_law_626 (by decide) ?_
  refine lv_iadd hx hb dL_law_627 ?_
  refine ms_eqi (y := nI (4 * n + 1)) (nI_add (4 * n) 1) ?_
  refine ms_sld hx hb hX hbl hbA hS (4 * n + 1) rfl (by omega) (by omega) dL_law_628 ?_
  refine ms_qVi (qc := (RX11, TX11, 32)) (wc := ms_WM cA ma b j g t) (wr := ms_WX cA xa u2.1 u2.2.1 u2.2.2.1 u2.2.2.2.1) (w1 := fun (u : ((Nat → Int32) × (Nat → Nat → Int32) × (Nat → Int64))) => ms_WM cA ma b u.1 u.2.1 u.2.2) ⟨hx, hb, hml, hown, hts⟩ hE (wX11_round l D cA ma b j g t (xs (4 * n + 1))  hM) (cwV 1 hts gL_law_X11_round rfl rfl rfl (by decide +kernel) ⟨Nat.le_of_ble_eq_true rfl, Nat.le_of_ble_eq_true rfl⟩) hP hD hS hA [0, 1, 2, 3, 4, 5, 6, 7, 8, 9, 10, 11, 12, 13, 14, 15, 16, 17, 18] [19, 20, 21, 22, 23, 24, 25, 26, 27, 28, 29, 30, 31, 32, 33, 34, 35, 36, 37, 38, 39, 40, 41, 42, 43, 44, 45, 46, 47, 48, 49, 50, 51, 52, 53, 54, 55, 56, 57, 58, 59, 60, 61, 62, 63, 64, 65, 66, 67, 68] rfl rfl rfl rfl (by decide) 0 11 rfl rfl rfl hl.1 rfl (Nat.le_of_ble_eq_true rfl) dL_law_629 ⟨Nat.le_trans (show 69 + 2 * n + 0 + 0 ≤ 600 by omega) (Nat.le_of_ble_eq_true rfl), Nat.le_trans (show 1489 + 15 * n + 0 + 0 ≤ 6000 by omega) (Nat.le_of_ble_eq_true rfl)⟩ (fun r3 u4 H locs hp hP hD hS => ?_)
  obtain ⟨hM1, ex2⟩ := hp
  have hP : va_P D vwCl ((ms_WX cA xa u2.1 u2.2.1 u2.2.2.1 u2.2.2.2.1 ++ ms_WM cA ma b u4.1 u4.2.1 u4.2.2) ++ u2.2.2.2.2) H := hP
  have hD : va_D (fun q : Nat => s.heap.size ≤ q) ((ms_WX cA xa u2.1 u2.2.1 u2.2.2.1 u2.2.2.2.1 ++ ms_WM cA ma b u4.1 u4.2.1 u4.2.2) ++ u2.2.2.2.2) := hD
  refine lv_pop hx hb dL_law_632 rfl ?_
  refine lv_goto (tgt := 988) hx hb dL_law_633 (by decide) ?_
  refine W.widen (k := 69 + 2 * (n + 1)) (n := 1489 + 15 * (n + 1)) (show 69 + 2 * n + 0 + 0 ≤ _ by omega) (show 1489 + 15 * n + 0 + 0 ≤ _ by omega) ?_
  exact kk _ _ _ _ _ _ _ _ _ _ _ hP hD hS hl hB1 hM1 hq1 ⟨ex1.1.trans (Eq.trans hrel.1 ex2.1.symm), ex1.2.2.2.2.2.2.2.2.2.2.2.1.trans (Eq.trans hrel.2.1 ex2.2.2.2.2.1.symm), mz_elc hrel.2.2.1 ex1.2.2.1 ex1.2.2.2.1 ex1.2.2.2.2.1 ex1.2.2.2.2.2.1 ex1.2.2.2.2.2.2.1 ex1.2.2.2.2.2.2.2.2.2.2.2.2.1 ex1.2.2.2.2.2.2.2.2.2.2.2.2.2.1 ex1.2.2.2.2.2.2.2.2.2.2.2.2.2.2.1 ex1.2.2.2.2.2.2.2.2.2.2.2.2.2.2.2.1 ex1.2.2.2.2.2.2.2.2.2.2.2.2.2.2.2.2.1 ex1.2.2.2.2.2.2.2.2.2.2.2.2.2.2.2.2.2.1 ex1.2.2.2.2.2.2.2.2.2.2.2.2.2.2.2.2.2.2.1 ex1.2.2.2.2.2.2.2.2.2.2.2.2.2.2.2.2.2.2.2.1 ex2.2.2.2.2.2.1, ex1.2.2.2.2.2.2.2.2.1.trans (Eq.trans hrel.2.2.2.1 ex2.2.2.2.1.symm), ex1.2.2.2.2.2.2.2.1.trans (Eq.trans hrel.2.2.2.2.1 ex2.2.2.1.symm), trivial⟩
set_option maxHeartbeats 4000000 in
set_option maxRecDepth 100000 in
theorem law_18 (l : Launch) (D : va_G) (cA : Nat → ClassId) (xa ma : Nat) (a : Nat → Nat) (b : Nat → Nat) (i : Nat → Int32) (f : Nat → Nat → Int32) (o : Nat → Option Nat) (pl : va_W) (j : Nat → Int32) (g : Nat → Nat → Int32) (t : Nat → Int64) {p : Program} {e : Env} {s : State} {m : MethodId} {below : List Frame} {meth : Method} {c : Code} {b0 L : Nat} {xs : Nat → Int32} {H : Heap} {locs : List Loc} {ls : Array Slot} {n : Nat} (C0 : lw_At p s m meth c b0 L xs) (hE : ms_EV D cA s) (hn : 4 * n + 4 ≤ L) (hL : L ≤ 256) (hP : va_P D vwCl ((ms_WX cA xa a i f o ++ ms_WM cA ma b j g t) ++ pl) H) (hD : va_D (fun q : Nat => s.heap.size ≤ q) ((ms_WX cA xa a i f o ++ ms_WM cA ma b j g t) ++ pl)) (hS : va_S (fun q : Nat => s.heap.size ≤ q) s.heap H locs) (hl : lv_has ls 4 [(3, .int (nI (4 * n))), (2, .ref ma), (1, .ref xa), (0, .ref b0)]) (hB : ms_BX i f) (hM : ms_BM j g t) (hq : ms_hq cA o pl) (hrel : ms_rel i f j g) (kk : ∀ (a : Nat → Nat) (i : Nat → Int32) (f : Nat → Nat → Int32) (o : Nat → Option Nat) (pl : va_W) (j : Nat → Int32) (g : Nat → Nat → Int32) (t : Nat → Int64) (H : Heap) (locs : List Loc) (ls : Array Slot), va_P D vwCl ((ms_WX cA xa a i f o ++ ms_WM cA ma b j g t) ++ pl) H → va_D (fun q : Nat => s.heap.size ≤ q) ((ms_WX cA xa a i f o ++ ms_WM cA ma b j g t) ++ pl) → va_S (fun q : Nat => s.heap.size ≤ q) s.heap H locs → lv_has ls 4 [(3, .int (nI (4 * n))), (2, .ref ma), (1, .ref xa), (0, .ref b0)] → ms_BX i f → ms_BM j g t → ms_hq cA o pl → ms_rel i f j g → W p l e room_1 s m #[Value.ref b0] below meth c H locs (69 + 2 * (n + 1)) (1489 + 15 * (n + 1)) (lw_Z below #[Value.ref b0] s) (F0 m 988 ls [])) : W p l e room_1 s m #[Value.ref b0] below meth c H locs (69 + 2 * n) (1489 + 15 * n) (lw_Z below #[Value.ref b0] s) (F0 m 636 ls []) := by
  obtain ⟨hx, hb, hr, hml, hown, hts0, hX, hbl, hlocks, hgv⟩ := id C0
  have hb : c.code = cL_law := hb
  have hown : s.vm.findClass RL = some m.cls := hown
  have hts : ∀ w ∈ wsL_law, w.before #[Value.ref b0] s = true := fun w h => hts0 w (wsL_law_in w h)
  have hA : ∀ q : Nat, s.heap.size ≤ q → (fun q : Nat => s.heap.size ≤ q) q := fun _ h => h
  have hbA : ¬ (fun q : Nat => s.heap.size ≤ q) b0 := Nat.not_le.mpr hbl
  refine lv_aload_n hx hb dL_law_636 rfl (lv_at hl 2 rfl) ?_
  refine lv_aload_n hx hb dL_law_637 rfl (lv_at hl 3 rfl) ?_
  refine lv_iload_n hx hb dL_law_638 rfl (lv_at hl 0 rfl) ?_
  refine lv_iconst (v := 1) hx hb dL_law_639 (by decide) ?_
  refine lv_iadd hx hb dL_law_640 ?_
  refine ms_eqi (y := nI (4 * n + 1)) (nI_add (4 * n) 1) ?_
  refine ms_sld hx hb hX hbl hbA hS (4 * n + 1) rfl (by omega) (by omega) dL_law_641 ?_
  refine lv_aload_n hx hb dL_law_642 rfl (lv_at hl 3 rfl) ?_
  refine lv_iload_n hx hb dL_law_643 rfl (lv_at hl 0 rfl) ?_
  refine lv_iconst (v := 2) hx hb dL_law_644 (by decide) ?_
  refine lv_iadd hx hb dL_law_645 ?_
  refine ms_eqi (y := nI (4 * n + 2)) (nI_add (4 * n) 2) ?_
  refine ms_sld hx hb hX hbl hbA hS (4 * n + 2) rfl (by omega) (by omega) dL_law_646 ?_
  refine ms_pVi (qc := (RX10, TX10, 12)) (wc := ms_WX cA xa a i f o) (wr := ms_WM cA ma b j g t) (w1 := fun (u : ((Nat → Nat) × (Nat → Int32) × (Nat → Nat → Int32) × (Nat → Option Nat) × va_W)) => ms_WX cA xa u.1 u.2.1 u.2.2.1 u.2.2.2.1) (p1 := fun (u : ((Nat → Nat) × (Nat → Int32) × (Nat → Nat → Int32) × (Nat → Option Nat) × va_W)) => u.2.2.2.2) ⟨hx, hb, hml, hown, hts⟩ hE (wX10_deceive l D cA xa a i f o pl (xs (4 * n + 1)) (xs (4 * n + 2))  hB hq) (cwV 2 hts gL_law_X10_deceive rfl rfl rfl (by decide +kernel) ⟨Nat.le_of_ble_eq_true rfl, Nat.le_of_ble_eq_true rfl⟩) hP hD hS hA [0, 1, 2, 3, 4, 5, 6, 7, 8, 9, 10, 11, 12, 13, 14, 15, 16, 17, 18, 19, 20, 21, 22, 23, 24, 25, 26, 27, 28, 29, 30, 31, 32, 33, 34, 35, 36, 37, 38, 39, 40, 41, 42, 43, 44, 45, 46, 47, 48, 49] [50, 51, 52, 53, 54, 55, 56, 57, 58, 59, 60, 61, 62, 63, 64, 65, 66, 67, 68] rfl rfl rfl rfl (by decide) 0 10 rfl rfl rfl hl.1 rfl (Nat.le_of_ble_eq_true rfl) dL_law_647 ⟨Nat.le_trans (show 69 + 2 * n + 0 ≤ 600 by omega) (Nat.le_of_ble_eq_true rfl), Nat.le_trans (show 1489 + 15 * n + 0 ≤ 6000 by omega) (Nat.le_of_ble_eq_true rfl)⟩ (fun r1 u2 H locs hp hP hD hS => ?_)
  obtain ⟨hB1, hq1, ex1⟩ := hp
  have hP : va_P D vwCl ((ms_WM cA ma b j g t ++ ms_WX cA xa u2.1 u2.2.1 u2.2.2.1 u2.2.2.2.1) ++ u2.2.2.2.2) H := hP
  have hD : va_D (fun q : Nat => s.heap.size ≤ q) ((ms_WM cA ma b j g t ++ ms_WX cA xa u2.1 u2.2.1 u2.2.2.1 u2.2.2.2.1) ++ u2.2.2.2.2) := hD
  refine lv_pop hx hb dL_law_650 rfl ?_
  refine lv_aload_n hx hb dL_law_651 rfl (lv_at hl 1 rfl) ?_
  refine lv_aload_n hx hb dL_law_652 rfl (lv_at hl 3 rfl) ?_
  refine lv_iload_n hx hb dL_law_653 rfl (lv_at hl 0 rfl) ?_
  refine lv_iconst (v := 1) hx hb dL_law_654 (by decide) ?_
  refine lv_iadd hx hb dL_law_655 ?_
  refine ms_eqi (y := nI (4 * n + 1)) (nI_add (4 * n) 1) ?_
  refine ms_sld hx hb hX hbl hbA hS (4 * n + 1) rfl (by omega) (by omega) dL_law_656 ?_
  refine lv_aload_n hx hb dL_law_657 rfl (lv_at hl 3 rfl) ?_
  refine lv_iload_n hx hb dL_law_658 rfl (lv_at hl 0 rfl) ?_
  refine lv_iconst (v := 2) hx hb dL_law_659 (by decide) ?_
  refine lv_iadd hx hb dL_law_660 ?_
  refine ms_eqi (y := nI (4 * n + 2)) (nI_add (4 * n) 2) ?_
  refine ms_sld hx hb hX hbl hbA hS (4 * n + 2) rfl (by omega) (by omega) dL_law_661 ?_
  refine ms_qVi (qc := (RX11, TX11, 32)) (wc := ms_WM cA ma b j g t) (wr := ms_WX cA xa u2.1 u2.2.1 u2.2.2.1 u2.2.2.2.1) (w1 := fun (u : ((Nat → Int32) × (Nat → Nat → Int32) × (Nat → Int64))) => ms_WM cA ma b u.1 u.2.1 u.2.2) ⟨hx, hb, hml, hown, hts⟩ hE (wX11_deceive l D cA ma b j g t (xs (4 * n + 1)) (xs (4 * n + 2))  hM) (cwV 2 hts gL_law_X11_deceive rfl rfl rfl (by decide +kernel) ⟨Nat.le_of_ble_eq_true rfl, Nat.le_of_ble_eq_true rfl⟩) hP hD hS hA [0, 1, 2, 3, 4, 5, 6, 7, 8, 9, 10, 11, 12, 13, 14, 15, 16, 17, 18] [19, 20, 21, 22, 23, 24, 25, 26, 27, 28, 29, 30, 31, 32, 33, 34, 35, 36, 37, 38, 39, 40, 41, 42, 43, 44, 45, 46, 47, 48, 49, 50, 51, 52, 53, 54, 55, 56, 57, 58, 59, 60, 61, 62, 63, 64, 65, 66, 67, 68] rfl rfl rfl rfl (by decide) 0 11 rfl rfl rfl hl.1 rfl (Nat.le_of_ble_eq_true rfl) dL_law_662 ⟨Nat.le_trans (show 69 + 2 * n + 0 + 0 ≤ 600 by omega) (Nat.le_of_ble_eq_true rfl), Nat.le_trans (show 1489 + 15 * n + 0 + 0 ≤ 6000 by omega) (Nat.le_of_ble_eq_true rfl)⟩ (fun r3 u4 H locs hp hP hD hS => ?_)
  obtain ⟨hM1, ex2⟩ := hp
  have hP : va_P D vwCl ((ms_WX cA xa u2.1 u2.2.1 u2.2.2.1 u2.2.2.2.1 ++ ms_WM cA ma b u4.1 u4.2.1 u4.2.2) ++ u2.2.2.2.2) H := hP
  have hD : va_D (fun q : Nat => s.heap.size ≤ q) ((ms_WX cA xa u2.1 u2.2.1 u2.2.2.1 u2.2.2.2.1 ++ ms_WM cA ma b u4.1 u4.2.1 u4.2.2) ++ u2.2.2.2.2) := hD
  refine lv_pop hx hb dL_law_665 rfl ?_
  refine lv_goto (tgt := 988) hx hb dL_law_666 (by decide) ?_
  refine W.widen (k := 69 + 2 * (n + 1)) (n := 1489 + 15 * (n + 1)) (show 69 + 2 * n + 0 + 0 ≤ _ by omega) (show 1489 + 15 * n + 0 + 0 ≤ _ by omega) ?_
  exact kk _ _ _ _ _ _ _ _ _ _ _ hP hD hS hl hB1 hM1 hq1 ⟨ex1.1.trans (Eq.trans hrel.1 ex2.1.symm), ex1.2.2.2.2.2.2.2.2.2.2.2.1.trans (Eq.trans hrel.2.1 ex2.2.2.2.2.1.symm), mz_elc hrel.2.2.1 ex1.2.2.1 ex1.2.2.2.1 ex1.2.2.2.2.1 ex1.2.2.2.2.2.1 ex1.2.2.2.2.2.2.1 ex1.2.2.2.2.2.2.2.2.2.2.2.2.1 ex1.2.2.2.2.2.2.2.2.2.2.2.2.2.1 ex1.2.2.2.2.2.2.2.2.2.2.2.2.2.2.1 ex1.2.2.2.2.2.2.2.2.2.2.2.2.2.2.2.1 ex1.2.2.2.2.2.2.2.2.2.2.2.2.2.2.2.2.1 ex1.2.2.2.2.2.2.2.2.2.2.2.2.2.2.2.2.2.1 ex1.2.2.2.2.2.2.2.2.2.2.2.2.2.2.2.2.2.2.1 ex1.2.2.2.2.2.2.2.2.2.2.2.2.2.2.2.2.2.2.2.1 ex2.2.2.2.2.2.1, ex1.2.2.2.2.2.2.2.2.1.trans (Eq.trans hrel.2.2.2.1 ex2.2.2.2.1.symm), ex1.2.2.2.2.2.2.2.1.trans (Eq.trans hrel.2.2.2.2.1 ex2.2.2.1.symm), trivial⟩
set_option maxHeartbeats 4000000 in
set_option maxRecDepth 100000 in
theorem law_19 (l : Launch) (D : va_G) (cA : Nat → ClassId) (xa ma : Nat) (a : Nat → Nat) (b : Nat → Nat) (i : Nat → Int32) (f : Nat → Nat → Int32) (o : Nat → Option Nat) (pl : va_W) (j : Nat → Int32) (g : Nat → Nat → Int32) (t : Nat → Int64) {p : Program} {e : Env} {s : State} {m : MethodId} {below : List Frame} {meth : Method} {c : Code} {b0 L : Nat} {xs : Nat → Int32} {H : Heap} {locs : List Loc} {ls : Array Slot} {n : Nat} (C0 : lw_At p s m meth c b0 L xs) (hE : ms_EV D cA s) (hn : 4 * n + 4 ≤ L) (hL : L ≤ 256) (hP : va_P D vwCl ((ms_WX cA xa a i f o ++ ms_WM cA ma b j g t) ++ pl) H) (hD : va_D (fun q : Nat => s.heap.size ≤ q) ((ms_WX cA xa a i f o ++ ms_WM cA ma b j g t) ++ pl)) (hS : va_S (fun q : Nat => s.heap.size ≤ q) s.heap H locs) (hl : lv_has ls 4 [(3, .int (nI (4 * n))), (2, .ref ma), (1, .ref xa), (0, .ref b0)]) (hB : ms_BX i f) (hM : ms_BM j g t) (hq : ms_hq cA o pl) (hrel : ms_rel i f j g) (kk : ∀ (a : Nat → Nat) (i : Nat → Int32) (f : Nat → Nat → Int32) (o : Nat → Option Nat) (pl : va_W) (j : Nat → Int32) (g : Nat → Nat → Int32) (t : Nat → Int64) (H : Heap) (locs : List Loc) (ls : Array Slot), va_P D vwCl ((ms_WX cA xa a i f o ++ ms_WM cA ma b j g t) ++ pl) H → va_D (fun q : Nat => s.heap.size ≤ q) ((ms_WX cA xa a i f o ++ ms_WM cA ma b j g t) ++ pl) → va_S (fun q : Nat => s.heap.size ≤ q) s.heap H locs → lv_has ls 4 [(3, .int (nI (4 * n))), (2, .ref ma), (1, .ref xa), (0, .ref b0)] → ms_BX i f → ms_BM j g t → ms_hq cA o pl → ms_rel i f j g → W p l e room_1 s m #[Value.ref b0] below meth c H locs (69 + 2 * (n + 1)) (1489 + 15 * (n + 1)) (lw_Z below #[Value.ref b0] s) (F0 m 988 ls [])) : W p l e room_1 s m #[Value.ref b0] below meth c H locs (69 + 2 * n) (1489 + 15 * n) (lw_Z below #[Value.ref b0] s) (F0 m 669 ls []) := by
  obtain ⟨hx, hb, hr, hml, hown, hts0, hX, hbl, hlocks, hgv⟩ := id C0
  have hb : c.code = cL_law := hb
  have hown : s.vm.findClass RL = some m.cls := hown
  have hts : ∀ w ∈ wsL_law, w.before #[Value.ref b0] s = true := fun w h => hts0 w (wsL_law_in w h)
  have hA : ∀ q : Nat, s.heap.size ≤ q → (fun q : Nat => s.heap.size ≤ q) q := fun _ h => h
  have hbA : ¬ (fun q : Nat => s.heap.size ≤ q) b0 := Nat.not_le.mpr hbl
  refine lv_aload_n hx hb dL_law_669 rfl (lv_at hl 2 rfl) ?_
  refine lv_aload_n hx hb dL_law_670 rfl (lv_at hl 3 rfl) ?_
  refine lv_iload_n hx hb dL_law_671 rfl (lv_at hl 0 rfl) ?_
  refine lv_iconst (v := 1) hx hb dL_law_672 (by decide) ?_
  refine lv_iadd hx hb dL_law_673 ?_
  refine ms_eqi (y := nI (4 * n + 1)) (nI_add (4 * n) 1) ?_
  refine ms_sld hx hb hX hbl hbA hS (4 * n + 1) rfl (by omega) (by omega) dL_law_674 ?_
  refine lv_aload_n hx hb dL_law_675 rfl (lv_at hl 3 rfl) ?_
  refine lv_iload_n hx hb dL_law_676 rfl (lv_at hl 0 rfl) ?_
  refine lv_iconst (v := 2) hx hb dL_law_677 (by decide) ?_
  refine lv_iadd hx hb dL_law_678 ?_
  refine ms_eqi (y := nI (4 * n + 2)) (nI_add (4 * n) 2) ?_
  refine ms_sld hx hb hX hbl hbA hS (4 * n + 2) rfl (by omega) (by omega) dL_law_679 ?_
  refine lv_aload_n hx hb dL_law_680 rfl (lv_at hl 3 rfl) ?_
  refine lv_iload_n hx hb dL_law_681 rfl (lv_at hl 0 rfl) ?_
  refine lv_iconst (v := 3) hx hb dL_law_682 (by decide) ?_
  refine lv_iadd hx hb dL_law_683 ?_
  refine ms_eqi (y := nI (4 * n + 3)) (nI_add (4 * n) 3) ?_
  refine ms_sld hx hb hX hbl hbA hS (4 * n + 3) rfl (by omega) (by omega) dL_law_684 ?_
  refine ms_pVi (qc := (RX10, TX10, 12)) (wc := ms_WX cA xa a i f o) (wr := ms_WM cA ma b j g t) (w1 := fun (u : ((Nat → Nat) × (Nat → Int32) × (Nat → Nat → Int32) × (Nat → Option Nat) × va_W)) => ms_WX cA xa u.1 u.2.1 u.2.2.1 u.2.2.2.1) (p1 := fun (u : ((Nat → Nat) × (Nat → Int32) × (Nat → Nat → Int32) × (Nat → Option Nat) × va_W)) => u.2.2.2.2) ⟨hx, hb, hml, hown, hts⟩ hE (wX10_fee l D cA xa a i f o pl (xs (4 * n + 1)) (xs (4 * n + 2)) (xs (4 * n + 3))  hB hq) (cwV 3 hts gL_law_X10_fee rfl rfl rfl (by decide +kernel) ⟨Nat.le_of_ble_eq_true rfl, Nat.le_of_ble_eq_true rfl⟩) hP hD hS hA [0, 1, 2, 3, 4, 5, 6, 7, 8, 9, 10, 11, 12, 13, 14, 15, 16, 17, 18, 19, 20, 21, 22, 23, 24, 25, 26, 27, 28, 29, 30, 31, 32, 33, 34, 35, 36, 37, 38, 39, 40, 41, 42, 43, 44, 45, 46, 47, 48, 49] [50, 51, 52, 53, 54, 55, 56, 57, 58, 59, 60, 61, 62, 63, 64, 65, 66, 67, 68] rfl rfl rfl rfl (by decide) 0 10 rfl rfl rfl hl.1 rfl (Nat.le_of_ble_eq_true rfl) dL_law_685 ⟨Nat.le_trans (show 69 + 2 * n + 0 ≤ 600 by omega) (Nat.le_of_ble_eq_true rfl), Nat.le_trans (show 1489 + 15 * n + 0 ≤ 6000 by omega) (Nat.le_of_ble_eq_true rfl)⟩ (fun r1 u2 H locs hp hP hD hS => ?_)
  obtain ⟨hB1, hq1, ex1⟩ := hp
  have hP : va_P D vwCl ((ms_WM cA ma b j g t ++ ms_WX cA xa u2.1 u2.2.1 u2.2.2.1 u2.2.2.2.1) ++ u2.2.2.2.2) H := hP
  have hD : va_D (fun q : Nat => s.heap.size ≤ q) ((ms_WM cA ma b j g t ++ ms_WX cA xa u2.1 u2.2.1 u2.2.2.1 u2.2.2.2.1) ++ u2.2.2.2.2) := hD
  refine lv_pop hx hb dL_law_688 rfl ?_
  refine lv_aload_n hx hb dL_law_689 rfl (lv_at hl 1 rfl) ?_
  refine lv_aload_n hx hb dL_law_690 rfl (lv_at hl 3 rfl) ?_
  refine lv_iload_n hx hb dL_law_691 rfl (lv_at hl 0 rfl) ?_
  refine lv_iconst (v := 1) hx hb dL_law_692 (by decide) ?_
  refine lv_iadd hx hb dL_law_693 ?_
  refine ms_eqi (y := nI (4 * n + 1)) (nI_add (4 * n) 1) ?_
  refine ms_sld hx hb hX hbl hbA hS (4 * n + 1) rfl (by omega) (by omega) dL_law_694 ?_
  refine lv_aload_n hx hb dL_law_695 rfl (lv_at hl 3 rfl) ?_
  refine lv_iload_n hx hb dL_law_696 rfl (lv_at hl 0 rfl) ?_
  refine lv_iconst (v := 2) hx hb dL_law_697 (by decide) ?_
  refine lv_iadd hx hb dL_law_698 ?_
  refine ms_eqi (y := nI (4 * n + 2)) (nI_add (4 * n) 2) ?_
  refine ms_sld hx hb hX hbl hbA hS (4 * n + 2) rfl (by omega) (by omega) dL_law_699 ?_
  refine lv_aload_n hx hb dL_law_700 rfl (lv_at hl 3 rfl) ?_
  refine lv_iload_n hx hb dL_law_701 rfl (lv_at hl 0 rfl) ?_
  refine lv_iconst (v := 3) hx hb dL_law_702 (by decide) ?_
  refine lv_iadd hx hb dL_law_703 ?_
  refine ms_eqi (y := nI (4 * n + 3)) (nI_add (4 * n) 3) ?_
  refine ms_sld hx hb hX hbl hbA hS (4 * n + 3) rfl (by omega) (by omega) dL_law_704 ?_
  refine ms_qVi (qc := (RX11, TX11, 32)) (wc := ms_WM cA ma b j g t) (wr := ms_WX cA xa u2.1 u2.2.1 u2.2.2.1 u2.2.2.2.1) (w1 := fun (u : ((Nat → Int32) × (Nat → Nat → Int32) × (Nat → Int64))) => ms_WM cA ma b u.1 u.2.1 u.2.2) ⟨hx, hb, hml, hown, hts⟩ hE (wX11_fee l D cA ma b j g t (xs (4 * n + 1)) (xs (4 * n + 2)) (xs (4 * n + 3))  hM) (cwV 3 hts gL_law_X11_fee rfl rfl rfl (by decide +kernel) ⟨Nat.le_of_ble_eq_true rfl, Nat.le_of_ble_eq_true rfl⟩) hP hD hS hA [0, 1, 2, 3, 4, 5, 6, 7, 8, 9, 10, 11, 12, 13, 14, 15, 16, 17, 18] [19, 20, 21, 22, 23, 24, 25, 26, 27, 28, 29, 30, 31, 32, 33, 34, 35, 36, 37, 38, 39, 40, 41, 42, 43, 44, 45, 46, 47, 48, 49, 50, 51, 52, 53, 54, 55, 56, 57, 58, 59, 60, 61, 62, 63, 64, 65, 66, 67, 68] rfl rfl rfl rfl (by decide) 0 11 rfl rfl rfl hl.1 rfl (Nat.le_of_ble_eq_true rfl) dL_law_705 ⟨Nat.le_trans (show 69 + 2 * n + 0 + 0 ≤ 600 by omega) (Nat.le_of_ble_eq_true rfl), Nat.le_trans (show 1489 + 15 * n + 0 + 0 ≤ 6000 by omega) (Nat.le_of_ble_eq_true rfl)⟩ (fun r3 u4 H locs hp hP hD hS => ?_)
  obtain ⟨hM1, ex2⟩ := hp
  have hP : va_P D vwCl ((ms_WX cA xa u2.1 u2.2.1 u2.2.2.1 u2.2.2.2.1 ++ ms_WM cA ma b u4.1 u4.2.1 u4.2.2) ++ u2.2.2.2.2) H := hP
  have hD : va_D (fun q : Nat => s.heap.size ≤ q) ((ms_WX cA xa u2.1 u2.2.1 u2.2.2.1 u2.2.2.2.1 ++ ms_WM cA ma b u4.1 u4.2.1 u4.2.2) ++ u2.2.2.2.2) := hD
  refine lv_pop hx hb dL_law_708 rfl ?_
  refine lv_goto (tgt := 988) hx hb dL_law_709 (by decide) ?_
  refine W.widen (k := 69 + 2 * (n + 1)) (n := 1489 + 15 * (n + 1)) (show 69 + 2 * n + 0 + 0 ≤ _ by omega) (show 1489 + 15 * n + 0 + 0 ≤ _ by omega) ?_
  exact kk _ _ _ _ _ _ _ _ _ _ _ hP hD hS hl hB1 hM1 hq1 ⟨ex1.1.trans (Eq.trans hrel.1 ex2.1.symm), ex1.2.2.2.2.2.2.2.2.2.2.2.1.trans (Eq.trans hrel.2.1 ex2.2.2.2.2.1.symm), mz_elc hrel.2.2.1 ex1.2.2.1 ex1.2.2.2.1 ex1.2.2.2.2.1 ex1.2.2.2.2.2.1 ex1.2.2.2.2.2.2.1 ex1.2.2.2.2.2.2.2.2.2.2.2.2.1 ex1.2.2.2.2.2.2.2.2.2.2.2.2.2.1 ex1.2.2.2.2.2.2.2.2.2.2.2.2.2.2.1 ex1.2.2.2.2.2.2.2.2.2.2.2.2.2.2.2.1 ex1.2.2.2.2.2.2.2.2.2.2.2.2.2.2.2.2.1 ex1.2.2.2.2.2.2.2.2.2.2.2.2.2.2.2.2.2.1 ex1.2.2.2.2.2.2.2.2.2.2.2.2.2.2.2.2.2.2.1 ex1.2.2.2.2.2.2.2.2.2.2.2.2.2.2.2.2.2.2.2.1 ex2.2.2.2.2.2.1, ex1.2.2.2.2.2.2.2.2.1.trans (Eq.trans hrel.2.2.2.1 ex2.2.2.2.1.symm), ex1.2.2.2.2.2.2.2.1.trans (Eq.trans hrel.2.2.2.2.1 ex2.2.2.1.symm), trivial⟩
set_option maxHeartbeats 4000000 in
set_option maxRecDepth 100000 in
theorem law_20 (l : Launch) (D : va_G) (cA : Nat → ClassId) (xa ma : Nat) (a : Nat → Nat) (b : Nat → Nat) (i : Nat → Int32) (f : Nat → Nat → Int32) (o : Nat → Option Nat) (pl : va_W) (j : Nat → Int32) (g : Nat → Nat → Int32) (t : Nat → Int64) {p : Program} {e : Env} {s : State} {m : MethodId} {below : List Frame} {meth : Method} {c : Code} {b0 L : Nat} {xs : Nat → Int32} {H : Heap} {locs : List Loc} {ls : Array Slot} {n : Nat} (C0 : lw_At p s m meth c b0 L xs) (hE : ms_EV D cA s) (hn : 4 * n + 4 ≤ L) (hL : L ≤ 256) (hP : va_P D vwCl ((ms_WX cA xa a i f o ++ ms_WM cA ma b j g t) ++ pl) H) (hD : va_D (fun q : Nat => s.heap.size ≤ q) ((ms_WX cA xa a i f o ++ ms_WM cA ma b j g t) ++ pl)) (hS : va_S (fun q : Nat => s.heap.size ≤ q) s.heap H locs) (hl : lv_has ls 4 [(3, .int (nI (4 * n))), (2, .ref ma), (1, .ref xa), (0, .ref b0)]) (hB : ms_BX i f) (hM : ms_BM j g t) (hq : ms_hq cA o pl) (hrel : ms_rel i f j g) (kk : ∀ (a : Nat → Nat) (i : Nat → Int32) (f : Nat → Nat → Int32) (o : Nat → Option Nat) (pl : va_W) (j : Nat → Int32) (g : Nat → Nat → Int32) (t : Nat → Int64) (H : Heap) (locs : List Loc) (ls : Array Slot), va_P D vwCl ((ms_WX cA xa a i f o ++ ms_WM cA ma b j g t) ++ pl) H → va_D (fun q : Nat => s.heap.size ≤ q) ((ms_WX cA xa a i f o ++ ms_WM cA ma b j g t) ++ pl) → va_S (fun q : Nat => s.heap.size ≤ q) s.heap H locs → lv_has ls 4 [(3, .int (nI (4 * n))), (2, .ref ma), (1, .ref xa), (0, .ref b0)] → ms_BX i f → ms_BM j g t → ms_hq cA o pl → ms_rel i f j g → W p l e room_1 s m #[Value.ref b0] below meth c H locs (69 + 2 * (n + 1)) (1489 + 15 * (n + 1)) (lw_Z below #[Value.ref b0] s) (F0 m 988 ls [])) : W p l e room_1 s m #[Value.ref b0] below meth c H locs (69 + 2 * n) (1489 + 15 * n) (lw_Z below #[Value.ref b0] s) (F0 m 712 ls []) := by
  obtain ⟨hx, hb, hr, hml, hown, hts0, hX, hbl, hlocks, hgv⟩ := id C0
  have hb : c.code = cL_law := hb
  have hown : s.vm.findClass RL = some m.cls := hown
  have hts : ∀ w ∈ wsL_law, w.before #[Value.ref b0] s = true := fun w h => hts0 w (wsL_law_in w h)
  have hA : ∀ q : Nat, s.heap.size ≤ q → (fun q : Nat => s.heap.size ≤ q) q := fun _ h => h
  have hbA : ¬ (fun q : Nat => s.heap.size ≤ q) b0 := Nat.not_le.mpr hbl
  refine lv_aload_n hx hb dL_law_712 rfl (lv_at hl 2 rfl) ?_
  refine lv_aload_n hx hb dL_law_713 rfl (lv_at hl 3 rfl) ?_
  refine lv_iload_n hx hb dL_law_714 rfl (lv_at hl 0 rfl) ?_
  refine lv_iconst (v := 1) hx hb dL_law_715 (by decide) ?_
  refine lv_iadd hx hb dL_law_716 ?_
  refine ms_eqi (y := nI (4 * n + 1)) (nI_add (4 * n) 1) ?_
  refine ms_sld hx hb hX hbl hbA hS (4 * n + 1) rfl (by omega) (by omega) dL_law_717 ?_
  refine ms_pVi (qc := (RX10, TX10, 12)) (wc := ms_WX cA xa a i f o) (wr := ms_WM cA ma b j g t) (w1 := fun (u : ((Nat → Nat) × (Nat → Int32) × (Nat → Nat → Int32) × (Nat → Option Nat) × va_W)) => ms_WX cA xa u.1 u.2.1 u.2.2.1 u.2.2.2.1) (p1 := fun (u : ((Nat → Nat) × (Nat → Int32) × (Nat → Nat → Int32) × (Nat → Option Nat) × va_W)) => u.2.2.2.2) ⟨hx, hb, hml, hown, hts⟩ hE (wX10_owes l D cA xa a i f o pl (xs (4 * n + 1))  hB hq) (cwV 1 hts gL_law_X10_owes rfl rfl rfl (by decide +kernel) ⟨Nat.le_of_ble_eq_true rfl, Nat.le_of_ble_eq_true rfl⟩) hP hD hS hA [0, 1, 2, 3, 4, 5, 6, 7, 8, 9, 10, 11, 12, 13, 14, 15, 16, 17, 18, 19, 20, 21, 22, 23, 24, 25, 26, 27, 28, 29, 30, 31, 32, 33, 34, 35, 36, 37, 38, 39, 40, 41, 42, 43, 44, 45, 46, 47, 48, 49] [50, 51, 52, 53, 54, 55, 56, 57, 58, 59, 60, 61, 62, 63, 64, 65, 66, 67, 68] rfl rfl rfl rfl (by decide) 0 10 rfl rfl rfl hl.1 rfl (Nat.le_of_ble_eq_true rfl) dL_law_718 ⟨Nat.le_trans (show 69 + 2 * n + 0 ≤ 600 by omega) (Nat.le_of_ble_eq_true rfl), Nat.le_trans (show 1489 + 15 * n + 0 ≤ 6000 by omega) (Nat.le_of_ble_eq_true rfl)⟩ (fun r1 u2 H locs hp hP hD hS => ?_)
  obtain ⟨hB1, hq1, ex1⟩ := hp
  have hP : va_P D vwCl ((ms_WM cA ma b j g t ++ ms_WX cA xa u2.1 u2.2.1 u2.2.2.1 u2.2.2.2.1) ++ u2.2.2.2.2) H := hP
  have hD : va_D (fun q : Nat => s.heap.size ≤ q) ((ms_WM cA ma b j g t ++ ms_WX cA xa u2.1 u2.2.1 u2.2.2.1 u2.2.2.2.1) ++ u2.2.2.2.2) := hD
  refine lv_pop hx hb dL_law_721 rfl ?_
  refine lv_aload_n hx hb dL_law_722 rfl (lv_at hl 1 rfl) ?_
  refine lv_aload_n hx hb dL_law_723 rfl (lv_at hl 3 rfl) ?_
  refine lv_iload_n hx hb dL_law_724 rfl (lv_at hl 0 rfl) ?_
  refine lv_iconst (v := 1) hx hb dL_law_725 (by decide) ?_
  refine lv_iadd hx hb dL_law_726 ?_
  refine ms_eqi (y := nI (4 * n + 1)) (nI_add (4 * n) 1) ?_
  refine ms_sld hx hb hX hbl hbA hS (4 * n + 1) rfl (by omega) (by omega) dL_law_727 ?_
  refine ms_qVi (qc := (RX11, TX11, 32)) (wc := ms_WM cA ma b j g t) (wr := ms_WX cA xa u2.1 u2.2.1 u2.2.2.1 u2.2.2.2.1) (w1 := fun (u : ((Nat → Int32) × (Nat → Nat → Int32) × (Nat → Int64))) => ms_WM cA ma b u.1 u.2.1 u.2.2) ⟨hx, hb, hml, hown, hts⟩ hE (wX11_owes l D cA ma b j g t (xs (4 * n + 1))  hM) (cwV 1 hts gL_law_X11_owes rfl rfl rfl (by decide +kernel) ⟨Nat.le_of_ble_eq_true rfl, Nat.le_of_ble_eq_true rfl⟩) hP hD hS hA [0, 1, 2, 3, 4, 5, 6, 7, 8, 9, 10, 11, 12, 13, 14, 15, 16, 17, 18] [19, 20, 21, 22, 23, 24, 25, 26, 27, 28, 29, 30, 31, 32, 33, 34, 35, 36, 37, 38, 39, 40, 41, 42, 43, 44, 45, 46, 47, 48, 49, 50, 51, 52, 53, 54, 55, 56, 57, 58, 59, 60, 61, 62, 63, 64, 65, 66, 67, 68] rfl rfl rfl rfl (by decide) 0 11 rfl rfl rfl hl.1 rfl (Nat.le_of_ble_eq_true rfl) dL_law_728 ⟨Nat.le_trans (show 69 + 2 * n + 0 + 0 ≤ 600 by omega) (Nat.le_of_ble_eq_true rfl), Nat.le_trans (show 1489 + 15 * n + 0 + 0 ≤ 6000 by omega) (Nat.le_of_ble_eq_true rfl)⟩ (fun r3 u4 H locs hp hP hD hS => ?_)
  obtain ⟨hM1, ex2⟩ := hp
  have hP : va_P D vwCl ((ms_WX cA xa u2.1 u2.2.1 u2.2.2.1 u2.2.2.2.1 ++ ms_WM cA ma b u4.1 u4.2.1 u4.2.2) ++ u2.2.2.2.2) H := hP
  have hD : va_D (fun q : Nat => s.heap.size ≤ q) ((ms_WX cA xa u2.1 u2.2.1 u2.2.2.1 u2.2.2.2.1 ++ ms_WM cA ma b u4.1 u4.2.1 u4.2.2) ++ u2.2.2.2.2) := hD
  refine lv_pop hx hb dL_law_731 rfl ?_
  refine lv_goto (tgt := 988) hx hb dL_law_732 (by decide) ?_
  refine W.widen (k := 69 + 2 * (n + 1)) (n := 1489 + 15 * (n + 1)) (show 69 + 2 * n + 0 + 0 ≤ _ by omega) (show 1489 + 15 * n + 0 + 0 ≤ _ by omega) ?_
  exact kk _ _ _ _ _ _ _ _ _ _ _ hP hD hS hl hB1 hM1 hq1 ⟨ex1.1.trans (Eq.trans hrel.1 ex2.1.symm), ex1.2.2.2.2.2.2.2.2.2.2.2.1.trans (Eq.trans hrel.2.1 ex2.2.2.2.2.1.symm), mz_elc hrel.2.2.1 ex1.2.2.1 ex1.2.2.2.1 ex1.2.2.2.2.1 ex1.2.2.2.2.2.1 ex1.2.2.2.2.2.2.1 ex1.2.2.2.2.2.2.2.2.2.2.2.2.1 ex1.2.2.2.2.2.2.2.2.2.2.2.2.2.1 ex1.2.2.2.2.2.2.2.2.2.2.2.2.2.2.1 ex1.2.2.2.2.2.2.2.2.2.2.2.2.2.2.2.1 ex1.2.2.2.2.2.2.2.2.2.2.2.2.2.2.2.2.1 ex1.2.2.2.2.2.2.2.2.2.2.2.2.2.2.2.2.2.1 ex1.2.2.2.2.2.2.2.2.2.2.2.2.2.2.2.2.2.2.1 ex1.2.2.2.2.2.2.2.2.2.2.2.2.2.2.2.2.2.2.2.1 ex2.2.2.2.2.2.1, ex1.2.2.2.2.2.2.2.2.1.trans (Eq.trans hrel.2.2.2.1 ex2.2.2.2.1.symm), ex1.2.2.2.2.2.2.2.1.trans (Eq.trans hrel.2.2.2.2.1 ex2.2.2.1.symm), trivial⟩
set_option maxHeartbeats 4000000 in
set_option maxRecDepth 100000 in
theorem law_21 (l : Launch) (D : va_G) (cA : Nat → ClassId) (xa ma : Nat) (a : Nat → Nat) (b : Nat → Nat) (i : Nat → Int32) (f : Nat → Nat → Int32) (o : Nat → Option Nat) (pl : va_W) (j : Nat → Int32) (g : Nat → Nat → Int32) (t : Nat → Int64) {p : Program} {e : Env} {s : State} {m : MethodId} {below : List Frame} {meth : Method} {c : Code} {b0 L : Nat} {xs : Nat → Int32} {H : Heap} {locs : List Loc} {ls : Array Slot} {n : Nat} (C0 : lw_At p s m meth c b0 L xs) (hE : ms_EV D cA s) (hn : 4 * n + 4 ≤ L) (hL : L ≤ 256) (hP : va_P D vwCl ((ms_WX cA xa a i f o ++ ms_WM cA ma b j g t) ++ pl) H) (hD : va_D (fun q : Nat => s.heap.size ≤ q) ((ms_WX cA xa a i f o ++ ms_WM cA ma b j g t) ++ pl)) (hS : va_S (fun q : Nat => s.heap.size ≤ q) s.heap H locs) (hl : lv_has ls 4 [(3, .int (nI (4 * n))), (2, .ref ma), (1, .ref xa), (0, .ref b0)]) (hB : ms_BX i f) (hM : ms_BM j g t) (hq : ms_hq cA o pl) (hrel : ms_rel i f j g) (kk : ∀ (a : Nat → Nat) (i : Nat → Int32) (f : Nat → Nat → Int32) (o : Nat → Option Nat) (pl : va_W) (j : Nat → Int32) (g : Nat → Nat → Int32) (t : Nat → Int64) (H : Heap) (locs : List Loc) (ls : Array Slot), va_P D vwCl ((ms_WX cA xa a i f o ++ ms_WM cA ma b j g t) ++ pl) H → va_D (fun q : Nat => s.heap.size ≤ q) ((ms_WX cA xa a i f o ++ ms_WM cA ma b j g t) ++ pl) → va_S (fun q : Nat => s.heap.size ≤ q) s.heap H locs → lv_has ls 4 [(3, .int (nI (4 * n))), (2, .ref ma), (1, .ref xa), (0, .ref b0)] → ms_BX i f → ms_BM j g t → ms_hq cA o pl → ms_rel i f j g → W p l e room_1 s m #[Value.ref b0] below meth c H locs (69 + 2 * (n + 1)) (1489 + 15 * (n + 1)) (lw_Z below #[Value.ref b0] s) (F0 m 988 ls [])) : W p l e room_1 s m #[Value.ref b0] below meth c H locs (69 + 2 * n) (1489 + 15 * n) (lw_Z below #[Value.ref b0] s) (F0 m 735 ls []) := by
  obtain ⟨hx, hb, hr, hml, hown, hts0, hX, hbl, hlocks, hgv⟩ := id C0
  have hb : c.code = cL_law := hb
  have hown : s.vm.findClass RL = some m.cls := hown
  have hts : ∀ w ∈ wsL_law, w.before #[Value.ref b0] s = true := fun w h => hts0 w (wsL_law_in w h)
  have hA : ∀ q : Nat, s.heap.size ≤ q → (fun q : Nat => s.heap.size ≤ q) q := fun _ h => h
  have hbA : ¬ (fun q : Nat => s.heap.size ≤ q) b0 := Nat.not_le.mpr hbl
  refine lv_aload_n hx hb dL_law_735 rfl (lv_at hl 2 rfl) ?_
  refine ms_pVi (qc := (RX10, TX10, 12)) (wc := ms_WX cA xa a i f o) (wr := ms_WM cA ma b j g t) (w1 := fun (u : ((Nat → Nat) × (Nat → Int32) × (Nat → Nat → Int32) × (Nat → Option Nat) × va_W)) => ms_WX cA xa u.1 u.2.1 u.2.2.1 u.2.2.2.1) (p1 := fun (u : ((Nat → Nat) × (Nat → Int32) × (Nat → Nat → Int32) × (Nat → Option Nat) × va_W)) => u.2.2.2.2) ⟨hx, hb, hml, hown, hts⟩ hE (wX10_clash l D cA xa a i f o pl   hB hq) (cwV 0 hts gL_law_X10_clash rfl rfl rfl (by decide +kernel) ⟨Nat.le_of_ble_eq_true rfl, Nat.le_of_ble_eq_true rfl⟩) hP hD hS hA [0, 1, 2, 3, 4, 5, 6, 7, 8, 9, 10, 11, 12, 13, 14, 15, 16, 17, 18, 19, 20, 21, 22, 23, 24, 25, 26, 27, 28, 29, 30, 31, 32, 33, 34, 35, 36, 37, 38, 39, 40, 41, 42, 43, 44, 45, 46, 47, 48, 49] [50, 51, 52, 53, 54, 55, 56, 57, 58, 59, 60, 61, 62, 63, 64, 65, 66, 67, 68] rfl rfl rfl rfl (by decide) 0 10 rfl rfl rfl hl.1 rfl (Nat.le_of_ble_eq_true rfl) dL_law_736 ⟨Nat.le_trans (show 69 + 2 * n + 0 ≤ 600 by omega) (Nat.le_of_ble_eq_true rfl), Nat.le_trans (show 1489 + 15 * n + 0 ≤ 6000 by omega) (Nat.le_of_ble_eq_true rfl)⟩ (fun r1 u2 H locs hp hP hD hS => ?_)
  obtain ⟨hB1, hq1, ex1⟩ := hp
  have hP : va_P D vwCl ((ms_WM cA ma b j g t ++ ms_WX cA xa u2.1 u2.2.1 u2.2.2.1 u2.2.2.2.1) ++ u2.2.2.2.2) H := hP
  have hD : va_D (fun q : Nat => s.heap.size ≤ q) ((ms_WM cA ma b j g t ++ ms_WX cA xa u2.1 u2.2.1 u2.2.2.1 u2.2.2.2.1) ++ u2.2.2.2.2) := hD
  refine lv_pop hx hb dL_law_739 rfl ?_
  refine lv_aload_n hx hb dL_law_740 rfl (lv_at hl 1 rfl) ?_
  refine ms_qVi (qc := (RX11, TX11, 32)) (wc := ms_WM cA ma b j g t) (wr := ms_WX cA xa u2.1 u2.2.1 u2.2.2.1 u2.2.2.2.1) (w1 := fun (u : ((Nat → Int32) × (Nat → Nat → Int32) × (Nat → Int64))) => ms_WM cA ma b u.1 u.2.1 u.2.2) ⟨hx, hb, hml, hown, hts⟩ hE (wX11_clash l D cA ma b j g t   hM) (cwV 0 hts gL_law_X11_clash rfl rfl rfl (by decide +kernel) ⟨Nat.le_of_ble_eq_true rfl, Nat.le_of_ble_eq_true rfl⟩) hP hD hS hA [0, 1, 2, 3, 4, 5, 6, 7, 8, 9, 10, 11, 12, 13, 14, 15, 16, 17, 18] [19, 20, 21, 22, 23, 24, 25, 26, 27, 28, 29, 30, 31, 32, 33, 34, 35, 36, 37, 38, 39, 40, 41, 42, 43, 44, 45, 46, 47, 48, 49, 50, 51, 52, 53, 54, 55, 56, 57, 58, 59, 60, 61, 62, 63, 64, 65, 66, 67, 68] rfl rfl rfl rfl (by decide) 0 11 rfl rfl rfl hl.1 rfl (Nat.le_of_ble_eq_true rfl) dL_law_741 ⟨Nat.le_trans (show 69 + 2 * n + 0 + 0 ≤ 600 by omega) (Nat.le_of_ble_eq_true rfl), Nat.le_trans (show 1489 + 15 * n + 0 + 0 ≤ 6000 by omega) (Nat.le_of_ble_eq_true rfl)⟩ (fun r3 u4 H locs hp hP hD hS => ?_)
  obtain ⟨hM1, ex2⟩ := hp
  have hP : va_P D vwCl ((ms_WX cA xa u2.1 u2.2.1 u2.2.2.1 u2.2.2.2.1 ++ ms_WM cA ma b u4.1 u4.2.1 u4.2.2) ++ u2.2.2.2.2) H := hP
  have hD : va_D (fun q : Nat => s.heap.size ≤ q) ((ms_WX cA xa u2.1 u2.2.1 u2.2.2.1 u2.2.2.2.1 ++ ms_WM cA ma b u4.1 u4.2.1 u4.2.2) ++ u2.2.2.2.2) := hD
  refine lv_pop hx hb dL_law_744 rfl ?_
  refine lv_goto (tgt := 988) hx hb dL_law_745 (by decide) ?_
  refine W.widen (k := 69 + 2 * (n + 1)) (n := 1489 + 15 * (n + 1)) (show 69 + 2 * n + 0 + 0 ≤ _ by omega) (show 1489 + 15 * n + 0 + 0 ≤ _ by omega) ?_
  exact kk _ _ _ _ _ _ _ _ _ _ _ hP hD hS hl hB1 hM1 hq1 ⟨ex1.2.1.trans (Eq.trans hrel.1 ex2.2.1.symm), ex1.2.2.2.2.2.2.2.2.2.2.2.2.1.trans (Eq.trans hrel.2.1 ex2.2.2.2.2.2.1.symm), mz_elc hrel.2.2.1 ex1.2.2.2.1 ex1.2.2.2.2.1 ex1.2.2.2.2.2.1 ex1.2.2.2.2.2.2.1 ex1.2.2.2.2.2.2.2.1 ex1.2.2.2.2.2.2.2.2.2.2.2.2.2.1 ex1.2.2.2.2.2.2.2.2.2.2.2.2.2.2.1 ex1.2.2.2.2.2.2.2.2.2.2.2.2.2.2.2.1 ex1.2.2.2.2.2.2.2.2.2.2.2.2.2.2.2.2.1 ex1.2.2.2.2.2.2.2.2.2.2.2.2.2.2.2.2.2.1 ex1.2.2.2.2.2.2.2.2.2.2.2.2.2.2.2.2.2.2.1 ex1.2.2.2.2.2.2.2.2.2.2.2.2.2.2.2.2.2.2.2.1 ex1.2.2.2.2.2.2.2.2.2.2.2.2.2.2.2.2.2.2.2.2.1 ex2.2.2.2.2.2.2.1, ex1.2.2.2.2.2.2.2.2.2.1.trans (Eq.trans hrel.2.2.2.1 ex2.2.2.2.2.1.symm), ex1.2.2.2.2.2.2.2.2.1.trans (Eq.trans hrel.2.2.2.2.1 ex2.2.2.2.1.symm), trivial⟩
set_option maxHeartbeats 4000000 in
set_option maxRecDepth 100000 in
theorem law_22 (l : Launch) (D : va_G) (cA : Nat → ClassId) (xa ma : Nat) (a : Nat → Nat) (b : Nat → Nat) (i : Nat → Int32) (f : Nat → Nat → Int32) (o : Nat → Option Nat) (pl : va_W) (j : Nat → Int32) (g : Nat → Nat → Int32) (t : Nat → Int64) {p : Program} {e : Env} {s : State} {m : MethodId} {below : List Frame} {meth : Method} {c : Code} {b0 L : Nat} {xs : Nat → Int32} {H : Heap} {locs : List Loc} {ls : Array Slot} {n : Nat} (C0 : lw_At p s m meth c b0 L xs) (hE : ms_EV D cA s) (hn : 4 * n + 4 ≤ L) (hL : L ≤ 256) (hP : va_P D vwCl ((ms_WX cA xa a i f o ++ ms_WM cA ma b j g t) ++ pl) H) (hD : va_D (fun q : Nat => s.heap.size ≤ q) ((ms_WX cA xa a i f o ++ ms_WM cA ma b j g t) ++ pl)) (hS : va_S (fun q : Nat => s.heap.size ≤ q) s.heap H locs) (hl : lv_has ls 4 [(3, .int (nI (4 * n))), (2, .ref ma), (1, .ref xa), (0, .ref b0)]) (hB : ms_BX i f) (hM : ms_BM j g t) (hq : ms_hq cA o pl) (hrel : ms_rel i f j g) (kk : ∀ (a : Nat → Nat) (i : Nat → Int32) (f : Nat → Nat → Int32) (o : Nat → Option Nat) (pl : va_W) (j : Nat → Int32) (g : Nat → Nat → Int32) (t : Nat → Int64) (H : Heap) (locs : List Loc) (ls : Array Slot), va_P D vwCl ((ms_WX cA xa a i f o ++ ms_WM cA ma b j g t) ++ pl) H → va_D (fun q : Nat => s.heap.size ≤ q) ((ms_WX cA xa a i f o ++ ms_WM cA ma b j g t) ++ pl) → va_S (fun q : Nat => s.heap.size ≤ q) s.heap H locs → lv_has ls 4 [(3, .int (nI (4 * n))), (2, .ref ma), (1, .ref xa), (0, .ref b0)] → ms_BX i f → ms_BM j g t → ms_hq cA o pl → ms_rel i f j g → W p l e room_1 s m #[Value.ref b0] below meth c H locs (69 + 2 * (n + 1)) (1489 + 15 * (n + 1)) (lw_Z below #[Value.ref b0] s) (F0 m 988 ls [])) : W p l e room_1 s m #[Value.ref b0] below meth c H locs (69 + 2 * n) (1489 + 15 * n) (lw_Z below #[Value.ref b0] s) (F0 m 748 ls []) := by
  obtain ⟨hx, hb, hr, hml, hown, hts0, hX, hbl, hlocks, hgv⟩ := id C0
  have hb : c.code = cL_law := hb
  have hown : s.vm.findClass RL = some m.cls := hown
  have hts : ∀ w ∈ wsL_law, w.before #[Value.ref b0] s = true := fun w h => hts0 w (wsL_law_in w h)
  have hA : ∀ q : Nat, s.heap.size ≤ q → (fun q : Nat => s.heap.size ≤ q) q := fun _ h => h
  have hbA : ¬ (fun q : Nat => s.heap.size ≤ q) b0 := Nat.not_le.mpr hbl
  refine lv_aload_n hx hb dL_law_748 rfl (lv_at hl 2 rfl) ?_
  refine lv_aload_n hx hb dL_law_749 rfl (lv_at hl 3 rfl) ?_
  refine lv_iload_n hx hb dL_law_750 rfl (lv_at hl 0 rfl) ?_
  refine lv_iconst (v := 1) hx hb dL_law_751 (by decide) ?_
  refine lv_iadd hx hb dL_law_752 ?_
  refine ms_eqi (y := nI (4 * n + 1)) (nI_add (4 * n) 1) ?_
  refine ms_sld hx hb hX hbl hbA hS (4 * n + 1) rfl (by omega) (by omega) dL_law_753 ?_
  refine lv_aload_n hx hb dL_law_754 rfl (lv_at hl 3 rfl) ?_
  refine lv_iload_n hx hb dL_law_755 rfl (lv_at hl 0 rfl) ?_
  refine lv_iconst (v := 2) hx hb dL_law_756 (by decide) ?_
  refine lv_iadd hx hb dL_law_757 ?_
  refine ms_eqi (y := nI (4 * n + 2)) (nI_add (4 * n) 2) ?_
  refine ms_sld hx hb hX hbl hbA hS (4 * n + 2) rfl (by omega) (by omega) dL_law_758 ?_
  refine ms_pVi (qc := (RX10, TX10, 12)) (wc := ms_WX cA xa a i f o) (wr := ms_WM cA ma b j g t) (w1 := fun (u : ((Nat → Nat) × (Nat → Int32) × (Nat → Nat → Int32) × (Nat → Option Nat) × va_W)) => ms_WX cA xa u.1 u.2.1 u.2.2.1 u.2.2.2.1) (p1 := fun (u : ((Nat → Nat) × (Nat → Int32) × (Nat → Nat → Int32) × (Nat → Option Nat) × va_W)) => u.2.2.2.2) ⟨hx, hb, hml, hown, hts⟩ hE (wX10_rate l D cA xa a i f o pl (xs (4 * n + 1)) (xs (4 * n + 2))  hB hq) (cwV 2 hts gL_law_X10_rate rfl rfl rfl (by decide +kernel) ⟨Nat.le_of_ble_eq_true rfl, Nat.le_of_ble_eq_true rfl⟩) hP hD hS hA [0, 1, 2, 3, 4, 5, 6, 7, 8, 9, 10, 11, 12, 13, 14, 15, 16, 17, 18, 19, 20, 21, 22, 23, 24, 25, 26, 27, 28, 29, 30, 31, 32, 33, 34, 35, 36, 37, 38, 39, 40, 41, 42, 43, 44, 45, 46, 47, 48, 49] [50, 51, 52, 53, 54, 55, 56, 57, 58, 59, 60, 61, 62, 63, 64, 65, 66, 67, 68] rfl rfl rfl rfl (by decide) 0 10 rfl rfl rfl hl.1 rfl (Nat.le_of_ble_eq_true rfl) dL_law_759 ⟨Nat.le_trans (show 69 + 2 * n + 0 ≤ 600 by omega) (Nat.le_of_ble_eq_true rfl), Nat.le_trans (show 1489 + 15 * n + 0 ≤ 6000 by omega) (Nat.le_of_ble_eq_true rfl)⟩ (fun r1 u2 H locs hp hP hD hS => ?_)
  obtain ⟨hB1, hq1, ex1⟩ := hp
  have hP : va_P D vwCl ((ms_WM cA ma b j g t ++ ms_WX cA xa u2.1 u2.2.1 u2.2.2.1 u2.2.2.2.1) ++ u2.2.2.2.2) H := hP
  have hD : va_D (fun q : Nat => s.heap.size ≤ q) ((ms_WM cA ma b j g t ++ ms_WX cA xa u2.1 u2.2.1 u2.2.2.1 u2.2.2.2.1) ++ u2.2.2.2.2) := hD
  refine lv_pop hx hb dL_law_762 rfl ?_
  refine lv_aload_n hx hb dL_law_763 rfl (lv_at hl 1 rfl) ?_
  refine lv_aload_n hx hb dL_law_764 rfl (lv_at hl 3 rfl) ?_
  refine lv_iload_n hx hb dL_law_765 rfl (lv_at hl 0 rfl) ?_
  refine lv_iconst (v := 1) hx hb dL_law_766 (by decide) ?_
  refine lv_iadd hx hb dL_law_767 ?_
  refine ms_eqi (y := nI (4 * n + 1)) (nI_add (4 * n) 1) ?_
  refine ms_sld hx hb hX hbl hbA hS (4 * n + 1) rfl (by omega) (by omega) dL_law_768 ?_
  refine lv_aload_n hx hb dL_law_769 rfl (lv_at hl 3 rfl) ?_
  refine lv_iload_n hx hb dL_law_770 rfl (lv_at hl 0 rfl) ?_
  refine lv_iconst (v := 2) hx hb dL_law_771 (by decide) ?_
  refine lv_iadd hx hb dL_law_772 ?_
  refine ms_eqi (y := nI (4 * n + 2)) (nI_add (4 * n) 2) ?_
  refine ms_sld hx hb hX hbl hbA hS (4 * n + 2) rfl (by omega) (by omega) dL_law_773 ?_
  refine ms_qVi (qc := (RX11, TX11, 32)) (wc := ms_WM cA ma b j g t) (wr := ms_WX cA xa u2.1 u2.2.1 u2.2.2.1 u2.2.2.2.1) (w1 := fun (u : ((Nat → Int32) × (Nat → Nat → Int32) × (Nat → Int64))) => ms_WM cA ma b u.1 u.2.1 u.2.2) ⟨hx, hb, hml, hown, hts⟩ hE (wX11_rate l D cA ma b j g t (xs (4 * n + 1)) (xs (4 * n + 2))  hM) (cwV 2 hts gL_law_X11_rate rfl rfl rfl (by decide +kernel) ⟨Nat.le_of_ble_eq_true rfl, Nat.le_of_ble_eq_true rfl⟩) hP hD hS hA [0, 1, 2, 3, 4, 5, 6, 7, 8, 9, 10, 11, 12, 13, 14, 15, 16, 17, 18] [19, 20, 21, 22, 23, 24, 25, 26, 27, 28, 29, 30, 31, 32, 33, 34, 35, 36, 37, 38, 39, 40, 41, 42, 43, 44, 45, 46, 47, 48, 49, 50, 51, 52, 53, 54, 55, 56, 57, 58, 59, 60, 61, 62, 63, 64, 65, 66, 67, 68] rfl rfl rfl rfl (by decide) 0 11 rfl rfl rfl hl.1 rfl (Nat.le_of_ble_eq_true rfl) dL_law_774 ⟨Nat.le_trans (show 69 + 2 * n + 0 + 0 ≤ 600 by omega) (Nat.le_of_ble_eq_true rfl), Nat.le_trans (show 1489 + 15 * n + 0 + 0 ≤ 6000 by omega) (Nat.le_of_ble_eq_true rfl)⟩ (fun r3 u4 H locs hp hP hD hS => ?_)
  obtain ⟨hM1, ex2⟩ := hp
  have hP : va_P D vwCl ((ms_WX cA xa u2.1 u2.2.1 u2.2.2.1 u2.2.2.2.1 ++ ms_WM cA ma b u4.1 u4.2.1 u4.2.2) ++ u2.2.2.2.2) H := hP
  have hD : va_D (fun q : Nat => s.heap.size ≤ q) ((ms_WX cA xa u2.1 u2.2.1 u2.2.2.1 u2.2.2.2.1 ++ ms_WM cA ma b u4.1 u4.2.1 u4.2.2) ++ u2.2.2.2.2) := hD
  refine lv_pop hx hb dL_law_777 rfl ?_
  refine lv_goto (tgt := 988) hx hb dL_law_778 (by decide) ?_
  refine W.widen (k := 69 + 2 * (n + 1)) (n := 1489 + 15 * (n + 1)) (show 69 + 2 * n + 0 + 0 ≤ _ by omega) (show 1489 + 15 * n + 0 + 0 ≤ _ by omega) ?_
  exact kk _ _ _ _ _ _ _ _ _ _ _ hP hD hS hl hB1 hM1 hq1 ⟨ex1.1.trans (Eq.trans hrel.1 ex2.1.symm), ex1.2.2.2.2.2.2.2.2.2.2.2.1.trans (Eq.trans hrel.2.1 ex2.2.2.2.2.1.symm), mz_elc hrel.2.2.1 ex1.2.2.1 ex1.2.2.2.1 ex1.2.2.2.2.1 ex1.2.2.2.2.2.1 ex1.2.2.2.2.2.2.1 ex1.2.2.2.2.2.2.2.2.2.2.2.2.1 ex1.2.2.2.2.2.2.2.2.2.2.2.2.2.1 ex1.2.2.2.2.2.2.2.2.2.2.2.2.2.2.1 ex1.2.2.2.2.2.2.2.2.2.2.2.2.2.2.2.1 ex1.2.2.2.2.2.2.2.2.2.2.2.2.2.2.2.2.1 ex1.2.2.2.2.2.2.2.2.2.2.2.2.2.2.2.2.2.1 ex1.2.2.2.2.2.2.2.2.2.2.2.2.2.2.2.2.2.2.1 ex1.2.2.2.2.2.2.2.2.2.2.2.2.2.2.2.2.2.2.2.1 ex2.2.2.2.2.2.1, ex1.2.2.2.2.2.2.2.2.1.trans (Eq.trans hrel.2.2.2.1 ex2.2.2.2.1.symm), ex1.2.2.2.2.2.2.2.1.trans (Eq.trans hrel.2.2.2.2.1 ex2.2.2.1.symm), trivial⟩
set_option maxHeartbeats 4000000 in
set_option maxRecDepth 100000 in
theorem law_23 (l : Launch) (D : va_G) (cA : Nat → ClassId) (xa ma : Nat) (a : Nat → Nat) (b : Nat → Nat) (i : Nat → Int32) (f : Nat → Nat → Int32) (o : Nat → Option Nat) (pl : va_W) (j : Nat → Int32) (g : Nat → Nat → Int32) (t : Nat → Int64) {p : Program} {e : Env} {s : State} {m : MethodId} {below : List Frame} {meth : Method} {c : Code} {b0 L : Nat} {xs : Nat → Int32} {H : Heap} {locs : List Loc} {ls : Array Slot} {n : Nat} (C0 : lw_At p s m meth c b0 L xs) (hE : ms_EV D cA s) (hn : 4 * n + 4 ≤ L) (hL : L ≤ 256) (hP : va_P D vwCl ((ms_WX cA xa a i f o ++ ms_WM cA ma b j g t) ++ pl) H) (hD : va_D (fun q : Nat => s.heap.size ≤ q) ((ms_WX cA xa a i f o ++ ms_WM cA ma b j g t) ++ pl)) (hS : va_S (fun q : Nat => s.heap.size ≤ q) s.heap H locs) (hl : lv_has ls 4 [(3, .int (nI (4 * n))), (2, .ref ma), (1, .ref xa), (0, .ref b0)]) (hB : ms_BX i f) (hM : ms_BM j g t) (hq : ms_hq cA o pl) (hrel : ms_rel i f j g) (kk : ∀ (a : Nat → Nat) (i : Nat → Int32) (f : Nat → Nat → Int32) (o : Nat → Option Nat) (pl : va_W) (j : Nat → Int32) (g : Nat → Nat → Int32) (t : Nat → Int64) (H : Heap) (locs : List Loc) (ls : Array Slot), va_P D vwCl ((ms_WX cA xa a i f o ++ ms_WM cA ma b j g t) ++ pl) H → va_D (fun q : Nat => s.heap.size ≤ q) ((ms_WX cA xa a i f o ++ ms_WM cA ma b j g t) ++ pl) → va_S (fun q : Nat => s.heap.size ≤ q) s.heap H locs → lv_has ls 4 [(3, .int (nI (4 * n))), (2, .ref ma), (1, .ref xa), (0, .ref b0)] → ms_BX i f → ms_BM j g t → ms_hq cA o pl → ms_rel i f j g → W p l e room_1 s m #[Value.ref b0] below meth c H locs (69 + 2 * (n + 1)) (1489 + 15 * (n + 1)) (lw_Z below #[Value.ref b0] s) (F0 m 988 ls [])) : W p l e room_1 s m #[Value.ref b0] below meth c H locs (69 + 2 * n) (1489 + 15 * n) (lw_Z below #[Value.ref b0] s) (F0 m 781 ls []) := by
  obtain ⟨hx, hb, hr, hml, hown, hts0, hX, hbl, hlocks, hgv⟩ := id C0
  have hb : c.code = cL_law := hb
  have hown : s.vm.findClass RL = some m.cls := hown
  have hts : ∀ w ∈ wsL_law, w.before #[Value.ref b0] s = true := fun w h => hts0 w (wsL_law_in w h)
  have hA : ∀ q : Nat, s.heap.size ≤ q → (fun q : Nat => s.heap.size ≤ q) q := fun _ h => h
  have hbA : ¬ (fun q : Nat => s.heap.size ≤ q) b0 := Nat.not_le.mpr hbl
  refine lv_aload_n hx hb dL_law_781 rfl (lv_at hl 2 rfl) ?_
  refine lv_aload_n hx hb dL_law_782 rfl (lv_at hl 3 rfl) ?_
  refine lv_iload_n hx hb dL_law_783 rfl (lv_at hl 0 rfl) ?_
  refine lv_iconst (v := 1) hx hb dL_law_784 (by decide) ?_
  refine lv_iadd hx hb dL_law_785 ?_
  refine ms_eqi (y := nI (4 * n + 1)) (nI_add (4 * n) 1) ?_
  refine ms_sld hx hb hX hbl hbA hS (4 * n + 1) rfl (by omega) (by omega) dL_law_786 ?_
  refine lv_aload_n hx hb dL_law_787 rfl (lv_at hl 3 rfl) ?_
  refine lv_iload_n hx hb dL_law_788 rfl (lv_at hl 0 rfl) ?_
  refine lv_iconst (v := 2) hx hb dL_law_789 (by decide) ?_
  refine lv_iadd hx hb dL_law_790 ?_
  refine ms_eqi (y := nI (4 * n + 2)) (nI_add (4 * n) 2) ?_
  refine ms_sld hx hb hX hbl hbA hS (4 * n + 2) rfl (by omega) (by omega) dL_law_791 ?_
  refine ms_pVi (qc := (RX10, TX10, 12)) (wc := ms_WX cA xa a i f o) (wr := ms_WM cA ma b j g t) (w1 := fun (u : ((Nat → Nat) × (Nat → Int32) × (Nat → Nat → Int32) × (Nat → Option Nat) × va_W)) => ms_WX cA xa u.1 u.2.1 u.2.2.1 u.2.2.2.1) (p1 := fun (u : ((Nat → Nat) × (Nat → Int32) × (Nat → Nat → Int32) × (Nat → Option Nat) × va_W)) => u.2.2.2.2) ⟨hx, hb, hml, hown, hts⟩ hE (wX10_journey l D cA xa a i f o pl (xs (4 * n + 1)) (xs (4 * n + 2))  hB hq) (cwV 2 hts gL_law_X10_journey rfl rfl rfl (by decide +kernel) ⟨Nat.le_of_ble_eq_true rfl, Nat.le_of_ble_eq_true rfl⟩) hP hD hS hA [0, 1, 2, 3, 4, 5, 6, 7, 8, 9, 10, 11, 12, 13, 14, 15, 16, 17, 18, 19, 20, 21, 22, 23, 24, 25, 26, 27, 28, 29, 30, 31, 32, 33, 34, 35, 36, 37, 38, 39, 40, 41, 42, 43, 44, 45, 46, 47, 48, 49] [50, 51, 52, 53, 54, 55, 56, 57, 58, 59, 60, 61, 62, 63, 64, 65, 66, 67, 68] rfl rfl rfl rfl (by decide) 0 10 rfl rfl rfl hl.1 rfl (Nat.le_of_ble_eq_true rfl) dL_law_792 ⟨Nat.le_trans (show 69 + 2 * n + 0 ≤ 600 by omega) (Nat.le_of_ble_eq_true rfl), Nat.le_trans (show 1489 + 15 * n + 0 ≤ 6000 by omega) (Nat.le_of_ble_eq_true rfl)⟩ (fun r1 u2 H locs hp hP hD hS => ?_)
  obtain ⟨hB1, hq1, ex1⟩ := hp
  have hP : va_P D vwCl ((ms_WM cA ma b j g t ++ ms_WX cA xa u2.1 u2.2.1 u2.2.2.1 u2.2.2.2.1) ++ u2.2.2.2.2) H := hP
  have hD : va_D (fun q : Nat => s.heap.size ≤ q) ((ms_WM cA ma b j g t ++ ms_WX cA xa u2.1 u2.2.1 u2.2.2.1 u2.2.2.2.1) ++ u2.2.2.2.2) := hD
  refine lv_aload_n hx hb dL_law_795 rfl (lv_at hl 1 rfl) ?_
  refine lv_aload_n hx hb dL_law_796 rfl (lv_at hl 3 rfl) ?_
  refine lv_iload_n hx hb dL_law_797 rfl (lv_at hl 0 rfl) ?_
  refine lv_iconst (v := 1) hx hb dL_law_798 (by decide) ?_
  refine lv_iadd hx hb dL_law_799 ?_
  refine ms_eqi (y := nI (4 * n + 1)) (nI_add (4 * n) 1) ?_
  refine ms_sld hx hb hX hbl hbA hS (4 * n + 1) rfl (by omega) (by omega) dL_law_800 ?_
  refine lv_aload_n hx hb dL_law_801 rfl (lv_at hl 3 rfl) ?_
  refine lv_iload_n hx hb dL_law_802 rfl (lv_at hl 0 rfl) ?_
  refine lv_iconst (v := 2) hx hb dL_law_803 (by decide) ?_
  refine lv_iadd hx hb dL_law_804 ?_
  refine ms_eqi (y := nI (4 * n + 2)) (nI_add (4 * n) 2) ?_
  refine ms_sld hx hb hX hbl hbA hS (4 * n + 2) rfl (by omega) (by omega) dL_law_805 ?_
  refine ms_qVi (qc := (RX11, TX11, 32)) (wc := ms_WM cA ma b j g t) (wr := ms_WX cA xa u2.1 u2.2.1 u2.2.2.1 u2.2.2.2.1) (w1 := fun (u : ((Nat → Int32) × (Nat → Nat → Int32) × (Nat → Int64))) => ms_WM cA ma b u.1 u.2.1 u.2.2) ⟨hx, hb, hml, hown, hts⟩ hE (wX11_journey l D cA ma b j g t (xs (4 * n + 1)) (xs (4 * n + 2))  hM) (cwV 2 hts gL_law_X11_journey rfl rfl rfl (by decide +kernel) ⟨Nat.le_of_ble_eq_true rfl, Nat.le_of_ble_eq_true rfl⟩) hP hD hS hA [0, 1, 2, 3, 4, 5, 6, 7, 8, 9, 10, 11, 12, 13, 14, 15, 16, 17, 18] [19, 20, 21, 22, 23, 24, 25, 26, 27, 28, 29, 30, 31, 32, 33, 34, 35, 36, 37, 38, 39, 40, 41, 42, 43, 44, 45, 46, 47, 48, 49, 50, 51, 52, 53, 54, 55, 56, 57, 58, 59, 60, 61, 62, 63, 64, 65, 66, 67, 68] rfl rfl rfl rfl (by decide) 0 11 rfl rfl rfl hl.1 rfl (Nat.le_of_ble_eq_true rfl) dL_law_806 ⟨Nat.le_trans (show 69 + 2 * n + 0 + 0 ≤ 600 by omega) (Nat.le_of_ble_eq_true rfl), Nat.le_trans (show 1489 + 15 * n + 0 + 0 ≤ 6000 by omega) (Nat.le_of_ble_eq_true rfl)⟩ (fun r3 u4 H locs hp hP hD hS => ?_)
  obtain ⟨hM1, ex2⟩ := hp
  have hP : va_P D vwCl ((ms_WX cA xa u2.1 u2.2.1 u2.2.2.1 u2.2.2.2.1 ++ ms_WM cA ma b u4.1 u4.2.1 u4.2.2) ++ u2.2.2.2.2) H := hP
  have hD : va_D (fun q : Nat => s.heap.size ≤ q) ((ms_WX cA xa u2.1 u2.2.1 u2.2.2.1 u2.2.2.2.1 ++ ms_WM cA ma b u4.1 u4.2.1 u4.2.2) ++ u2.2.2.2.2) := hD
  refine lv_icmp_eq (tgt := 988) hx hb dL_law_809 (by decide) (fun _ => ?_) (fun c => absurd (mz_jnrel hrel.2.2.1.1.2.2.2.1 hrel.2.2.2.2.1 ex1.1 ex2.1).1 c)
  refine W.widen (k := 69 + 2 * (n + 1)) (n := 1489 + 15 * (n + 1)) (show 69 + 2 * n + 0 + 0 ≤ _ by omega) (show 1489 + 15 * n + 0 + 0 ≤ _ by omega) ?_
  exact kk _ _ _ _ _ _ _ _ _ _ _ hP hD hS hl hB1 hM1 hq1 ⟨ex1.2.1.trans (Eq.trans hrel.1 ex2.2.1.symm), ex1.2.2.2.2.2.2.2.2.2.2.2.1.trans (Eq.trans hrel.2.1 ex2.2.2.2.2.1.symm), mz_elc hrel.2.2.1 ex1.2.2.2.1 ex1.2.2.2.2.1 ex1.2.2.2.2.2.1 ex1.2.2.2.2.2.2.1 ex1.2.2.2.2.2.2.2.1 ex1.2.2.2.2.2.2.2.2.2.2.2.2.1 ex1.2.2.2.2.2.2.2.2.2.2.2.2.2.1 ex1.2.2.2.2.2.2.2.2.2.2.2.2.2.2.1 ex1.2.2.2.2.2.2.2.2.2.2.2.2.2.2.2.1 ex1.2.2.2.2.2.2.2.2.2.2.2.2.2.2.2.2.1 ex1.2.2.2.2.2.2.2.2.2.2.2.2.2.2.2.2.2.1 ex1.2.2.2.2.2.2.2.2.2.2.2.2.2.2.2.2.2.2.1 ex1.2.2.2.2.2.2.2.2.2.2.2.2.2.2.2.2.2.2.2.1 ex2.2.2.2.2.2.1, ex1.2.2.2.2.2.2.2.2.1.trans (Eq.trans hrel.2.2.2.1 ex2.2.2.2.1.symm), (mz_jnrel hrel.2.2.1.1.2.2.2.1 hrel.2.2.2.2.1 ex1.1 ex2.1).2, trivial⟩
