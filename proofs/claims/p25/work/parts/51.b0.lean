set_option maxHeartbeats 4000000 in
set_option maxRecDepth 100000 in
theorem law_0 (l : Launch) (D : va_G) (cA : Nat → ClassId) (xa ma : Nat) (a : Nat → Nat) (b : Nat → Nat) (i : Nat → Int32) (f : Nat → Nat → Int32) (o : Nat → Option Nat) (pl : va_W) (j : Nat → Int32) (g : Nat → Nat → Int32) (t : Nat → Int64) {p : Program} {e : Env} {s : State} {m : MethodId} {below : List Frame} {meth : Method} {c : Code} {b0 L : Nat} {xs : Nat → Int32} {H : Heap} {locs : List Loc} {ls : Array Slot} {n : Nat} (C0 : lw_At p s m meth c b0 L xs) (hE : ms_EV D cA s) (hn : 4 * n + 4 ≤ L) (hL : L ≤ 256) (hP : va_P D vwCl ((ms_WX cA xa a i f o ++ ms_WM cA ma b j g t) ++ pl) H) (hD : va_D (fun q : Nat => s.heap.size ≤ q) ((ms_WX cA xa a i f o ++ ms_WM cA ma b j g t) ++ pl)) (hS : va_S (fun q : Nat => s.heap.size ≤ q) s.heap H locs) (hl : lv_has ls 4 [(3, .int (nI (4 * n))), (2, .ref ma), (1, .ref xa), (0, .ref b0)]) (hB : ms_BX i f) (hM : ms_BM j g t) (hq : ms_hq cA o pl) (hrel : ms_rel i f j g) (kk : ∀ (a : Nat → Nat) (i : Nat → Int32) (f : Nat → Nat → Int32) (o : Nat → Option Nat) (pl : va_W) (j : Nat → Int32) (g : Nat → Nat → Int32) (t : Nat → Int64) (H : Heap) (locs : List Loc) (ls : Array Slot), va_P D vwCl ((ms_WX cA xa a i f o ++ ms_WM cA ma b j g t) ++ pl) H → va_D (fun q : Nat => s.heap.size ≤ q) ((ms_WX cA xa a i f o ++ ms_WM cA ma b j g t) ++ pl) → va_S (fun q : Nat => s.heap.size ≤ q) s.heap H locs → lv_has ls 4 [(3, .int (nI (4 * n))), (2, .ref ma), (1, .ref xa), (0, .ref b0)] → ms_BX i f → ms_BM j g t → ms_hq cA o pl → ms_rel i f j g → W p l e room_1 s m #[Value.ref b0] below meth c H locs (69 + 2 * (n + 1)) (1489 + 15 * (n + 1)) (lw_Z below #[Value.ref b0] s) (F0 m 988 ls [])) : W p l e room_1 s m #[Value.ref b0] below meth c H locs (69 + 2 * n) (1489 + 15 * n) (lw_Z below #[Value.ref b0] s) (F0 m 176 ls []) := by
  obtain ⟨hx, hb, hr, hml, hown, hts0, hX, hbl, hlocks, hgv⟩ := id C0
  have hb : c.code = cL_law := hb
  have hown : s.vm.findClass RL = some m.cls := hown
  have hts : ∀ w ∈ wsL_law, w.before #[Value.ref b0] s = true := fun w h => hts0 w (wsL_law_in w h)
  have hA : ∀ q : Nat, s.heap.size ≤ q → (fun q : Nat => s.heap.size ≤ q) q := fun _ h => h
  have hbA : ¬ (fun q : Nat => s.heap.size ≤ q) b0 := Nat.not_le.mpr hbl
  refine lv_aload_n hx hb dL_law_176 rfl (lv_at hl 2 rfl) ?_
  refine lv_aload_n hx hb dL_law_177 rfl (lv_at hl 3 rfl) ?_
  refine lv_iload_n hx hb dL_law_178 rfl (lv_at hl 0 rfl) ?_
  refine lv_iconst (v := 1) hx hb dL_law_179 (by decide) ?_
  refine lv_iadd hx hb dL_law_180 ?_
  refine ms_eqi (y := nI (4 * n + 1)) (nI_add (4 * n) 1) ?_
  refine ms_sld hx hb hX hbl hbA hS (4 * n + 1) rfl (by omega) (by omega) dL_law_181 ?_
  refine ms_pVi (qc := (RX10, TX10, 12)) (wc := ms_WX cA xa a i f o) (wr := ms_WM cA ma b j g t) (w1 := fun (u : ((Nat → Nat) × (Nat → Int32) × (Nat → Nat → Int32) × (Nat → Option Nat) × va_W)) => ms_WX cA xa u.1 u.2.1 u.2.2.1 u.2.2.2.1) (p1 := fun (u : ((Nat → Nat) × (Nat → Int32) × (Nat → Nat → Int32) × (Nat → Option Nat) × va_W)) => u.2.2.2.2) ⟨hx, hb, hml, hown, hts⟩ hE (wX10_feed l D cA xa a i f o pl (xs (4 * n + 1))  hB hq) (cwV 1 hts gL_law_X10_feed rfl rfl rfl (by decide +kernel) ⟨Nat.le_of_ble_eq_true rfl, Nat.le_of_ble_eq_true rfl⟩) hP hD hS hA [0, 1, 2, 3, 4, 5, 6, 7, 8, 9, 10, 11, 12, 13, 14, 15, 16, 17, 18, 19, 20, 21, 22, 23, 24, 25, 26, 27, 28, 29, 30, 31, 32, 33, 34, 35, 36, 37, 38, 39, 40, 41, 42, 43, 44, 45, 46, 47, 48, 49] [50, 51, 52, 53, 54, 55, 56, 57, 58, 59, 60, 61, 62, 63, 64, 65, 66, 67, 68] rfl rfl rfl rfl (by decide) 0 10 rfl rfl rfl hl.1 rfl (Nat.le_of_ble_eq_true rfl) dL_law_182 ⟨Nat.le_trans (show 69 + 2 * n + 0 ≤ 600 by omega) (Nat.le_of_ble_eq_true rfl), Nat.le_trans (show 1489 + 15 * n + 0 ≤ 6000 by omega) (Nat.le_of_ble_eq_true rfl)⟩ (fun r1 u2 H locs hp hP hD hS => ?_)
  obtain ⟨hB1, hq1, ex1⟩ := hp
  have hP : va_P D vwCl ((ms_WM cA ma b j g t ++ ms_WX cA xa u2.1 u2.2.1 u2.2.2.1 u2.2.2.2.1) ++ u2.2.2.2.2) H := hP
  have hD : va_D (fun q : Nat => s.heap.size ≤ q) ((ms_WM cA ma b j g t ++ ms_WX cA xa u2.1 u2.2.1 u2.2.2.1 u2.2.2.2.1) ++ u2.2.2.2.2) := hD
  refine lv_pop hx hb dL_law_185 rfl ?_
  refine lv_aload_n hx hb dL_law_186 rfl (lv_at hl 1 rfl) ?_
  refine lv_aload_n hx hb dL_law_187 rfl (lv_at hl 3 rfl) ?_
  refine lv_iload_n hx hb dL_law_188 rfl (lv_at hl 0 rfl) ?_
  refine lv_iconst (v := 1) hx hb dL_law_189 (by decide) ?_
  refine lv_iadd hx hb dL_law_190 ?_
  refine ms_eqi (y := nI (4 * n + 1)) (nI_add (4 * n) 1) ?_
  refine ms_sld hx hb hX hbl hbA hS (4 * n + 1) rfl (by omega) (by omega) dL_law_191 ?_
  refine ms_qVi (qc := (RX11, TX11, 32)) (wc := ms_WM cA ma b j g t) (wr := ms_WX cA xa u2.1 u2.2.1 u2.2.2.1 u2.2.2.2.1) (w1 := fun (u : ((Nat → Int32) × (Nat → Nat → Int32) × (Nat → Int64))) => ms_WM cA ma b u.1 u.2.1 u.2.2) ⟨hx, hb, hml, hown, hts⟩ hE (wX11_feed l D cA ma b j g t (xs (4 * n + 1))  hM) (cwV 1 hts gL_law_X11_feed rfl rfl rfl (by decide +kernel) ⟨Nat.le_of_ble_eq_true rfl, Nat.le_of_ble_eq_true rfl⟩) hP hD hS hA [0, 1, 2, 3, 4, 5, 6, 7, 8, 9, 10, 11, 12, 13, 14, 15, 16, 17, 18] [19, 20, 21, 22, 23, 24, 25, 26, 27, 28, 29, 30, 31, 32, 33, 34, 35, 36, 37, 38, 39, 40, 41, 42, 43, 44, 45, 46, 47, 48, 49, 50, 51, 52, 53, 54, 55, 56, 57, 58, 59, 60, 61, 62, 63, 64, 65, 66, 67, 68] rfl rfl rfl rfl (by decide) 0 11 rfl rfl rfl hl.1 rfl (Nat.le_of_ble_eq_true rfl) dL_law_192 ⟨Nat.le_trans (show 69 + 2 * n + 0 + 0 ≤ 600 by omega) (Nat.le_of_ble_eq_true rfl), Nat.le_trans (show 1489 + 15 * n + 0 + 0 ≤ 6000 by omega) (Nat.le_of_ble_eq_true rfl)⟩ (fun r3 u4 H locs hp hP hD hS => ?_)
  obtain ⟨hM1, ex2⟩ := hp
  have hP : va_P D vwCl ((ms_WX cA xa u2.1 u2.2.1 u2.2.2.1 u2.2.2.2.1 ++ ms_WM cA ma b u4.1 u4.2.1 u4.2.2) ++ u2.2.2.2.2) H := hP
  have hD : va_D (fun q : Nat => s.heap.size ≤ q) ((ms_WX cA xa u2.1 u2.2.1 u2.2.2.1 u2.2.2.2.1 ++ ms_WM cA ma b u4.1 u4.2.1 u4.2.2) ++ u2.2.2.2.2) := hD
  refine lv_pop hx hb dL_law_195 rfl ?_
  refine lv_goto (tgt := 988) hx hb dL_law_196 (by decide) ?_
  refine W.widen (k := 69 + 2 * (n + 1)) (n := 1489 + 15 * (n + 1)) (show 69 + 2 * n + 0 + 0 ≤ _ by omega) (show 1489 + 15 * n + 0 + 0 ≤ _ by omega) ?_
  exact kk _ _ _ _ _ _ _ _ _ _ _ hP hD hS hl hB1 hM1 hq1 ⟨(ms_fdrel hrel.1 hrel.2.1 ex1.1 ex2.1).2.1, (ms_fdrel hrel.1 hrel.2.1 ex1.1 ex2.1).2.2, mz_elc hrel.2.2.1 ex1.2.2.1 ex1.2.2.2.1 ex1.2.2.2.2.1 ex1.2.2.2.2.2.1 ex1.2.2.2.2.2.2.1 ex1.2.2.2.2.2.2.2.2.2.2.2.1 ex1.2.2.2.2.2.2.2.2.2.2.2.2.1 ex1.2.2.2.2.2.2.2.2.2.2.2.2.2.1 ex1.2.2.2.2.2.2.2.2.2.2.2.2.2.2.1 ex1.2.2.2.2.2.2.2.2.2.2.2.2.2.2.2.1 ex1.2.2.2.2.2.2.2.2.2.2.2.2.2.2.2.2.1 ex1.2.2.2.2.2.2.2.2.2.2.2.2.2.2.2.2.2.1 ex1.2.2.2.2.2.2.2.2.2.2.2.2.2.2.2.2.2.2.1 ex2.2.2.2.2.1, ex1.2.2.2.2.2.2.2.2.1.trans (Eq.trans hrel.2.2.2.1 ex2.2.2.2.1.symm), ex1.2.2.2.2.2.2.2.1.trans (Eq.trans hrel.2.2.2.2.1 ex2.2.2.1.symm), trivial⟩
set_option maxHeartbeats 4000000 in
set_option maxRecDepth 100000 in
theorem law_1 (l : Launch) (D : va_G) (cA : Nat → ClassId) (xa ma : Nat) (a : Nat → Nat) (b : Nat → Nat) (i : Nat → Int32) (f : Nat → Nat → Int32) (o : Nat → Option Nat) (pl : va_W) (j : Nat → Int32) (g : Nat → Nat → Int32) (t : Nat → Int64) {p : Program} {e : Env} {s : State} {m : MethodId} {below : List Frame} {meth : Method} {c : Code} {b0 L : Nat} {xs : Nat → Int32} {H : Heap} {locs : List Loc} {ls : Array Slot} {n : Nat} (C0 : lw_At p s m meth c b0 L xs) (hE : ms_EV D cA s) (hn : 4 * n + 4 ≤ L) (hL : L ≤ 256) (hP : va_P D vwCl ((ms_WX cA xa a i f o ++ ms_WM cA ma b j g t) ++ pl) H) (hD : va_D (fun q : Nat => s.heap.size ≤ q) ((ms_WX cA xa a i f o ++ ms_WM cA ma b j g t) ++ pl)) (hS : va_S (fun q : Nat => s.heap.size ≤ q) s.heap H locs) (hl : lv_has ls 4 [(3, .int (nI (4 * n))), (2, .ref ma), (1, .ref xa), (0, .ref b0)]) (hB : ms_BX i f) (hM : ms_BM j g t) (hq : ms_hq cA o pl) (hrel : ms_rel i f j g) (kk : ∀ (a : Nat → Nat) (i : Nat → Int32) (f : Nat → Nat → Int32) (o : Nat → Option Nat) (pl : va_W) (j : Nat → Int32) (g : Nat → Nat → Int32) (t : Nat → Int64) (H : Heap) (locs : List Loc) (ls : Array Slot), va_P D vwCl ((ms_WX cA xa a i f o ++ ms_WM cA ma b j g t) ++ pl) H → va_D (fun q : Nat => s.heap.size ≤ q) ((ms_WX cA xa a i f o ++ ms_WM cA ma b j g t) ++ pl) → va_S (fun q : Nat => s.heap.size ≤ q) s.heap H locs → lv_has ls 4 [(3, .int (nI (4 * n))), (2, .ref ma), (1, .ref xa), (0, .ref b0)] → ms_BX i f → ms_BM j g t → ms_hq cA o pl → ms_rel i f j g → W p l e room_1 s m #[Value.ref b0] below meth c H locs (69 + 2 * (n + 1)) (1489 + 15 * (n + 1)) (lw_Z below #[Value.ref b0] s) (F0 m 988 ls [])) : W p l e room_1 s m #[Value.ref b0] below meth c H locs (69 + 2 * n) (1489 + 15 * n) (lw_Z below #[Value.ref b0] s) (F0 m 199 ls []) := by
  obtain ⟨hx, hb, hr, hml, hown, hts0, hX, hbl, hlocks, hgv⟩ := id C0
  have hb : c.code = cL_law := hb
  have hown : s.vm.findClass RL = some m.cls := hown
  have hts : ∀ w ∈ wsL_law, w.before #[Value.ref b0] s = true := fun w h => hts0 w (wsL_law_in w h)
  have hA : ∀ q : Nat, s.heap.size ≤ q → (fun q : Nat => s.heap.size ≤ q) q := fun _ h => h
  have hbA : ¬ (fun q : Nat => s.heap.size ≤ q) b0 := Nat.not_le.mpr hbl
  refine lv_aload_n hx hb dL_law_199 rfl (lv_at hl 2 rfl) ?_
  refine ms_pVi (qc := (RX10, TX10, 12)) (wc := ms_WX cA xa a i f o) (wr := ms_WM cA ma b j g t) (w1 := fun (u : ((Nat → Nat) × (Nat → Int32) × (Nat → Nat → Int32) × (Nat → Option Nat) × va_W)) => ms_WX cA xa u.1 u.2.1 u.2.2.1 u.2.2.2.1) (p1 := fun (u : ((Nat → Nat) × (Nat → Int32) × (Nat → Nat → Int32) × (Nat → Option Nat) × va_W)) => u.2.2.2.2) ⟨hx, hb, hml, hown, hts⟩ hE (wX10_march l D cA xa a i f o pl   (mz_z68 (g 1)) (mz_z68z _) hB hq) (cwV 0 hts gL_law_X10_march rfl rfl rfl (by decide +kernel) ⟨Nat.le_of_ble_eq_true rfl, Nat.le_of_ble_eq_true rfl⟩) hP hD hS hA [0, 1, 2, 3, 4, 5, 6, 7, 8, 9, 10, 11, 12, 13, 14, 15, 16, 17, 18, 19, 20, 21, 22, 23, 24, 25, 26, 27, 28, 29, 30, 31, 32, 33, 34, 35, 36, 37, 38, 39, 40, 41, 42, 43, 44, 45, 46, 47, 48, 49] [50, 51, 52, 53, 54, 55, 56, 57, 58, 59, 60, 61, 62, 63, 64, 65, 66, 67, 68] rfl rfl rfl rfl (by decide) 0 10 rfl rfl rfl hl.1 rfl (Nat.le_of_ble_eq_true rfl) dL_law_200 ⟨Nat.le_trans (show 69 + 2 * n + 0 ≤ 600 by omega) (Nat.le_of_ble_eq_true rfl), Nat.le_trans (show 1489 + 15 * n + 0 ≤ 6000 by omega) (Nat.le_of_ble_eq_true rfl)⟩ (fun r1 u2 H locs hp hP hD hS => ?_)
  obtain ⟨hB1, hq1, ex1, exk⟩ := hp
  have hP : va_P D vwCl ((ms_WM cA ma b j g t ++ ms_WX cA xa u2.1 u2.2.1 u2.2.2.1 u2.2.2.2.1) ++ u2.2.2.2.2) H := hP
  have hD : va_D (fun q : Nat => s.heap.size ≤ q) ((ms_WM cA ma b j g t ++ ms_WX cA xa u2.1 u2.2.1 u2.2.2.1 u2.2.2.2.1) ++ u2.2.2.2.2) := hD
  refine lv_pop hx hb dL_law_203 rfl ?_
  refine lv_aload_n hx hb dL_law_204 rfl (lv_at hl 1 rfl) ?_
  refine ms_qVi (qc := (RX11, TX11, 32)) (wc := ms_WM cA ma b j g t) (wr := ms_WX cA xa u2.1 u2.2.1 u2.2.2.1 u2.2.2.2.1) (w1 := fun (u : ((Nat → Int32) × (Nat → Nat → Int32) × (Nat → Int64))) => ms_WM cA ma b u.1 u.2.1 u.2.2) ⟨hx, hb, hml, hown, hts⟩ hE (wX11_march l D cA ma b j g t   hM) (cwV 0 hts gL_law_X11_march rfl rfl rfl (by decide +kernel) ⟨Nat.le_of_ble_eq_true rfl, Nat.le_of_ble_eq_true rfl⟩) hP hD hS hA [0, 1, 2, 3, 4, 5, 6, 7, 8, 9, 10, 11, 12, 13, 14, 15, 16, 17, 18] [19, 20, 21, 22, 23, 24, 25, 26, 27, 28, 29, 30, 31, 32, 33, 34, 35, 36, 37, 38, 39, 40, 41, 42, 43, 44, 45, 46, 47, 48, 49, 50, 51, 52, 53, 54, 55, 56, 57, 58, 59, 60, 61, 62, 63, 64, 65, 66, 67, 68] rfl rfl rfl rfl (by decide) 0 11 rfl rfl rfl hl.1 rfl (Nat.le_of_ble_eq_true rfl) dL_law_205 ⟨Nat.le_trans (show 69 + 2 * n + 0 + 0 ≤ 600 by omega) (Nat.le_of_ble_eq_true rfl), Nat.le_trans (show 1489 + 15 * n + 0 + 0 ≤ 6000 by omega) (Nat.le_of_ble_eq_true rfl)⟩ (fun r3 u4 H locs hp hP hD hS => ?_)
  obtain ⟨hM1, ex2, exj⟩ := hp
  have hP : va_P D vwCl ((ms_WX cA xa u2.1 u2.2.1 u2.2.2.1 u2.2.2.2.1 ++ ms_WM cA ma b u4.1 u4.2.1 u4.2.2) ++ u2.2.2.2.2) H := hP
  have hD : va_D (fun q : Nat => s.heap.size ≤ q) ((ms_WX cA xa u2.1 u2.2.1 u2.2.2.1 u2.2.2.2.1 ++ ms_WM cA ma b u4.1 u4.2.1 u4.2.2) ++ u2.2.2.2.2) := hD
  refine lv_pop hx hb dL_law_208 rfl ?_
  refine lv_goto (tgt := 988) hx hb dL_law_209 (by decide) ?_
  refine W.widen (k := 69 + 2 * (n + 1)) (n := 1489 + 15 * (n + 1)) (show 69 + 2 * n + 0 + 0 ≤ _ by omega) (show 1489 + 15 * n + 0 + 0 ≤ _ by omega) ?_
  have hmc := mz_mcase hrel.1 hrel.2.1 ex1.2.2 ex2.2.2
  have hmq := mz_meq hrel.1 hrel.2.1 ex1.2.2 ex2.2.2
  have hrel1 : ms_rel u2.2.1 u2.2.2.1 u4.1 u4.2.1 := by
    rcases hmc with ⟨R, mE, mA, mK, mC⟩ | ⟨mB, mD⟩
    · exact ⟨ex1.1.trans ex2.1.symm, ex1.2.1.trans (Eq.trans hrel.2.1 ex2.2.1.symm), mz_elM mE mK hB1.2.2.2.2.2.2.2.2.1.2 hB1.2.2.2.2.2.2.2.2.2.1.2, mA.1.2.2.trans mC.2.2.symm, mA.1.2.1.trans mC.2.1.symm, trivial⟩
    · exact ⟨ex1.1.trans ex2.1.symm, ex1.2.1.trans (Eq.trans hrel.2.1 ex2.2.1.symm), mz_elc hrel.2.2.1 mB.2.2.2.2.2.1 mB.2.2.2.2.2.2.1 mB.2.2.2.2.2.2.2.1 mB.2.2.2.2.2.2.2.2.1 mB.2.2.2.2.2.2.2.2.2.1 mB.2.2.2.2.2.2.2.2.2.2.1 mB.2.2.2.2.2.2.2.2.2.2.2.1 mB.2.2.2.2.2.2.2.2.2.2.2.2.1 mB.2.2.2.2.2.2.2.2.2.2.2.2.2.1 mB.2.2.2.2.2.2.2.2.2.2.2.2.2.2.1 mB.2.2.2.2.2.2.2.2.2.2.2.2.2.2.2.1 mB.2.2.2.2.2.2.2.2.2.2.2.2.2.2.2.2.1 mB.2.2.2.2.2.2.2.2.2.2.2.2.2.2.2.2.2 mD.1, mB.2.2.1.trans (Eq.trans hrel.2.2.2.1 mD.2.2.2.2.symm), mB.2.1.trans (Eq.trans hrel.2.2.2.2.1 mD.2.2.2.1.symm), trivial⟩
  exact kk _ _ _ _ _ _ _ _ _ _ _ hP hD hS hl hB1 hM1 hq1 hrel1
set_option maxHeartbeats 4000000 in
set_option maxRecDepth 100000 in
theorem law_2 (l : Launch) (D : va_G) (cA : Nat → ClassId) (xa ma : Nat) (a : Nat → Nat) (b : Nat → Nat) (i : Nat → Int32) (f : Nat → Nat → Int32) (o : Nat → Option Nat) (pl : va_W) (j : Nat → Int32) (g : Nat → Nat → Int32) (t : Nat → Int64) {p : Program} {e : Env} {s : State} {m : MethodId} {below : List Frame} {meth : Method} {c : Code} {b0 L : Nat} {xs : Nat → Int32} {H : Heap} {locs : List Loc} {ls : Array Slot} {n : Nat} (C0 : lw_At p s m meth c b0 L xs) (hE : ms_EV D cA s) (hn : 4 * n + 4 ≤ L) (hL : L ≤ 256) (hP : va_P D vwCl ((ms_WX cA xa a i f o ++ ms_WM cA ma b j g t) ++ pl) H) (hD : va_D (fun q : Nat => s.heap.size ≤ q) ((ms_WX cA xa a i f o ++ ms_WM cA ma b j g t) ++ pl)) (hS : va_S (fun q : Nat => s.heap.size ≤ q) s.heap H locs) (hl : lv_has ls 4 [(3, .int (nI (4 * n))), (2, .ref ma), (1, .ref xa), (0, .ref b0)]) (hB : ms_BX i f) (hM : ms_BM j g t) (hq : ms_hq cA o pl) (hrel : ms_rel i f j g) (kk : ∀ (a : Nat → Nat) (i : Nat → Int32) (f : Nat → Nat → Int32) (o : Nat → Option Nat) (pl : va_W) (j : Nat → Int32) (g : Nat → Nat → Int32) (t : Nat → Int64) (H : Heap) (locs : List Loc) (ls : Array Slot), va_P D vwCl ((ms_WX cA xa a i f o ++ ms_WM cA ma b j g t) ++ pl) H → va_D (fun q : Nat => s.heap.size ≤ q) ((ms_WX cA xa a i f o ++ ms_WM cA ma b j g t) ++ pl) → va_S (fun q : Nat => s.heap.size ≤ q) s.heap H locs → lv_has ls 4 [(3, .int (nI (4 * n))), (2, .ref ma), (1, .ref xa), (0, .ref b0)] → ms_BX i f → ms_BM j g t → ms_hq cA o pl → ms_rel i f j g → W p l e room_1 s m #[Value.ref b0] below meth c H locs (69 + 2 * (n + 1)) (1489 + 15 * (n + 1)) (lw_Z below #[Value.ref b0] s) (F0 m 988 ls [])) : W p l e room_1 s m #[Value.ref b0] below meth c H locs (69 + 2 * n) (1489 + 15 * n) (lw_Z below #[Value.ref b0] s) (F0 m 212 ls []) := by
  obtain ⟨hx, hb, hr, hml, hown, hts0, hX, hbl, hlocks, hgv⟩ := id C0
  have hb : c.code = cL_law := hb
  have hown : s.vm.findClass RL = some m.cls := hown
  have hts : ∀ w ∈ wsL_law, w.before #[Value.ref b0] s = true := fun w h => hts0 w (wsL_law_in w h)
  have hA : ∀ q : Nat, s.heap.size ≤ q → (fun q : Nat => s.heap.size ≤ q) q := fun _ h => h
  have hbA : ¬ (fun q : Nat => s.heap.size ≤ q) b0 := Nat.not_le.mpr hbl
  refine lv_aload_n hx hb dL_law_212 rfl (lv_at hl 2 rfl) ?_
  refine ms_pVi (qc := (RX10, TX10, 12)) (wc := ms_WX cA xa a i f o) (wr := ms_WM cA ma b j g t) (w1 := fun (u : ((Nat → Nat) × (Nat → Int32) × (Nat → Nat → Int32) × (Nat → Option Nat) × va_W)) => ms_WX cA xa u.1 u.2.1 u.2.2.1 u.2.2.2.1) (p1 := fun (u : ((Nat → Nat) × (Nat → Int32) × (Nat → Nat → Int32) × (Nat → Option Nat) × va_W)) => u.2.2.2.2) ⟨hx, hb, hml, hown, hts⟩ hE (wX10_fault l D cA xa a i f o pl   hB hq) (cwV 0 hts gL_law_X10_fault rfl rfl rfl (by decide +kernel) ⟨Nat.le_of_ble_eq_true rfl, Nat.le_of_ble_eq_true rfl⟩) hP hD hS hA [0, 1, 2, 3, 4, 5, 6, 7, 8, 9, 10, 11, 12, 13, 14, 15, 16, 17, 18, 19, 20, 21, 22, 23, 24, 25, 26, 27, 28, 29, 30, 31, 32, 33, 34, 35, 36, 37, 38, 39, 40, 41, 42, 43, 44, 45, 46, 47, 48, 49] [50, 51, 52, 53, 54, 55, 56, 57, 58, 59, 60, 61, 62, 63, 64, 65, 66, 67, 68] rfl rfl rfl rfl (by decide) 0 10 rfl rfl rfl hl.1 rfl (Nat.le_of_ble_eq_true rfl) dL_law_213 ⟨Nat.le_trans (show 69 + 2 * n + 0 ≤ 600 by omega) (Nat.le_of_ble_eq_true rfl), Nat.le_trans (show 1489 + 15 * n + 0 ≤ 6000 by omega) (Nat.le_of_ble_eq_true rfl)⟩ (fun r1 u2 H locs hp hP hD hS => ?_)
  obtain ⟨hB1, hq1, ex1⟩ := hp
  have hP : va_P D vwCl ((ms_WM cA ma b j g t ++ ms_WX cA xa u2.1 u2.2.1 u2.2.2.1 u2.2.2.2.1) ++ u2.2.2.2.2) H := hP
  have hD : va_D (fun q : Nat => s.heap.size ≤ q) ((ms_WM cA ma b j g t ++ ms_WX cA xa u2.1 u2.2.1 u2.2.2.1 u2.2.2.2.1) ++ u2.2.2.2.2) := hD
  refine lv_pop hx hb dL_law_216 rfl ?_
  refine lv_aload_n hx hb dL_law_217 rfl (lv_at hl 1 rfl) ?_
  refine ms_qVi (qc := (RX11, TX11, 32)) (wc := ms_WM cA ma b j g t) (wr := ms_WX cA xa u2.1 u2.2.1 u2.2.2.1 u2.2.2.2.1) (w1 := fun (u : ((Nat → Int32) × (Nat → Nat → Int32) × (Nat → Int64))) => ms_WM cA ma b u.1 u.2.1 u.2.2) ⟨hx, hb, hml, hown, hts⟩ hE (wX11_fault l D cA ma b j g t   hM) (cwV 0 hts gL_law_X11_fault rfl rfl rfl (by decide +kernel) ⟨Nat.le_of_ble_eq_true rfl, Nat.le_of_ble_eq_true rfl⟩) hP hD hS hA [0, 1, 2, 3, 4, 5, 6, 7, 8, 9, 10, 11, 12, 13, 14, 15, 16, 17, 18] [19, 20, 21, 22, 23, 24, 25, 26, 27, 28, 29, 30, 31, 32, 33, 34, 35, 36, 37, 38, 39, 40, 41, 42, 43, 44, 45, 46, 47, 48, 49, 50, 51, 52, 53, 54, 55, 56, 57, 58, 59, 60, 61, 62, 63, 64, 65, 66, 67, 68] rfl rfl rfl rfl (by decide) 0 11 rfl rfl rfl hl.1 rfl (Nat.le_of_ble_eq_true rfl) dL_law_218 ⟨Nat.le_trans (show 69 + 2 * n + 0 + 0 ≤ 600 by omega) (Nat.le_of_ble_eq_true rfl), Nat.le_trans (show 1489 + 15 * n + 0 + 0 ≤ 6000 by omega) (Nat.le_of_ble_eq_true rfl)⟩ (fun r3 u4 H locs hp hP hD hS => ?_)
  obtain ⟨hM1, ex2⟩ := hp
  have hP : va_P D vwCl ((ms_WX cA xa u2.1 u2.2.1 u2.2.2.1 u2.2.2.2.1 ++ ms_WM cA ma b u4.1 u4.2.1 u4.2.2) ++ u2.2.2.2.2) H := hP
  have hD : va_D (fun q : Nat => s.heap.size ≤ q) ((ms_WX cA xa u2.1 u2.2.1 u2.2.2.1 u2.2.2.2.1 ++ ms_WM cA ma b u4.1 u4.2.1 u4.2.2) ++ u2.2.2.2.2) := hD
  refine lv_pop hx hb dL_law_221 rfl ?_
  refine lv_goto (tgt := 988) hx hb dL_law_222 (by decide) ?_
  refine W.widen (k := 69 + 2 * (n + 1)) (n := 1489 + 15 * (n + 1)) (show 69 + 2 * n + 0 + 0 ≤ _ by omega) (show 1489 + 15 * n + 0 + 0 ≤ _ by omega) ?_
  exact kk _ _ _ _ _ _ _ _ _ _ _ hP hD hS hl hB1 hM1 hq1 ⟨ex1.2.1.trans (Eq.trans hrel.1 ex2.2.1.symm), ex1.2.2.2.2.2.2.2.2.2.2.2.2.1.trans (Eq.trans hrel.2.1 ex2.2.2.2.2.2.1.symm), mz_elc hrel.2.2.1 ex1.2.2.2.1 ex1.2.2.2.2.1 ex1.2.2.2.2.2.1 ex1.2.2.2.2.2.2.1 ex1.2.2.2.2.2.2.2.1 ex1.2.2.2.2.2.2.2.2.2.2.2.2.2.1 ex1.2.2.2.2.2.2.2.2.2.2.2.2.2.2.1 ex1.2.2.2.2.2.2.2.2.2.2.2.2.2.2.2.1 ex1.2.2.2.2.2.2.2.2.2.2.2.2.2.2.2.2.1 ex1.2.2.2.2.2.2.2.2.2.2.2.2.2.2.2.2.2.1 ex1.2.2.2.2.2.2.2.2.2.2.2.2.2.2.2.2.2.2.1 ex1.2.2.2.2.2.2.2.2.2.2.2.2.2.2.2.2.2.2.2.1 ex1.2.2.2.2.2.2.2.2.2.2.2.2.2.2.2.2.2.2.2.2.1 ex2.2.2.2.2.2.2.1, ex1.2.2.2.2.2.2.2.2.2.1.trans (Eq.trans hrel.2.2.2.1 ex2.2.2.2.2.1.symm), ex1.2.2.2.2.2.2.2.2.1.trans (Eq.trans hrel.2.2.2.2.1 ex2.2.2.2.1.symm), trivial⟩
set_option maxHeartbeats 4000000 in
set_option maxRecDepth 100000 in
theorem law_3 (l : Launch) (D : va_G) (cA : Nat → ClassId) (xa ma : Nat) (a : Nat → Nat) (b : Nat → Nat) (i : Nat → Int32) (f : Nat → Nat → Int32) (o : Nat → Option Nat) (pl : va_W) (j : Nat → Int32) (g : Nat → Nat → Int32) (t : Nat → Int64) {p : Program} {e : Env} {s : State} {m : MethodId} {below : List Frame} {meth : Method} {c : Code} {b0 L : Nat} {xs : Nat → Int32} {H : Heap} {locs : List Loc} {ls : Array Slot} {n : Nat} (C0 : lw_At p s m meth c b0 L xs) (hE : ms_EV D cA s) (hn : 4 * n + 4 ≤ L) (hL : L ≤ 256) (hP : va_P D vwCl ((ms_WX cA xa a i f o ++ ms_WM cA ma b j g t) ++ pl) H) (hD : va_D (fun q : Nat => s.heap.size ≤ q) ((ms_WX cA xa a i f o ++ ms_WM cA ma b j g t) ++ pl)) (hS : va_S (fun q : Nat => s.heap.size ≤ q) s.heap H locs) (hl : lv_has ls 4 [(3, .int (nI (4 * n))), (2, .ref ma), (1, .ref xa), (0, .ref b0)]) (hB : ms_BX i f) (hM : ms_BM j g t) (hq : ms_hq cA o pl) (hrel : ms_rel i f j g) (kk : ∀ (a : Nat → Nat) (i : Nat → Int32) (f : Nat → Nat → Int32) (o : Nat → Option Nat) (pl : va_W) (j : Nat → Int32) (g : Nat → Nat → Int32) (t : Nat → Int64) (H : Heap) (locs : List Loc) (ls : Array Slot), va_P D vwCl ((ms_WX cA xa a i f o ++ ms_WM cA ma b j g t) ++ pl) H → va_D (fun q : Nat => s.heap.size ≤ q) ((ms_WX cA xa a i f o ++ ms_WM cA ma b j g t) ++ pl) → va_S (fun q : Nat => s.heap.size ≤ q) s.heap H locs → lv_has ls 4 [(3, .int (nI (4 * n))), (2, .ref ma), (1, .ref xa), (0, .ref b0)] → ms_BX i f → ms_BM j g t → ms_hq cA o pl → ms_rel i f j g → W p l e room_1 s m #[Value.ref b0] below meth c H locs (69 + 2 * (n + 1)) (1489 + 15 * (n + 1)) (lw_Z below #[Value.ref b0] s) (F0 m 988 ls [])) : W p l e room_1 s m #[Value.ref b0] below meth c H locs (69 + 2 * n) (1489 + 15 * n) (lw_Z below #[Value.ref b0] s) (F0 m 225 ls []) := by
  obtain ⟨hx, hb, hr, hml, hown, hts0, hX, hbl, hlocks, hgv⟩ := id C0
  have hb : c.code = cL_law := hb
  have hown : s.vm.findClass RL = some m.cls := hown
  have hts : ∀ w ∈ wsL_law, w.before #[Value.ref b0] s = true := fun w h => hts0 w (wsL_law_in w h)
  have hA : ∀ q : Nat, s.heap.size ≤ q → (fun q : Nat => s.heap.size ≤ q) q := fun _ h => h
  have hbA : ¬ (fun q : Nat => s.heap.size ≤ q) b0 := Nat.not_le.mpr hbl
  refine lv_aload_n hx hb dL_law_225 rfl (lv_at hl 2 rfl) ?_
  refine lv_aload_n hx hb dL_law_226 rfl (lv_at hl 3 rfl) ?_
  refine lv_iload_n hx hb dL_law_227 rfl (lv_at hl 0 rfl) ?_
  refine lv_iconst (v := 1) hx hb dL_law_228 (by decide) ?_
  refine lv_iadd hx hb dL_law_229 ?_
  refine ms_eqi (y := nI (4 * n + 1)) (nI_add (4 * n) 1) ?_
  refine ms_sld hx hb hX hbl hbA hS (4 * n + 1) rfl (by omega) (by omega) dL_law_230 ?_
  refine ms_pVi (qc := (RX10, TX10, 12)) (wc := ms_WX cA xa a i f o) (wr := ms_WM cA ma b j g t) (w1 := fun (u : ((Nat → Nat) × (Nat → Int32) × (Nat → Nat → Int32) × (Nat → Option Nat) × va_W)) => ms_WX cA xa u.1 u.2.1 u.2.2.1 u.2.2.2.1) (p1 := fun (u : ((Nat → Nat) × (Nat → Int32) × (Nat → Nat → Int32) × (Nat → Option Nat) × va_W)) => u.2.2.2.2) ⟨hx, hb, hml, hown, hts⟩ hE (wX10_told l D cA xa a i f o pl (xs (4 * n + 1))  hB hq) (cwV 1 hts gL_law_X10_told rfl rfl rfl (by decide +kernel) ⟨Nat.le_of_ble_eq_true rfl, Nat.le_of_ble_eq_true rfl⟩) hP hD hS hA [0, 1, 2, 3, 4, 5, 6, 7, 8, 9, 10, 11, 12, 13, 14, 15, 16, 17, 18, 19, 20, 21, 22, 23, 24, 25, 26, 27, 28, 29, 30, 31, 32, 33, 34, 35, 36, 37, 38, 39, 40, 41, 42, 43, 44, 45, 46, 47, 48, 49] [50, 51, 52, 53, 54, 55, 56, 57, 58, 59, 60, 61, 62, 63, 64, 65, 66, 67, 68] rfl rfl rfl rfl (by decide) 0 10 rfl rfl rfl hl.1 rfl (Nat.le_of_ble_eq_true rfl) dL_law_231 ⟨Nat.le_trans (show 69 + 2 * n + 0 ≤ 600 by omega) (Nat.le_of_ble_eq_true rfl), Nat.le_trans (show 1489 + 15 * n + 0 ≤ 6000 by omega) (Nat.le_of_ble_eq_true rfl)⟩ (fun r1 u2 H locs hp hP hD hS => ?_)
  obtain ⟨hB1, hq1, ex1⟩ := hp
  have hP : va_P D vwCl ((ms_WM cA ma b j g t ++ ms_WX cA xa u2.1 u2.2.1 u2.2.2.1 u2.2.2.2.1) ++ u2.2.2.2.2) H := hP
  have hD : va_D (fun q : Nat => s.heap.size ≤ q) ((ms_WM cA ma b j g t ++ ms_WX cA xa u2.1 u2.2.1 u2.2.2.1 u2.2.2.2.1) ++ u2.2.2.2.2) := hD
  refine lv_pop hx hb dL_law_234 rfl ?_
  refine lv_aload_n hx hb dL_law_235 rfl (lv_at hl 1 rfl) ?_
  refine lv_aload_n hx hb dL_law_236 rfl (lv_at hl 3 rfl) ?_
  refine lv_iload_n hx hb dL_law_237 rfl (lv_at hl 0 rfl) ?_
  refine lv_iconst (v := 1) hx hb dL_law_238 (by decide) ?_
  refine lv_iadd hx hb dL_law_239 ?_
  refine ms_eqi (y := nI (4 * n + 1)) (nI_add (4 * n) 1) ?_
  refine ms_sld hx hb hX hbl hbA hS (4 * n + 1) rfl (by omega) (by omega) dL_law_240 ?_
  refine ms_qVi (qc := (RX11, TX11, 32)) (wc := ms_WM cA ma b j g t) (wr := ms_WX cA xa u2.1 u2.2.1 u2.2.2.1 u2.2.2.2.1) (w1 := fun (u : ((Nat → Int32) × (Nat → Nat → Int32) × (Nat → Int64))) => ms_WM cA ma b u.1 u.2.1 u.2.2) ⟨hx, hb, hml, hown, hts⟩ hE (wX11_told l D cA ma b j g t (xs (4 * n + 1))  hM) (cwV 1 hts gL_law_X11_told rfl rfl rfl (by decide +kernel) ⟨Nat.le_of_ble_eq_true rfl, Nat.le_of_ble_eq_true rfl⟩) hP hD hS hA [0, 1, 2, 3, 4, 5, 6, 7, 8, 9, 10, 11, 12, 13, 14, 15, 16, 17, 18] [19, 20, 21, 22, 23, 24, 25, 26, 27, 28, 29, 30, 31, 32, 33, 34, 35, 36, 37, 38, 39, 40, 41, 42, 43, 44, 45, 46, 47, 48, 49, 50, 51, 52, 53, 54, 55, 56, 57, 58, 59, 60, 61, 62, 63, 64, 65, 66, 67, 68] rfl rfl rfl rfl (by decide) 0 11 rfl rfl rfl hl.1 rfl (Nat.le_of_ble_eq_true rfl) dL_law_241 ⟨Nat.le_trans (show 69 + 2 * n + 0 + 0 ≤ 600 by omega) (Nat.le_of_ble_eq_true rfl), Nat.le_trans (show 1489 + 15 * n + 0 + 0 ≤ 6000 by omega) (Nat.le_of_ble_eq_true rfl)⟩ (fun r3 u4 H locs hp hP hD hS => ?_)
  obtain ⟨hM1, ex2⟩ := hp
  have hP : va_P D vwCl ((ms_WX cA xa u2.1 u2.2.1 u2.2.2.1 u2.2.2.2.1 ++ ms_WM cA ma b u4.1 u4.2.1 u4.2.2) ++ u2.2.2.2.2) H := hP
  have hD : va_D (fun q : Nat => s.heap.size ≤ q) ((ms_WX cA xa u2.1 u2.2.1 u2.2.2.1 u2.2.2.2.1 ++ ms_WM cA ma b u4.1 u4.2.1 u4.2.2) ++ u2.2.2.2.2) := hD
  refine lv_pop hx hb dL_law_244 rfl ?_
  refine lv_goto (tgt := 988) hx hb dL_law_245 (by decide) ?_
  refine W.widen (k := 69 + 2 * (n + 1)) (n := 1489 + 15 * (n + 1)) (show 69 + 2 * n + 0 + 0 ≤ _ by omega) (show 1489 + 15 * n + 0 + 0 ≤ _ by omega) ?_
  exact kk _ _ _ _ _ _ _ _ _ _ _ hP hD hS hl hB1 hM1 hq1 ⟨ex1.1.trans (Eq.trans hrel.1 ex2.1.symm), ex1.2.2.2.2.2.2.2.2.2.2.2.1.trans (Eq.trans hrel.2.1 ex2.2.2.2.2.1.symm), mz_elc hrel.2.2.1 ex1.2.2.1 ex1.2.2.2.1 ex1.2.2.2.2.1 ex1.2.2.2.2.2.1 ex1.2.2.2.2.2.2.1 ex1.2.2.2.2.2.2.2.2.2.2.2.2.1 ex1.2.2.2.2.2.2.2.2.2.2.2.2.2.1 ex1.2.2.2.2.2.2.2.2.2.2.2.2.2.2.1 ex1.2.2.2.2.2.2.2.2.2.2.2.2.2.2.2.1 ex1.2.2.2.2.2.2.2.2.2.2.2.2.2.2.2.2.1 ex1.2.2.2.2.2.2.2.2.2.2.2.2.2.2.2.2.2.1 ex1.2.2.2.2.2.2.2.2.2.2.2.2.2.2.2.2.2.2.1 ex1.2.2.2.2.2.2.2.2.2.2.2.2.2.2.2.2.2.2.2.1 ex2.2.2.2.2.2.1, ex1.2.2.2.2.2.2.2.2.1.trans (Eq.trans hrel.2.2.2.1 ex2.2.2.2.1.symm), ex1.2.2.2.2.2.2.2.1.trans (Eq.trans hrel.2.2.2.2.1 ex2.2.2.1.symm), trivial⟩
set_option maxHeartbeats 4000000 in
set_option maxRecDepth 100000 in
theorem law_4 (l : Launch) (D : va_G) (cA : Nat → ClassId) (xa ma : Nat) (a : Nat → Nat) (b : Nat → Nat) (i : Nat → Int32) (f : Nat → Nat → Int32) (o : Nat → Option Nat) (pl : va_W) (j : Nat → Int32) (g : Nat → Nat → Int32) (t : Nat → Int64) {p : Program} {e : Env} {s : State} {m : MethodId} {below : List Frame} {meth : Method} {c : Code} {b0 L : Nat} {xs : Nat → Int32} {H : Heap} {locs : List Loc} {ls : Array Slot} {n : Nat} (C0 : lw_At p s m meth c b0 L xs) (hE : ms_EV D cA s) (hn : 4 * n + 4 ≤ L) (hL : L ≤ 256) (hP : va_P D vwCl ((ms_WX cA xa a i f o ++ ms_WM cA ma b j g t) ++ pl) H) (hD : va_D (fun q : Nat => s.heap.size ≤ q) ((ms_WX cA xa a i f o ++ ms_WM cA ma b j g t) ++ pl)) (hS : va_S (fun q : Nat => s.heap.size ≤ q) s.heap H locs) (hl : lv_has ls 4 [(3, .int (nI (4 * n))), (2, .ref ma), (1, .ref xa), (0, .ref b0)]) (hB : ms_BX i f) (hM : ms_BM j g t) (hq : ms_hq cA o pl) (hrel : ms_rel i f j g) (kk : ∀ (a : Nat → Nat) (i : Nat → Int32) (f : Nat → Nat → Int32) (o : Nat → Option Nat) (pl : va_W) (j : Nat → Int32) (g : Nat → Nat → Int32) (t : Nat → Int64) (H : Heap) (locs : List Loc) (ls : Array Slot), va_P D vwCl ((ms_WX cA xa a i f o ++ ms_WM cA ma b j g t) ++ pl) H → va_D (fun q : Nat => s.heap.size ≤ q) ((ms_WX cA xa a i f o ++ ms_WM cA ma b j g t) ++ pl) → va_S (fun q : Nat => s.heap.size ≤ q) s.heap H locs → lv_has ls 4 [(3, .int (nI (4 * n))), (2, .ref ma), (1, .ref xa), (0, .ref b0)] → ms_BX i f → ms_BM j g t → ms_hq cA o pl → ms_rel i f j g → W p l e room_1 s m #[Value.ref b0] below meth c H locs (69 + 2 * (n + 1)) (1489 + 15 * (n + 1)) (lw_Z below #[Value.ref b0] s) (F0 m 988 ls [])) : W p l e room_1 s m #[Value.ref b0] below meth c H locs (69 + 2 * n) (1489 + 15 * n) (lw_Z below #[Value.ref b0] s) (F0 m 248 ls []) := by
  obtain ⟨hx, hb, hr, hml, hown, hts0, hX, hbl, hlocks, hgv⟩ := id C0
  have hb : c.code = cL_law := hb
  have hown : s.vm.findClass RL = some m.cls := hown
  have hts : ∀ w ∈ wsL_law, w.before #[Value.ref b0] s = true := fun w h => hts0 w (wsL_law_in w h)
  have hA : ∀ q : Nat, s.heap.size ≤ q → (fun q : Nat => s.heap.size ≤ q) q := fun _ h => h
  have hbA : ¬ (fun q : Nat => s.heap.size ≤ q) b0 := Nat.not_le.mpr hbl
  refine lv_aload_n hx hb dL_law_248 rfl (lv_at hl 2 rfl) ?_
  refine lv_aload_n hx hb dL_law_249 rfl (lv_at hl 3 rfl) ?_
  refine lv_iload_n hx hb dL_law_250 rfl (lv_at hl 0 rfl) ?_
  refine lv_iconst (v := 1) hx hb dL_law_251 (by decide) ?_
  refine lv_iadd hx hb dL_law_252 ?_
  refine ms_eqi (y := nI (4 * n + 1)) (nI_add (4 * n) 1) ?_
  refine ms_sld hx hb hX hbl hbA hS (4 * n + 1) rfl (by omega) (by omega) dL_law_253 ?_
  refine lv_aload_n hx hb dL_law_254 rfl (lv_at hl 3 rfl) ?_
  refine lv_iload_n hx hb dL_law_255 rfl (lv_at hl 0 rfl) ?_
  refine lv_iconst (v := 2) hx hb dL_law_256 (by decide) ?_
  refine lv_iadd hx hb dL_law_257 ?_
  refine ms_eqi (y := nI (4 * n + 2)) (nI_add (4 * n) 2) ?_
  refine ms_sld hx hb hX hbl hbA hS (4 * n + 2) rfl (by omega) (by omega) dL_law_258 ?_
  refine ms_pVi (qc := (RX10, TX10, 12)) (wc := ms_WX cA xa a i f o) (wr := ms_WM cA ma b j g t) (w1 := fun (u : ((Nat → Nat) × (Nat → Int32) × (Nat → Nat → Int32) × (Nat → Option Nat) × va_W)) => ms_WX cA xa u.1 u.2.1 u.2.2.1 u.2.2.2.1) (p1 := fun (u : ((Nat → Nat) × (Nat → Int32) × (Nat → Nat → Int32) × (Nat → Option Nat) × va_W)) => u.2.2.2.2) ⟨hx, hb, hml, hown, hts⟩ hE (wX10_road l D cA xa a i f o pl (xs (4 * n + 1)) (xs (4 * n + 2))  hB hq) (cwV 2 hts gL_law_X10_road rfl rfl rfl (by decide +kernel) ⟨Nat.le_of_ble_eq_true rfl, Nat.le_of_ble_eq_true rfl⟩) hP hD hS hA [0, 1, 2, 3, 4, 5, 6, 7, 8, 9, 10, 11, 12, 13, 14, 15, 16, 17, 18, 19, 20, 21, 22, 23, 24, 25, 26, 27, 28, 29, 30, 31, 32, 33, 34, 35, 36, 37, 38, 39, 40, 41, 42, 43, 44, 45, 46, 47, 48, 49] [50, 51, 52, 53, 54, 55, 56, 57, 58, 59, 60, 61, 62, 63, 64, 65, 66, 67, 68] rfl rfl rfl rfl (by decide) 0 10 rfl rfl rfl hl.1 rfl (Nat.le_of_ble_eq_true rfl) dL_law_259 ⟨Nat.le_trans (show 69 + 2 * n + 0 ≤ 600 by omega) (Nat.le_of_ble_eq_true rfl), Nat.le_trans (show 1489 + 15 * n + 0 ≤ 6000 by omega) (Nat.le_of_ble_eq_true rfl)⟩ (fun r1 u2 H locs hp hP hD hS => ?_)
  obtain ⟨hB1, hq1, ex1⟩ := hp
  have hP : va_P D vwCl ((ms_WM cA ma b j g t ++ ms_WX cA xa u2.1 u2.2.1 u2.2.2.1 u2.2.2.2.1) ++ u2.2.2.2.2) H := hP
  have hD : va_D (fun q : Nat => s.heap.size ≤ q) ((ms_WM cA ma b j g t ++ ms_WX cA xa u2.1 u2.2.1 u2.2.2.1 u2.2.2.2.1) ++ u2.2.2.2.2) := hD
  refine lv_pop hx hb dL_law_262 rfl ?_
  refine lv_aload_n hx hb dL_law_263 rfl (lv_at hl 1 rfl) ?_
  refine lv_aload_n hx hb dL_law_264 rfl (lv_at hl 3 rfl) ?_
  refine lv_iload_n hx hb dL_law_265 rfl (lv_at hl 0 rfl) ?_
  refine lv_iconst (v := 1) hx hb dL_law_266 (by decide) ?_
  refine lv_iadd hx hb dL_law_267 ?_
  refine ms_eqi (y := nI (4 * n + 1)) (nI_add (4 * n) 1) ?_
  refine ms_sld hx hb hX hbl hbA hS (4 * n + 1) rfl (by omega) (by omega) dL_law_268 ?_
  refine lv_aload_n hx hb dL_law_269 rfl (lv_at hl 3 rfl) ?_
  refine lv_iload_n hx hb dL_law_270 rfl (lv_at hl 0 rfl) ?_
  refine lv_iconst (v := 2) hx hb dL_law_271 (by decide) ?_
  refine lv_iadd hx hb dL_law_272 ?_
  refine ms_eqi (y := nI (4 * n + 2)) (nI_add (4 * n) 2) ?_
  refine ms_sld hx hb hX hbl hbA hS (4 * n + 2) rfl (by omega) (by omega) dL_law_273 ?_
  refine ms_qVi (qc := (RX11, TX11, 32)) (wc := ms_WM cA ma b j g t) (wr := ms_WX cA xa u2.1 u2.2.1 u2.2.2.1 u2.2.2.2.1) (w1 := fun (u : ((Nat → Int32) × (Nat → Nat → Int32) × (Nat → Int64))) => ms_WM cA ma b u.1 u.2.1 u.2.2) ⟨hx, hb, hml, hown, hts⟩ hE (wX11_road l D cA ma b j g t (xs (4 * n + 1)) (xs (4 * n + 2))  hM) (cwV 2 hts gL_law_X11_road rfl rfl rfl (by decide +kernel) ⟨Nat.le_of_ble_eq_true rfl, Nat.le_of_ble_eq_true rfl⟩) hP hD hS hA [0, 1, 2, 3, 4, 5, 6, 7, 8, 9, 10, 11, 12, 13, 14, 15, 16, 17, 18] [19, 20, 21, 22, 23, 24, 25, 26, 27, 28, 29, 30, 31, 32, 33, 34, 35, 36, 37, 38, 39, 40, 41, 42, 43, 44, 45, 46, 47, 48, 49, 50, 51, 52, 53, 54, 55, 56, 57, 58, 59, 60, 61, 62, 63, 64, 65, 66, 67, 68] rfl rfl rfl rfl (by decide) 0 11 rfl rfl rfl hl.1 rfl (Nat.le_of_ble_eq_true rfl) dL_law_274 ⟨Nat.le_trans (show 69 + 2 * n + 0 + 0 ≤ 600 by omega) (Nat.le_of_ble_eq_true rfl), Nat.le_trans (show 1489 + 15 * n + 0 + 0 ≤ 6000 by omega) (Nat.le_of_ble_eq_true rfl)⟩ (fun r3 u4 H locs hp hP hD hS => ?_)
  obtain ⟨hM1, ex2⟩ := hp
  have hP : va_P D vwCl ((ms_WX cA xa u2.1 u2.2.1 u2.2.2.1 u2.2.2.2.1 ++ ms_WM cA ma b u4.1 u4.2.1 u4.2.2) ++ u2.2.2.2.2) H := hP
  have hD : va_D (fun q : Nat => s.heap.size ≤ q) ((ms_WX cA xa u2.1 u2.2.1 u2.2.2.1 u2.2.2.2.1 ++ ms_WM cA ma b u4.1 u4.2.1 u4.2.2) ++ u2.2.2.2.2) := hD
  refine lv_pop hx hb dL_law_277 rfl ?_
  refine lv_goto (tgt := 988) hx hb dL_law_278 (by decide) ?_
  refine W.widen (k := 69 + 2 * (n + 1)) (n := 1489 + 15 * (n + 1)) (show 69 + 2 * n + 0 + 0 ≤ _ by omega) (show 1489 + 15 * n + 0 + 0 ≤ _ by omega) ?_
  exact kk _ _ _ _ _ _ _ _ _ _ _ hP hD hS hl hB1 hM1 hq1 ⟨ex1.1.trans (Eq.trans hrel.1 ex2.1.symm), ex1.2.2.2.2.2.2.2.2.2.2.2.1.trans (Eq.trans hrel.2.1 ex2.2.2.2.2.1.symm), mz_elc hrel.2.2.1 ex1.2.2.1 ex1.2.2.2.1 ex1.2.2.2.2.1 ex1.2.2.2.2.2.1 ex1.2.2.2.2.2.2.1 ex1.2.2.2.2.2.2.2.2.2.2.2.2.1 ex1.2.2.2.2.2.2.2.2.2.2.2.2.2.1 ex1.2.2.2.2.2.2.2.2.2.2.2.2.2.2.1 ex1.2.2.2.2.2.2.2.2.2.2.2.2.2.2.2.1 ex1.2.2.2.2.2.2.2.2.2.2.2.2.2.2.2.2.1 ex1.2.2.2.2.2.2.2.2.2.2.2.2.2.2.2.2.2.1 ex1.2.2.2.2.2.2.2.2.2.2.2.2.2.2.2.2.2.2.1 ex1.2.2.2.2.2.2.2.2.2.2.2.2.2.2.2.2.2.2.2.1 ex2.2.2.2.2.2.1, ex1.2.2.2.2.2.2.2.2.1.trans (Eq.trans hrel.2.2.2.1 ex2.2.2.2.1.symm), ex1.2.2.2.2.2.2.2.1.trans (Eq.trans hrel.2.2.2.2.1 ex2.2.2.1.symm), trivial⟩
set_option maxHeartbeats 4000000 in
set_option maxRecDepth 100000 in
theorem law_5 (l : Launch) (D : va_G) (cA : Nat → ClassId) (xa ma : Nat) (a : Nat → Nat) (b : Nat → Nat) (i : Nat → Int32) (f : Nat → Nat → Int32) (o : Nat → Option Nat) (pl : va_W) (j : Nat → Int32) (g : Nat → Nat → Int32) (t : Nat → Int64) {p : Program} {e : Env} {s : State} {m : MethodId} {below : List Frame} {meth : Method} {c : Code} {b0 L : Nat} {xs : Nat → Int32} {H : Heap} {locs : List Loc} {ls : Array Slot} {n : Nat} (C0 : lw_At p s m meth c b0 L xs) (hE : ms_EV D cA s) (hn : 4 * n + 4 ≤ L) (hL : L ≤ 256) (hP : va_P D vwCl ((ms_WX cA xa a i f o ++ ms_WM cA ma b j g t) ++ pl) H) (hD : va_D (fun q : Nat => s.heap.size ≤ q) ((ms_WX cA xa a i f o ++ ms_WM cA ma b j g t) ++ pl)) (hS : va_S (fun q : Nat => s.heap.size ≤ q) s.heap H locs) (hl : lv_has ls 4 [(3, .int (nI (4 * n))), (2, .ref ma), (1, .ref xa), (0, .ref b0)]) (hB : ms_BX i f) (hM : ms_BM j g t) (hq : ms_hq cA o pl) (hrel : ms_rel i f j g) (kk : ∀ (a : Nat → Nat) (i : Nat → Int32) (f : Nat → Nat → Int32) (o : Nat → Option Nat) (pl : va_W) (j : Nat → Int32) (g : Nat → Nat → Int32) (t : Nat → Int64) (H : Heap) (locs : List Loc) (ls : Array Slot), va_P D vwCl ((ms_WX cA xa a i f o ++ ms_WM cA ma b j g t) ++ pl) H → va_D (fun q : Nat => s.heap.size ≤ q) ((ms_WX cA xa a i f o ++ ms_WM cA ma b j g t) ++ pl) → va_S (fun q : Nat => s.heap.size ≤ q) s.heap H locs → lv_has ls 4 [(3, .int (nI (4 * n))), (2, .ref ma), (1, .ref xa), (0, .ref b0)] → ms_BX i f → ms_BM j g t → ms_hq cA o pl → ms_rel i f j g → W p l e room_1 s m #[Value.ref b0] below meth c H locs (69 + 2 * (n + 1)) (1489 + 15 * (n + 1)) (lw_Z below #[Value.ref b0] s) (F0 m 988 ls [])) : W p l e room_1 s m #[Value.ref b0] below meth c H locs (69 + 2 * n) (1489 + 15 * n) (lw_Z below #[Value.ref b0] s) (F0 m 281 ls []) := by
  obtain ⟨hx, hb, hr, hml, hown, hts0, hX, hbl, hlocks, hgv⟩ := id C0
  have hb : c.code = cL_law := hb
  have hown : s.vm.findClass RL = some m.cls := hown
  have hts : ∀ w ∈ wsL_law, w.before #[Value.ref b0] s = true := fun w h => hts0 w (wsL_law_in w h)
  have hA : ∀ q : Nat, s.heap.size ≤ q → (fun q : Nat => s.heap.size ≤ q) q := fun _ h => h
  have hbA : ¬ (fun q : Nat => s.heap.size ≤ q) b0 := Nat.not_le.mpr hbl
  refine lv_aload_n hx hb dL_law_281 rfl (lv_at hl 2 rfl) ?_
  refine lv_aload_n hx hb dL_law_282 rfl (lv_at hl 3 rfl) ?_
  refine lv_iload_n hx hb dL_law_283 rfl (lv_at hl 0 rfl) ?_
  refine lv_iconst (v := 1) hx hb dL_law_284 (by decide) ?_
  refine lv_iadd hx hb dL_law_285 ?_
  refine ms_eqi (y := nI (4 * n + 1)) (nI_add (4 * n) 1) ?_
  refine ms_sld hx hb hX hbl hbA hS (4 * n + 1) rfl (by omega) (by omega) dL_law_286 ?_
  refine lv_aload_n hx hb dL_law_287 rfl (lv_at hl 3 rfl) ?_
  refine lv_iload_n hx hb dL_law_288 rfl (lv_at hl 0 rfl) ?_
  refine lv_iconst (v := 2) hx hb dL_law_289 (by decide) ?_
  refine lv_iadd hx hb dL_law_290 ?_
  refine ms_eqi (y := nI (4 * n + 2)) (nI_add (4 * n) 2) ?_
  refine ms_sld hx hb hX hbl hbA hS (4 * n + 2) rfl (by omega) (by omega) dL_law_291 ?_
  refine ms_pVi (qc := (RX10, TX10, 12)) (wc := ms_WX cA xa a i f o) (wr := ms_WM cA ma b j g t) (w1 := fun (u : ((Nat → Nat) × (Nat → Int32) × (Nat → Nat → Int32) × (Nat → Option Nat) × va_W)) => ms_WX cA xa u.1 u.2.1 u.2.2.1 u.2.2.2.1) (p1 := fun (u : ((Nat → Nat) × (Nat → Int32) × (Nat → Nat → Int32) × (Nat → Option Nat) × va_W)) => u.2.2.2.2) ⟨hx, hb, hml, hown, hts⟩ hE (wX10_treaty l D cA xa a i f o pl (xs (4 * n + 1)) (xs (4 * n + 2))  hB hq) (cwV 2 hts gL_law_X10_treaty rfl rfl rfl (by decide +kernel) ⟨Nat.le_of_ble_eq_true rfl, Nat.le_of_ble_eq_true rfl⟩) hP hD hS hA [0, 1, 2, 3, 4, 5, 6, 7, 8, 9, 10, 11, 12, 13, 14, 15, 16, 17, 18, 19, 20, 21, 22, 23, 24, 25, 26, 27, 28, 29, 30, 31, 32, 33, 34, 35, 36, 37, 38, 39, 40, 41, 42, 43, 44, 45, 46, 47, 48, 49] [50, 51, 52, 53, 54, 55, 56, 57, 58, 59, 60, 61, 62, 63, 64, 65, 66, 67, 68] rfl rfl rfl rfl (by decide) 0 10 rfl rfl rfl hl.1 rfl (Nat.le_of_ble_eq_true rfl) dL_law_292 ⟨Nat.le_trans (show 69 + 2 * n + 0 ≤ 600 by omega) (Nat.le_of_ble_eq_true rfl), Nat.le_trans (show 1489 + 15 * n + 0 ≤ 6000 by omega) (Nat.le_of_ble_eq_true rfl)⟩ (fun r1 u2 H locs hp hP hD hS => ?_)
  obtain ⟨hB1, hq1, ex1⟩ := hp
  have hP : va_P D vwCl ((ms_WM cA ma b j g t ++ ms_WX cA xa u2.1 u2.2.1 u2.2.2.1 u2.2.2.2.1) ++ u2.2.2.2.2) H := hP
  have hD : va_D (fun q : Nat => s.heap.size ≤ q) ((ms_WM cA ma b j g t ++ ms_WX cA xa u2.1 u2.2.1 u2.2.2.1 u2.2.2.2.1) ++ u2.2.2.2.2) := hD
  refine lv_pop hx hb dL_law_295 rfl ?_
  refine lv_aload_n hx hb dL_law_296 rfl (lv_at hl 1 rfl) ?_
  refine lv_aload_n hx hb dL_law_297 rfl (lv_at hl 3 rfl) ?_
  refine lv_iload_n hx hb dL_law_298 rfl (lv_at hl 0 rfl) ?_
  refine lv_iconst (v := 1) hx hb dL_law_299 (by decide) ?_
  refine lv_iadd hx hb dL_law_300 ?_
  refine ms_eqi (y := nI (4 * n + 1)) (nI_add (4 * n) 1) ?_
  refine ms_sld hx hb hX hbl hbA hS (4 * n + 1) rfl (by omega) (by omega) dL_law_301 ?_
  refine lv_aload_n hx hb dL_law_302 rfl (lv_at hl 3 rfl) ?_
  refine lv_iload_n hx hb dL_law_303 rfl (lv_at hl 0 rfl) ?_
  refine lv_iconst (v := 2) hx hb dL_law_304 (by decide) ?_
  refine lv_iadd hx hb dL_law_305 ?_
  refine ms_eqi (y := nI (4 * n + 2)) (nI_add (4 * n) 2) ?_
  refine ms_sld hx hb hX hbl hbA hS (4 * n + 2) rfl (by omega) (by omega) dL_law_306 ?_
  refine ms_qVi (qc := (RX11, TX11, 32)) (wc := ms_WM cA ma b j g t) (wr := ms_WX cA xa u2.1 u2.2.1 u2.2.2.1 u2.2.2.2.1) (w1 := fun (u : ((Nat → Int32) × (Nat → Nat → Int32) × (Nat → Int64))) => ms_WM cA ma b u.1 u.2.1 u.2.2) ⟨hx, hb, hml, hown, hts⟩ hE (wX11_treaty l D cA ma b j g t (xs (4 * n + 1)) (xs (4 * n + 2))  hM) (cwV 2 hts gL_law_X11_treaty rfl rfl rfl (by decide +kernel) ⟨Nat.le_of_ble_eq_true rfl, Nat.le_of_ble_eq_true rfl⟩) hP hD hS hA [0, 1, 2, 3, 4, 5, 6, 7, 8, 9, 10, 11, 12, 13, 14, 15, 16, 17, 18] [19, 20, 21, 22, 23, 24, 25, 26, 27, 28, 29, 30, 31, 32, 33, 34, 35, 36, 37, 38, 39, 40, 41, 42, 43, 44, 45, 46, 47, 48, 49, 50, 51, 52, 53, 54, 55, 56, 57, 58, 59, 60, 61, 62, 63, 64, 65, 66, 67, 68] rfl rfl rfl rfl (by decide) 0 11 rfl rfl rfl hl.1 rfl (Nat.le_of_ble_eq_true rfl) dL_law_307 ⟨Nat.le_trans (show 69 + 2 * n + 0 + 0 ≤ 600 by omega) (Nat.le_of_ble_eq_true rfl), Nat.le_trans (show 1489 + 15 * n + 0 + 0 ≤ 6000 by omega) (Nat.le_of_ble_eq_true rfl)⟩ (fun r3 u4 H locs hp hP hD hS => ?_)
  obtain ⟨hM1, ex2⟩ := hp
  have hP : va_P D vwCl ((ms_WX cA xa u2.1 u2.2.1 u2.2.2.1 u2.2.2.2.1 ++ ms_WM cA ma b u4.1 u4.2.1 u4.2.2) ++ u2.2.2.2.2) H := hP
  have hD : va_D (fun q : Nat => s.heap.size ≤ q) ((ms_WX cA xa u2.1 u2.2.1 u2.2.2.1 u2.2.2.2.1 ++ ms_WM cA ma b u4.1 u4.2.1 u4.2.2) ++ u2.2.2.2.2) := hD
  refine lv_pop hx hb dL_law_310 rfl ?_
  refine lv_goto (tgt := 988) hx hb dL_law_311 (by decide) ?_
  refine W.widen (k := 69 + 2 * (n + 1)) (n := 1489 + 15 * (n + 1)) (show 69 + 2 * n + 0 + 0 ≤ _ by omega) (show 1489 + 15 * n + 0 + 0 ≤ _ by omega) ?_
  exact kk _ _ _ _ _ _ _ _ _ _ _ hP hD hS hl hB1 hM1 hq1 ⟨ex1.1.trans (Eq.trans hrel.1 ex2.1.symm), ex1.2.2.2.2.2.2.2.2.2.2.2.1.trans (Eq.trans hrel.2.1 ex2.2.2.2.2.1.symm), mz_elc hrel.2.2.1 ex1.2.2.1 ex1.2.2.2.1 ex1.2.2.2.2.1 ex1.2.2.2.2.2.1 ex1.2.2.2.2.2.2.1 ex1.2.2.2.2.2.2.2.2.2.2.2.2.1 ex1.2.2.2.2.2.2.2.2.2.2.2.2.2.1 ex1.2.2.2.2.2.2.2.2.2.2.2.2.2.2.1 ex1.2.2.2.2.2.2.2.2.2.2.2.2.2.2.2.1 ex1.2.2.2.2.2.2.2.2.2.2.2.2.2.2.2.2.1 ex1.2.2.2.2.2.2.2.2.2.2.2.2.2.2.2.2.2.1 ex1.2.2.2.2.2.2.2.2.2.2.2.2.2.2.2.2.2.2.1 ex1.2.2.2.2.2.2.2.2.2.2.2.2.2.2.2.2.2.2.2.1 ex2.2.2.2.2.2.1, ex1.2.2.2.2.2.2.2.2.1.trans (Eq.trans hrel.2.2.2.1 ex2.2.2.2.1.symm), ex1.2.2.2.2.2.2.2.1.trans (Eq.trans hrel.2.2.2.2.1 ex2.2.2.1.symm), trivial⟩
set_option maxHeartbeats 4000000 in
set_option maxRecDepth 100000 in
theorem law_6 (l : Launch) (D : va_G) (cA : Nat → ClassId) (xa ma : Nat) (a : Nat → Nat) (b : Nat → Nat) (i : Nat → Int32) (f : Nat → Nat → Int32) (o : Nat → Option Nat) (pl : va_W) (j : Nat → Int32) (g : Nat → Nat → Int32) (t : Nat → Int64) {p : Program} {e : Env} {s : State} {m : MethodId} {below : List Frame} {meth : Method} {c : Code} {b0 L : Nat} {xs : Nat → Int32} {H : Heap} {locs : List Loc} {ls : Array Slot} {n : Nat} (C0 : lw_At p s m meth c b0 L xs) (hE : ms_EV D cA s) (hn : 4 * n + 4 ≤ L) (hL : L ≤ 256) (hP : va_P D vwCl ((ms_WX cA xa a i f o ++ ms_WM cA ma b j g t) ++ pl) H) (hD : va_D (fun q : Nat => s.heap.size ≤ q) ((ms_WX cA xa a i f o ++ ms_WM cA ma b j g t) ++ pl)) (hS : va_S (fun q : Nat => s.heap.size ≤ q) s.heap H locs) (hl : lv_has ls 4 [(3, .int (nI (4 * n))), (2, .ref ma), (1, .ref xa), (0, .ref b0)]) (hB : ms_BX i f) (hM : ms_BM j g t) (hq : ms_hq cA o pl) (hrel : ms_rel i f j g) (kk : ∀ (a : Nat → Nat) (i : Nat → Int32) (f : Nat → Nat → Int32) (o : Nat → Option Nat) (pl : va_W) (j : Nat → Int32) (g : Nat → Nat → Int32) (t : Nat → Int64) (H : Heap) (locs : List Loc) (ls : Array Slot), va_P D vwCl ((ms_WX cA xa a i f o ++ ms_WM cA ma b j g t) ++ pl) H → va_D (fun q : Nat => s.heap.size ≤ q) ((ms_WX cA xa a i f o ++ ms_WM cA ma b j g t) ++ pl) → va_S (fun q : Nat => s.heap.size ≤ q) s.heap H locs → lv_has ls 4 [(3, .int (nI (4 * n))), (2, .ref ma), (1, .ref xa), (0, .ref b0)] → ms_BX i f → ms_BM j g t → ms_hq cA o pl → ms_rel i f j g → W p l e room_1 s m #[Value.ref b0] below meth c H locs (69 + 2 * (n + 1)) (1489 + 15 * (n + 1)) (lw_Z below #[Value.ref b0] s) (F0 m 988 ls [])) : W p l e room_1 s m #[Value.ref b0] below meth c H locs (69 + 2 * n) (1489 + 15 * n) (lw_Z below #[Value.ref b0] s) (F0 m 314 ls []) := by
  obtain ⟨hx, hb, hr, hml, hown, hts0, hX, hbl, hlocks, hgv⟩ := id C0
  have hb : c.code = cL_law := hb
  have hown : s.vm.findClass RL = some m.cls := hown
  have hts : ∀ w ∈ wsL_law, w.before #[Value.ref b0] s = true := fun w h => hts0 w (wsL_law_in w h)
  have hA : ∀ q : Nat, s.heap.size ≤ q → (fun q : Nat => s.heap.size ≤ q) q := fun _ h => h
  have hbA : ¬ (fun q : Nat => s.heap.size ≤ q) b0 := Nat.not_le.mpr hbl
  refine lv_aload_n hx hb dL_law_314 rfl (lv_at hl 2 rfl) ?_
  refine lv_aload_n hx hb dL_law_315 rfl (lv_at hl 3 rfl) ?_
  refine lv_iload_n hx hb dL_law_316 rfl (lv_at hl 0 rfl) ?_
  refine lv_iconst (v := 1) hx hb dL_law_317 (by decide) ?_
  refine lv_iadd hx hb dL_law_318 ?_
  refine ms_eqi (y := nI (4 * n + 1)) (nI_add (4 * n) 1) ?_
  refine ms_sld hx hb hX hbl hbA hS (4 * n + 1) rfl (by omega) (by omega) dL_law_319 ?_
  refine lv_aload_n hx hb dL_law_320 rfl (lv_at hl 3 rfl) ?_
  refine lv_iload_n hx hb dL_law_321 rfl (lv_at hl 0 rfl) ?_
  refine lv_iconst (v := 2) hx hb dL_law_322 (by decide) ?_
  refine lv_iadd hx hb dL_law_323 ?_
  refine ms_eqi (y := nI (4 * n + 2)) (nI_add (4 * n) 2) ?_
  refine ms_sld hx hb hX hbl hbA hS (4 * n + 2) rfl (by omega) (by omega) dL_law_324 ?_
  refine ms_pVi (qc := (RX10, TX10, 12)) (wc := ms_WX cA xa a i f o) (wr := ms_WM cA ma b j g t) (w1 := fun (u : ((Nat → Nat) × (Nat → Int32) × (Nat → Nat → Int32) × (Nat → Option Nat) × va_W)) => ms_WX cA xa u.1 u.2.1 u.2.2.1 u.2.2.2.1) (p1 := fun (u : ((Nat → Nat) × (Nat → Int32) × (Nat → Nat → Int32) × (Nat → Option Nat) × va_W)) => u.2.2.2.2) ⟨hx, hb, hml, hown, hts⟩ hE (wX10_shift l D cA xa a i f o pl (xs (4 * n + 1)) (xs (4 * n + 2))  hB hq) (cwV 2 hts gL_law_X10_shift rfl rfl rfl (by decide +kernel) ⟨Nat.le_of_ble_eq_true rfl, Nat.le_of_ble_eq_true rfl⟩) hP hD hS hA [0, 1, 2, 3, 4, 5, 6, 7, 8, 9, 10, 11, 12, 13, 14, 15, 16, 17, 18, 19, 20, 21, 22, 23, 24, 25, 26, 27, 28, 29, 30, 31, 32, 33, 34, 35, 36, 37, 38, 39, 40, 41, 42, 43, 44, 45, 46, 47, 48, 49] [50, 51, 52, 53, 54, 55, 56, 57, 58, 59, 60, 61, 62, 63, 64, 65, 66, 67, 68] rfl rfl rfl rfl (by decide) 0 10 rfl rfl rfl hl.1 rfl (Nat.le_of_ble_eq_true rfl) dL_law_325 ⟨Nat.le_trans (show 69 + 2 * n + 2 ≤ 600 by omega) (Nat.le_of_ble_eq_true rfl), Nat.le_trans (show 1489 + 15 * n + 15 ≤ 6000 by omega) (Nat.le_of_ble_eq_true rfl)⟩ (fun r1 u2 H locs hp hP hD hS => ?_)
  obtain ⟨hB1, hq1, ex1⟩ := hp
  have hP : va_P D vwCl ((ms_WM cA ma b j g t ++ ms_WX cA xa u2.1 u2.2.1 u2.2.2.1 u2.2.2.2.1) ++ u2.2.2.2.2) H := hP
  have hD : va_D (fun q : Nat => s.heap.size ≤ q) ((ms_WM cA ma b j g t ++ ms_WX cA xa u2.1 u2.2.1 u2.2.2.1 u2.2.2.2.1) ++ u2.2.2.2.2) := hD
  refine lv_pop hx hb dL_law_328 rfl ?_
  refine lv_aload_n hx hb dL_law_329 rfl (lv_at hl 1 rfl) ?_
  refine lv_aload_n hx hb dL_law_330 rfl (lv_at hl 3 rfl) ?_
  refine lv_iload_n hx hb dL_law_331 rfl (lv_at hl 0 rfl) ?_
  refine lv_iconst (v := 1) hx hb dL_law_332 (by decide) ?_
  refine lv_iadd hx hb dL_law_333 ?_
  refine ms_eqi (y := nI (4 * n + 1)) (nI_add (4 * n) 1) ?_
  refine ms_sld hx hb hX hbl hbA hS (4 * n + 1) rfl (by omega) (by omega) dL_law_334 ?_
  refine lv_aload_n hx hb dL_law_335 rfl (lv_at hl 3 rfl) ?_
  refine lv_iload_n hx hb dL_law_336 rfl (lv_at hl 0 rfl) ?_
  refine lv_iconst (v := 2) hx hb dL_law_337 (by decide) ?_
  refine lv_iadd hx hb dL_law_338 ?_
  refine ms_eqi (y := nI (4 * n + 2)) (nI_add (4 * n) 2) ?_
  refine ms_sld hx hb hX hbl hbA hS (4 * n + 2) rfl (by omega) (by omega) dL_law_339 ?_
  refine ms_qVi (qc := (RX11, TX11, 32)) (wc := ms_WM cA ma b j g t) (wr := ms_WX cA xa u2.1 u2.2.1 u2.2.2.1 u2.2.2.2.1) (w1 := fun (u : ((Nat → Int32) × (Nat → Nat → Int32) × (Nat → Int64))) => ms_WM cA ma b u.1 u.2.1 u.2.2) ⟨hx, hb, hml, hown, hts⟩ hE (wX11_shift l D cA ma b j g t (xs (4 * n + 1)) (xs (4 * n + 2))  hM) (cwV 2 hts gL_law_X11_shift rfl rfl rfl (by decide +kernel) ⟨Nat.le_of_ble_eq_true rfl, Nat.le_of_ble_eq_true rfl⟩) hP hD hS hA [0, 1, 2, 3, 4, 5, 6, 7, 8, 9, 10, 11, 12, 13, 14, 15, 16, 17, 18] [19, 20, 21, 22, 23, 24, 25, 26, 27, 28, 29, 30, 31, 32, 33, 34, 35, 36, 37, 38, 39, 40, 41, 42, 43, 44, 45, 46, 47, 48, 49, 50, 51, 52, 53, 54, 55, 56, 57, 58, 59, 60, 61, 62, 63, 64, 65, 66, 67, 68] rfl rfl rfl rfl (by decide) 0 11 rfl rfl rfl hl.1 rfl (Nat.le_of_ble_eq_true rfl) dL_law_340 ⟨Nat.le_trans (show 69 + 2 * n + 2 + 0 ≤ 600 by omega) (Nat.le_of_ble_eq_true rfl), Nat.le_trans (show 1489 + 15 * n + 15 + 0 ≤ 6000 by omega) (Nat.le_of_ble_eq_true rfl)⟩ (fun r3 u4 H locs hp hP hD hS => ?_)
  obtain ⟨hM1, ex2⟩ := hp
  have hP : va_P D vwCl ((ms_WX cA xa u2.1 u2.2.1 u2.2.2.1 u2.2.2.2.1 ++ ms_WM cA ma b u4.1 u4.2.1 u4.2.2) ++ u2.2.2.2.2) H := hP
  have hD : va_D (fun q : Nat => s.heap.size ≤ q) ((ms_WX cA xa u2.1 u2.2.1 u2.2.2.1 u2.2.2.2.1 ++ ms_WM cA ma b u4.1 u4.2.1 u4.2.2) ++ u2.2.2.2.2) := hD
  refine lv_pop hx hb dL_law_343 rfl ?_
  refine lv_goto (tgt := 988) hx hb dL_law_344 (by decide) ?_
  refine W.widen (k := 69 + 2 * (n + 1)) (n := 1489 + 15 * (n + 1)) (show 69 + 2 * n + 2 + 0 ≤ _ by omega) (show 1489 + 15 * n + 15 + 0 ≤ _ by omega) ?_
  exact kk _ _ _ _ _ _ _ _ _ _ _ hP hD hS hl hB1 hM1 hq1 ⟨ex1.1.trans (Eq.trans hrel.1 ex2.1.symm), ex1.2.2.2.2.2.2.2.2.2.2.2.1.trans (Eq.trans hrel.2.1 ex2.2.2.2.2.1.symm), mz_elc hrel.2.2.1 ex1.2.2.1 ex1.2.2.2.1 ex1.2.2.2.2.1 ex1.2.2.2.2.2.1 ex1.2.2.2.2.2.2.1 ex1.2.2.2.2.2.2.2.2.2.2.2.2.1 ex1.2.2.2.2.2.2.2.2.2.2.2.2.2.1 ex1.2.2.2.2.2.2.2.2.2.2.2.2.2.2.1 ex1.2.2.2.2.2.2.2.2.2.2.2.2.2.2.2.1 ex1.2.2.2.2.2.2.2.2.2.2.2.2.2.2.2.2.1 ex1.2.2.2.2.2.2.2.2.2.2.2.2.2.2.2.2.2.1 ex1.2.2.2.2.2.2.2.2.2.2.2.2.2.2.2.2.2.2.1 ex1.2.2.2.2.2.2.2.2.2.2.2.2.2.2.2.2.2.2.2.1 ex2.2.2.2.2.2.1, ex1.2.2.2.2.2.2.2.2.1.trans (Eq.trans hrel.2.2.2.1 ex2.2.2.2.1.symm), ex1.2.2.2.2.2.2.2.1.trans (Eq.trans hrel.2.2.2.2.1 ex2.2.2.1.symm), trivial⟩
set_option maxHeartbeats 4000000 in
set_option maxRecDepth 100000 in
theorem law_7 (l : Launch) (D : va_G) (cA : Nat → ClassId) (xa ma : Nat) (a : Nat → Nat) (b : Nat → Nat) (i : Nat → Int32) (f : Nat → Nat → Int32) (o : Nat → Option Nat) (pl : va_W) (j : Nat → Int32) (g : Nat → Nat → Int32) (t : Nat → Int64) {p : Program} {e : Env} {s : State} {m : MethodId} {below : List Frame} {meth : Method} {c : Code} {b0 L : Nat} {xs : Nat → Int32} {H : Heap} {locs : List Loc} {ls : Array Slot} {n : Nat} (C0 : lw_At p s m meth c b0 L xs) (hE : ms_EV D cA s) (hn : 4 * n + 4 ≤ L) (hL : L ≤ 256) (hP : va_P D vwCl ((ms_WX cA xa a i f o ++ ms_WM cA ma b j g t) ++ pl) H) (hD : va_D (fun q : Nat => s.heap.size ≤ q) ((ms_WX cA xa a i f o ++ ms_WM cA ma b j g t) ++ pl)) (hS : va_S (fun q : Nat => s.heap.size ≤ q) s.heap H locs) (hl : lv_has ls 4 [(3, .int (nI (4 * n))), (2, .ref ma), (1, .ref xa), (0, .ref b0)]) (hB : ms_BX i f) (hM : ms_BM j g t) (hq : ms_hq cA o pl) (hrel : ms_rel i f j g) (kk : ∀ (a : Nat → Nat) (i : Nat → Int32) (f : Nat → Nat → Int32) (o : Nat → Option Nat) (pl : va_W) (j : Nat → Int32) (g : Nat → Nat → Int32) (t : Nat → Int64) (H : Heap) (locs : List Loc) (ls : Array Slot), va_P D vwCl ((ms_WX cA xa a i f o ++ ms_WM cA ma b j g t) ++ pl) H → va_D (fun q : Nat => s.heap.size ≤ q) ((ms_WX cA xa a i f o ++ ms_WM cA ma b j g t) ++ pl) → va_S (fun q : Nat => s.heap.size ≤ q) s.heap H locs → lv_has ls 4 [(3, .int (nI (4 * n))), (2, .ref ma), (1, .ref xa), (0, .ref b0)] → ms_BX i f → ms_BM j g t → ms_hq cA o pl → ms_rel i f j g → W p l e room_1 s m #[Value.ref b0] below meth c H locs (69 + 2 * (n + 1)) (1489 + 15 * (n + 1)) (lw_Z below #[Value.ref b0] s) (F0 m 988 ls [])) : W p l e room_1 s m #[Value.ref b0] below meth c H locs (69 + 2 * n) (1489 + 15 * n) (lw_Z below #[Value.ref b0] s) (F0 m 347 ls []) := by
  obtain ⟨hx, hb, hr, hml, hown, hts0, hX, hbl, hlocks, hgv⟩ := id C0
  have hb : c.code = cL_law := hb
  have hown : s.vm.findClass RL = some m.cls := hown
  have hts : ∀ w ∈ wsL_law, w.before #[Value.ref b0] s = true := fun w h => hts0 w (wsL_law_in w h)
  have hA : ∀ q : Nat, s.heap.size ≤ q → (fun q : Nat => s.heap.size ≤ q) q := fun _ h => h
  have hbA : ¬ (fun q : Nat => s.heap.size ≤ q) b0 := Nat.not_le.mpr hbl
  refine lv_aload_n hx hb dL_law_347 rfl (lv_at hl 2 rfl) ?_
  refine lv_aload_n hx hb dL_law_348 rfl (lv_at hl 3 rfl) ?_
  refine lv_iload_n hx hb dL_law_349 rfl (lv_at hl 0 rfl) ?_
  refine lv_iconst (v := 1) hx hb dL_law_350 (by decide) ?_
  refine lv_iadd hx hb dL_law_351 ?_
  refine ms_eqi (y := nI (4 * n + 1)) (nI_add (4 * n) 1) ?_
  refine ms_sld hx hb hX hbl hbA hS (4 * n + 1) rfl (by omega) (by omega) dL_law_352 ?_
  refine ms_pVi (qc := (RX10, TX10, 12)) (wc := ms_WX cA xa a i f o) (wr := ms_WM cA ma b j g t) (w1 := fun (u : ((Nat → Nat) × (Nat → Int32) × (Nat → Nat → Int32) × (Nat → Option Nat) × va_W)) => ms_WX cA xa u.1 u.2.1 u.2.2.1 u.2.2.2.1) (p1 := fun (u : ((Nat → Nat) × (Nat → Int32) × (Nat → Nat → Int32) × (Nat → Option Nat) × va_W)) => u.2.2.2.2) ⟨hx, hb, hml, hown, hts⟩ hE (wX10_year l D cA xa a i f o pl (xs (4 * n + 1))  hB hq) (cwV 1 hts gL_law_X10_year rfl rfl rfl (by decide +kernel) ⟨Nat.le_of_ble_eq_true rfl, Nat.le_of_ble_eq_true rfl⟩) hP hD hS hA [0, 1, 2, 3, 4, 5, 6, 7, 8, 9, 10, 11, 12, 13, 14, 15, 16, 17, 18, 19, 20, 21, 22, 23, 24, 25, 26, 27, 28, 29, 30, 31, 32, 33, 34, 35, 36, 37, 38, 39, 40, 41, 42, 43, 44, 45, 46, 47, 48, 49] [50, 51, 52, 53, 54, 55, 56, 57, 58, 59, 60, 61, 62, 63, 64, 65, 66, 67, 68] rfl rfl rfl rfl (by decide) 0 10 rfl rfl rfl hl.1 rfl (Nat.le_of_ble_eq_true rfl) dL_law_353 ⟨Nat.le_trans (show 69 + 2 * n + 2 ≤ 600 by omega) (Nat.le_of_ble_eq_true rfl), Nat.le_trans (show 1489 + 15 * n + 15 ≤ 6000 by omega) (Nat.le_of_ble_eq_true rfl)⟩ (fun r1 u2 H locs hp hP hD hS => ?_)
  obtain ⟨hB1, hq1, ex1⟩ := hp
  have hP : va_P D vwCl ((ms_WM cA ma b j g t ++ ms_WX cA xa u2.1 u2.2.1 u2.2.2.1 u2.2.2.2.1) ++ u2.2.2.2.2) H := hP
  have hD : va_D (fun q : Nat => s.heap.size ≤ q) ((ms_WM cA ma b j g t ++ ms_WX cA xa u2.1 u2.2.1 u2.2.2.1 u2.2.2.2.1) ++ u2.2.2.2.2) := hD
  refine lv_pop hx hb dL_law_356 rfl ?_
  refine lv_aload_n hx hb dL_law_357 rfl (lv_at hl 1 rfl) ?_
  refine lv_aload_n hx hb dL_law_358 rfl (lv_at hl 3 rfl) ?_
  refine lv_iload_n hx hb dL_law_359 rfl (lv_at hl 0 rfl) ?_
  refine lv_iconst (v := 1) hx hb dL_law_360 (by decide) ?_
  refine lv_iadd hx hb dL_law_361 ?_
  refine ms_eqi (y := nI (4 * n + 1)) (nI_add (4 * n) 1) ?_
  refine ms_sld hx hb hX hbl hbA hS (4 * n + 1) rfl (by omega) (by omega) dL_law_362 ?_
  refine ms_qVi (qc := (RX11, TX11, 32)) (wc := ms_WM cA ma b j g t) (wr := ms_WX cA xa u2.1 u2.2.1 u2.2.2.1 u2.2.2.2.1) (w1 := fun (u : ((Nat → Int32) × (Nat → Nat → Int32) × (Nat → Int64))) => ms_WM cA ma b u.1 u.2.1 u.2.2) ⟨hx, hb, hml, hown, hts⟩ hE (wX11_year l D cA ma b j g t (xs (4 * n + 1))  hM) (cwV 1 hts gL_law_X11_year rfl rfl rfl (by decide +kernel) ⟨Nat.le_of_ble_eq_true rfl, Nat.le_of_ble_eq_true rfl⟩) hP hD hS hA [0, 1, 2, 3, 4, 5, 6, 7, 8, 9, 10, 11, 12, 13, 14, 15, 16, 17, 18] [19, 20, 21, 22, 23, 24, 25, 26, 27, 28, 29, 30, 31, 32, 33, 34, 35, 36, 37, 38, 39, 40, 41, 42, 43, 44, 45, 46, 47, 48, 49, 50, 51, 52, 53, 54, 55, 56, 57, 58, 59, 60, 61, 62, 63, 64, 65, 66, 67, 68] rfl rfl rfl rfl (by decide) 0 11 rfl rfl rfl hl.1 rfl (Nat.le_of_ble_eq_true rfl) dL_law_363 ⟨Nat.le_trans (show 69 + 2 * n + 2 + 0 ≤ 600 by omega) (Nat.le_of_ble_eq_true rfl), Nat.le_trans (show 1489 + 15 * n + 15 + 0 ≤ 6000 by omega) (Nat.le_of_ble_eq_true rfl)⟩ (fun r3 u4 H locs hp hP hD hS => ?_)
  obtain ⟨hM1, ex2⟩ := hp
  have hP : va_P D vwCl ((ms_WX cA xa u2.1 u2.2.1 u2.2.2.1 u2.2.2.2.1 ++ ms_WM cA ma b u4.1 u4.2.1 u4.2.2) ++ u2.2.2.2.2) H := hP
  have hD : va_D (fun q : Nat => s.heap.size ≤ q) ((ms_WX cA xa u2.1 u2.2.1 u2.2.2.1 u2.2.2.2.1 ++ ms_WM cA ma b u4.1 u4.2.1 u4.2.2) ++ u2.2.2.2.2) := hD
  refine lv_pop hx hb dL_law_366 rfl ?_
  refine lv_goto (tgt := 988) hx hb dL_law_367 (by decide) ?_
  refine W.widen (k := 69 + 2 * (n + 1)) (n := 1489 + 15 * (n + 1)) (show 69 + 2 * n + 2 + 0 ≤ _ by omega) (show 1489 + 15 * n + 15 + 0 ≤ _ by omega) ?_
  exact kk _ _ _ _ _ _ _ _ _ _ _ hP hD hS hl hB1 hM1 hq1 ⟨ex1.1.trans (Eq.trans hrel.1 ex2.1.symm), ex1.2.2.2.2.2.2.2.2.2.2.2.1.trans (Eq.trans hrel.2.1 ex2.2.2.2.2.1.symm), mz_elc hrel.2.2.1 ex1.2.2.1 ex1.2.2.2.1 ex1.2.2.2.2.1 ex1.2.2.2.2.2.1 ex1.2.2.2.2.2.2.1 ex1.2.2.2.2.2.2.2.2.2.2.2.2.1 ex1.2.2.2.2.2.2.2.2.2.2.2.2.2.1 ex1.2.2.2.2.2.2.2.2.2.2.2.2.2.2.1 ex1.2.2.2.2.2.2.2.2.2.2.2.2.2.2.2.1 ex1.2.2.2.2.2.2.2.2.2.2.2.2.2.2.2.2.1 ex1.2.2.2.2.2.2.2.2.2.2.2.2.2.2.2.2.2.1 ex1.2.2.2.2.2.2.2.2.2.2.2.2.2.2.2.2.2.2.1 ex1.2.2.2.2.2.2.2.2.2.2.2.2.2.2.2.2.2.2.2.1 ex2.2.2.2.2.2.1, ex1.2.2.2.2.2.2.2.2.1.trans (Eq.trans hrel.2.2.2.1 ex2.2.2.2.1.symm), ex1.2.2.2.2.2.2.2.1.trans (Eq.trans hrel.2.2.2.2.1 ex2.2.2.1.symm), trivial⟩
