/-! the pool of the history's states: what is in it, and contracts with a pool behind them -/
theorem ms_Pperm {D : va_G} {cl : List vw_C} {X Y : va_W} {H : Heap} (hp : X.Perm Y) (h : va_P D cl X H) : va_P D cl Y H := fun k q hk => by
  obtain ⟨i, hi⟩ := List.getElem?_of_mem (hp.mem_iff.mpr (List.mem_of_getElem? hk))
  exact h i q hi
theorem ms_Dnd {A : Nat → Prop} {X : va_W} : va_D A X ↔ (X.Pairwise (fun p q => p.1 ≠ q.1)) ∧ ∀ q ∈ X, A q.1 := by
  constructor
  · intro h
    refine ⟨List.pairwise_iff_getElem.mpr (fun i j hi hj hij e => ?_), fun q hq => ?_⟩
    · have := h.1 i j _ _ (List.getElem?_eq_getElem hi) (List.getElem?_eq_getElem hj) e
      omega
    · obtain ⟨k, hk⟩ := List.getElem?_of_mem hq
      exact h.2 k q hk
  · intro h
    refine ⟨fun i j p q hi hj e => ?_, fun k q hk => h.2 q (List.mem_of_getElem? hk)⟩
    obtain ⟨hil, hip⟩ := List.getElem?_eq_some_iff.mp hi
    obtain ⟨hjl, hjp⟩ := List.getElem?_eq_some_iff.mp hj
    have hpw := List.pairwise_iff_getElem.mp h.1
    rcases Nat.lt_trichotomy i j with hij | hij | hij
    · exact absurd (by rw [hip, hjp]; exact e) (hpw i j hil hjl hij)
    · exact hij
    · exact absurd (by rw [hip, hjp]; exact e.symm) (hpw j i hjl hil hij)
theorem ms_Dperm {A : Nat → Prop} {X Y : va_W} (hp : X.Perm Y) (h : va_D A X) : va_D A Y := by
  rw [ms_Dnd] at h ⊢
  exact ⟨(hp.pairwise_iff (fun q e => q e.symm)).mp h.1, fun q hq => h.2 q (hp.mem_iff.mpr hq)⟩
theorem ms_vaA {X : va_W} {sz q : Nat} : va_A X sz q ↔ (∃ e : va_E, (q, e) ∈ X) ∨ sz ≤ q := by
  unfold va_A
  constructor
  · rintro (⟨k, e, h⟩ | h)
    · exact Or.inl ⟨e, List.mem_of_getElem? h⟩
    · exact Or.inr h
  · rintro (⟨e, h⟩ | h)
    · obtain ⟨k, hk⟩ := List.getElem?_of_mem h
      exact Or.inl ⟨k, e, hk⟩
    · exact Or.inr h
theorem ms_rngC {X : va_W} : (List.range X.length).map (fun i => X[i]?) = X.map some :=
  List.ext_getElem (by simp) (fun i h1 h2 => by
    have h3 : i < X.length := by simpa using h2
    rw [List.getElem_map, List.getElem_map, List.getElem_range]
    exact List.getElem?_eq_getElem h3)
theorem ms_MvF {l : Launch} {y : MethodName} {wd : List Cond} {rm : Room} {D : va_G} {cA : Nat → ClassId} {av : List Value} {ws pl : va_W} {S : Type} {post : S → Prop} {w1 : S → va_W} (h : ms_Mv l y wd rm D cA av ws post w1) : ms_Mv l y wd rm D cA av (ws ++ pl) post (fun u => w1 u ++ pl) := by
  intro sz p e ha hc hk s m args below hf happ hP hC
  obtain ⟨hav, hsz, hPp, hEV, hDd⟩ := hP
  obtain ⟨t, o, h1, h2, h3, ⟨⟨⟨u, ho, hpo, hP1, hD1⟩, hFr⟩, Lx, h5, h6⟩⟩ := h sz p e ha hc hk s m args below hf happ ⟨hav, hsz, ms_leftP hPp, hEV, ms_leftD hDd⟩ hC
  have hsub : ∀ q, va_A ws sz q → va_A (ws ++ pl) sz q := fun q hq => by
    rw [ms_vaA] at hq ⊢
    rcases hq with ⟨e, he⟩ | he
    · exact Or.inl ⟨e, List.mem_append_left _ he⟩
    · exact Or.inr he
  have hDA : va_D (va_A (ws ++ pl) sz) (ws ++ pl) := ⟨hDd.1, fun k q hk => Or.inl ⟨k, q.2, hk⟩⟩
  subst hsz
  obtain ⟨hP2, hD2⟩ := va_joinQ (wr := []) hPp hDA (List.range ws.length) [] ms_rngC rfl rfl (fun i hi => absurd hi List.not_mem_nil) hFr.2 hsub hP1 hD1
  exact ⟨t, o, h1, h2, h3, ⟨⟨⟨u, ho, hpo, hP2, hD2⟩, hFr.1, fun q a b => hFr.2 q a (fun z => b (hsub q z))⟩, Lx, h5, fun q hq => hsub _ (h6 q hq)⟩⟩
theorem ms_MvPerm {l : Launch} {y : MethodName} {wd : List Cond} {rm : Room} {D : va_G} {cA : Nat → ClassId} {av : List Value} {ws pl pl2 : va_W} {S : Type} {post : S → Prop} {w1 : S → va_W} (hp : pl.Perm pl2) (h : ms_Mv l y wd rm D cA av (ws ++ pl2) post w1) : ms_Mv l y wd rm D cA av (ws ++ pl) post w1 := by
  intro sz
  have hA : va_A (ws ++ pl) sz = va_A (ws ++ pl2) sz := funext fun q => propext (by
    rw [ms_vaA, ms_vaA]
    simp only [List.mem_append, hp.mem_iff])
  rw [hA]
  intro p e ha hc hk s m args below hf happ hP hC
  obtain ⟨hav, hsz, hPp, hEV, hDd⟩ := hP
  exact h sz p e ha hc hk s m args below hf happ ⟨hav, hsz, ms_Pperm (hp.append_left ws) hPp, hEV, ms_Dperm (hp.append_left ws) hDd⟩ hC
theorem ms_MvC {l : Launch} {y : MethodName} {wd : List Cond} {rm : Room} {D : va_G} {cA : Nat → ClassId} {av : List Value} {ws : va_W} {S S' : Type} {post : S → Prop} {w1 : S → va_W} {post' : S' → Prop} {w1' : S' → va_W} (h : ms_Mv l y wd rm D cA av ws post w1) (hq : ∀ u, post u → ∃ u', post' u' ∧ w1' u' = w1 u) : ms_Mv l y wd rm D cA av ws post' w1' := by
  intro sz p e ha hc hk s m args below hf happ hP hC
  obtain ⟨t, o, h1, h2, h3, ⟨⟨⟨u, ho, hpo, hP1, hD1⟩, hFr⟩, Lx, h5, h6⟩⟩ := h sz p e ha hc hk s m args below hf happ hP hC
  obtain ⟨u', hpo', e'⟩ := hq u hpo
  exact ⟨t, o, h1, h2, h3, ⟨⟨⟨u', ho, hpo', by rw [e']; exact hP1, by rw [e']; exact hD1⟩, hFr⟩, Lx, h5, h6⟩⟩
theorem ms_two {α : Type} {x y : α} {L : List α} (hx : x ∈ L) (hy : y ∈ L) (hn : y ≠ x) : ∃ L' : List α, L.Perm (x :: y :: L') := by
  obtain ⟨s, t, rfl⟩ := List.append_of_mem hx
  have hy2 : y ∈ s ++ t := by
    rcases List.mem_append.mp hy with h | h
    · exact List.mem_append_left _ h
    · rcases List.mem_cons.mp h with h | h
      · exact absurd h hn
      · exact List.mem_append_right _ h
  obtain ⟨s2, t2, h2⟩ := List.append_of_mem hy2
  exact ⟨s2 ++ t2, List.perm_middle.trans ((by rw [h2]; exact List.perm_middle : (s ++ t).Perm (y :: (s2 ++ t2))).cons x)⟩
/-- what a state's cell holds -/
abbrev ms_sc (b : Nat) (v1 v2 v3 v4 v5 : Int32) : va_E := .inr (8, [.ref b, .int v1, .int v2, .int v3, .int v4, .int v5])
/-- the states that the history's row names are in the pool -/
def ms_hq (cA : Nat → ClassId) (o : Nat → Option Nat) (pl : va_W) : Prop := ∀ i : Nat, i < 20 → o i = none ∨ ∃ (a b : Nat) (v1 v2 v3 v4 v5 : Int32) (f : Nat → Int32), o i = some a ∧ (a, ms_sc b v1 v2 v3 v4 v5) ∈ pl ∧ (b, (.inl (cA 0, 9, .inl f) : va_E)) ∈ pl
theorem ms_hq0 (cA : Nat → ClassId) : ms_hq cA (fun _ => none) [] := fun _ _ => Or.inl rfl
theorem ms_take {cA : Nat → ClassId} {o : Nat → Option Nat} {pl : va_W} {i a : Nat} (h : ms_hq cA o pl) (hi : i < 20) (ho : o i = some a) : ∃ (b : Nat) (v1 v2 v3 v4 v5 : Int32) (f : Nat → Int32) (pl' : va_W), pl.Perm ((a, ms_sc b v1 v2 v3 v4 v5) :: (b, (.inl (cA 0, 9, .inl f) : va_E)) :: pl') := by
  rcases h i hi with h0 | ⟨a', b, v1, v2, v3, v4, v5, f, h1, h2, h3⟩
  · rw [h0] at ho; cases ho
  · rw [h1] at ho
    cases ho
    obtain ⟨pl', hp⟩ := ms_two h2 h3 (fun q => by cases (congrArg Prod.snd q))
    exact ⟨b, v1, v2, v3, v4, v5, f, pl', hp⟩
theorem ms_hqA {cA : Nat → ClassId} {o : Nat → Option Nat} {pl : va_W} {n a b : Nat} {w1 w2 w3 w4 w5 : Int32} {g : Nat → Int32} (h : ms_hq cA o pl) : ms_hq cA (va_up o n (some a)) ((a, ms_sc b w1 w2 w3 w4 w5) :: (b, (.inl (cA 0, 9, .inl g) : va_E)) :: pl) := by
  intro i hi
  by_cases hn : i = n
  · subst hn
    exact Or.inr ⟨a, b, w1, w2, w3, w4, w5, g, va_up_self _ _ _, List.mem_cons_self, List.mem_cons_of_mem _ List.mem_cons_self⟩
  · rw [va_up_ne _ _ hn]
    rcases h i hi with h0 | ⟨a', b', v1, v2, v3, v4, v5, f, h1, h2, h3⟩
    · exact Or.inl h0
    · exact Or.inr ⟨a', b', v1, v2, v3, v4, v5, f, h1, List.mem_cons_of_mem _ (List.mem_cons_of_mem _ h2), List.mem_cons_of_mem _ (List.mem_cons_of_mem _ h3)⟩
theorem ms_hqB {cA : Nat → ClassId} {o : Nat → Option Nat} {pl pl' : va_W} {a b : Nat} {v1 v2 v3 v4 v5 w1 w2 w3 w4 w5 : Int32} {f g : Nat → Int32} (h : ms_hq cA o pl) (hp : pl.Perm ((a, ms_sc b v1 v2 v3 v4 v5) :: (b, (.inl (cA 0, 9, .inl f) : va_E)) :: pl')) : ms_hq cA o ((a, ms_sc b w1 w2 w3 w4 w5) :: (b, (.inl (cA 0, 9, .inl g) : va_E)) :: pl') := by
  intro i hi
  rcases h i hi with h0 | ⟨a', b', x1, x2, x3, x4, x5, f', h1, h2, h3⟩
  · exact Or.inl h0
  · right
    have m2 := hp.mem_iff.mp h2
    have m3 := hp.mem_iff.mp h3
    have kb : ∃ g' : Nat → Int32, (b', (.inl (cA 0, 9, .inl g') : va_E)) ∈ ((a, ms_sc b w1 w2 w3 w4 w5) :: (b, (.inl (cA 0, 9, .inl g) : va_E)) :: pl') := by
      rcases List.mem_cons.mp m3 with e | m3
      · cases (congrArg Prod.snd e)
      · rcases List.mem_cons.mp m3 with e | m3
        · have e1 : b' = b := congrArg Prod.fst e
          subst e1
          exact ⟨g, List.mem_cons_of_mem _ List.mem_cons_self⟩
        · exact ⟨f', List.mem_cons_of_mem _ (List.mem_cons_of_mem _ m3)⟩
    obtain ⟨g', hg'⟩ := kb
    rcases List.mem_cons.mp m2 with e | m2
    · have e1 : a' = a := congrArg Prod.fst e
      subst e1
      exact ⟨a', b, w1, w2, w3, w4, w5, g, h1, List.mem_cons_self, List.mem_cons_of_mem _ List.mem_cons_self⟩
    · rcases List.mem_cons.mp m2 with e | m2
      · cases (congrArg Prod.snd e)
      · exact ⟨a', b', x1, x2, x3, x4, x5, g', h1, List.mem_cons_of_mem _ (List.mem_cons_of_mem _ m2), hg'⟩
section POOLB
variable {p : Program} {l : Launch} {e : Env} {R : Room} {s : State} {m : MethodId} {args : Array Value} {below : List Frame} {meth : Method} {c : Code} {H : Heap} {locs : List Loc} {cells slots : Nat} {Q : State → Prop} {cc : ByteArray} {pc : Nat} {ls : Array Slot} {rest : List Value} {D : va_G} {cA : Nat → ClassId} {A : Nat → Prop} {S : Type}
  {ws wc wr pl : va_W} {st As : List Value} {b nL nP index maxL mc ms : Nat} {own : String} {y : MethodName} {bytes : ByteArray} {ret : Option FieldType} {Ts wd : List Cond} {rm : Room} {a : Array Value}
theorem ms_qSi {post : Int32 → S → Prop} {w1 : S → va_W} (F : CallFix p m c cc nL s args Ts own) (hE : ms_EV D cA s) (hM : ms_Mi l y wd rm D cA As wc post w1) (cw : CallB R s args own index y bytes maxL ret wd rm rm.cells rm.slots nP ∧ (Cond.static y).before args s = true)
    (hP : va_P D vwCl (ws ++ pl) H) (hD : va_D A (ws ++ pl)) (hS : va_S A s.heap H locs) (hA : ∀ q, s.heap.size ≤ q → A q) (isC isR : List Nat) (hC : isC.map (fun i => ws[i]?) = wc.map some) (hR : isR.map (fun i => ws[i]?) = wr.map some) (hnC : va_nd isC = true) (hn : va_nd isR = true) (hdis : ∀ i ∈ isR, i ∉ isC)
    (hlen : As.length = nP) (hsz : ls.size = nL) (hst : st = As.reverse ++ rest) (hW : (rest.map fun v => v.category).sum ≤ 8) (hdg : decode cc pc = .ok (.invokestatic index, 3)) (hf : cells + rm.cells ≤ R.cells ∧ slots + rm.slots ≤ R.slots)
    (kk : ∀ (r : Int32) (u : S) (H1 : Heap) (locs1 : List Loc), post r u → va_P D vwCl ((wr ++ w1 u) ++ pl) H1 → va_D A ((wr ++ w1 u) ++ pl) → va_S A s.heap H1 locs1 → W p l e R s m args below meth c H1 locs1 (cells + rm.cells) (slots + rm.slots) Q (F0 m (pc + 3) ls (.int r :: rest))) : W p l e R s m args below meth c H locs cells slots Q (F0 m pc ls st) :=
  ms_goiQ hP hD hS hA isC isR hC hR hn hdis (va_runS F (hM H.size) cw (ms_preS hE ((ms_leftP hP).sub isC (ms_fm hC)) ((ms_leftD hD).sub isC hnC hC)) rfl hlen hsz hst (lv_room hW) hdg hf) kk
theorem ms_goiP {post : Int32 → S → Prop} {w1 p1 : S → va_W} (hP : va_P D vwCl (ws ++ pl) H) (hD : va_D A (ws ++ pl)) (hS : va_S A s.heap H locs) (hA : ∀ q, s.heap.size ≤ q → A q) (isC isR : List Nat) (hC : isC.map (fun i => ws[i]?) = wc.map some) (hR : isR.map (fun i => ws[i]?) = wr.map some) (hn : va_nd isR = true) (hdis : ∀ i ∈ isR, i ∉ isC)
    (hr : va_Run p l e R s m args below meth c H locs cells slots mc ms (F0 m pc ls st) rest (ms_Qi D (va_A (wc ++ pl) H.size) post (fun u => w1 u ++ p1 u) a) (va_A (wc ++ pl) H.size))
    (kk : ∀ (r : Int32) (u : S) (H1 : Heap) (locs1 : List Loc), post r u → va_P D vwCl ((wr ++ w1 u) ++ p1 u) H1 → va_D A ((wr ++ w1 u) ++ p1 u) → va_S A s.heap H1 locs1 → W p l e R s m args below meth c H1 locs1 (cells + mc) (slots + ms) Q (F0 m (pc + 3) ls (.int r :: rest))) : W p l e R s m args below meth c H locs cells slots Q (F0 m pc ls st) := by
  have hF := va_freeP (cx := wc) hD hS hA isC hC
  refine va_calli hr hS (fun q _ h => hF q h) hF (fun r u t H1 locs1 ht hvm hw hB hz hk hS1 => ?_)
  obtain ⟨hP1, hD1⟩ := hB
  rw [ht] at hP1
  obtain ⟨hP2, hD2⟩ := va_joinP hP hD isC isR hC hR hn hdis hk hF hP1 hD1
  exact kk r u H1 locs1 hw hP2 hD2 hS1
theorem ms_pVi {post : Int32 → S → Prop} {w1 p1 : S → va_W} {qc : vw_C} {fs : List Value} (F : CallFix p m c cc nL s args Ts own) (hE : ms_EV D cA s) (hM : ms_Mi l y wd rm D cA (.ref b :: As) (wc ++ pl) post (fun u => w1 u ++ p1 u)) (cw : CallW R s args own qc.1 index y bytes maxL ret wd rm rm.cells rm.slots nP)
    (hP : va_P D vwCl (ws ++ pl) H) (hD : va_D A (ws ++ pl)) (hS : va_S A s.heap H locs) (hA : ∀ q, s.heap.size ≤ q → A q) (isC isR : List Nat) (hC : isC.map (fun i => ws[i]?) = wc.map some) (hR : isR.map (fun i => ws[i]?) = wr.map some) (hnC : va_nd isC = true) (hn : va_nd isR = true) (hdis : ∀ i ∈ isR, i ∉ isC)
    (q0 ci : Nat) (hc : vwCl[ci]? = some qc) (he : (wc ++ pl)[q0]? = some (b, .inr (ci, fs))) (hlen : As.length = nP) (hsz : ls.size = nL) (hst : st = As.reverse ++ .ref b :: rest) (hW : (rest.map fun v => v.category).sum ≤ 8) (hdg : decode cc pc = .ok (.invokevirtual index, 3)) (hf : cells + rm.cells ≤ R.cells ∧ slots + rm.slots ≤ R.slots)
    (kk : ∀ (r : Int32) (u : S) (H1 : Heap) (locs1 : List Loc), post r u → va_P D vwCl ((wr ++ w1 u) ++ p1 u) H1 → va_D A ((wr ++ w1 u) ++ p1 u) → va_S A s.heap H1 locs1 → W p l e R s m args below meth c H1 locs1 (cells + rm.cells) (slots + rm.slots) Q (F0 m (pc + 3) ls (.int r :: rest))) : W p l e R s m args below meth c H locs cells slots Q (F0 m pc ls st) :=
  ms_goiP hP hD hS hA isC isR hC hR hn hdis (va_runV F (hM H.size) cw (ms_preV hE (hP.part isC hC) (hD.part isC hnC hC) hc he) rfl hlen hsz hst (lv_room hW) hdg hf) kk
theorem rg_aald {N t0 a0 q0 : Nat} {C : String} {f : Nat → Option Nat} {i : Int32} {o : Option Nat} {lo hi : Int} {cT : ClassId} (hx : p.tables.exec = Jvm.exec) (hb : c.code = cc) (hE : ms_EV D cA s) (hP : va_P D vwCl ws H) (ha : ws[q0]? = some (a0, .inl (cT, N, .inr (.inr (.inr (.inr f)))))) (ht : (ms_TY cA)[t0]? = some (cT, .object C)) (h1 : lo ≤ i.toInt) (h2 : i.toInt ≤ hi) (g : (decide (0 ≤ lo) && decide (hi < (N : Int))) = true) (hv : f i.toNatClampNeg = o) (hdg : decode cc pc = .ok (.aaload, 1))
    (kk : W p l e R s m args below meth c H locs cells slots Q (F0 m (pc + 1) ls (va_rf o :: rest))) : W p l e R s m args below meth c H locs cells slots Q (F0 m pc ls (.int i :: .ref a0 :: rest)) := by
  simp only [Bool.and_eq_true, decide_eq_true_eq] at g
  refine va_aldq hx hb hE.1 hP q0 t0 ha ht (vp_in_iff.mpr ⟨by omega, by omega⟩) hdg ?_
  rw [hv]
  exact kk
theorem rg_aast {N t0 v a0 : Nat} {r : vw_C} {vs : List Value} {f : Nat → Option Nat} {i : Int32} {lo hi : Int} {cT : ClassId} (hx : p.tables.exec = Jvm.exec) (hb : c.code = cc) (hE : ms_EV D cA s) (hP : va_P D vwCl ws H) (hD : va_D A ws) (hS : va_S A s.heap H locs) (q0 qk ci : Nat) (ha : ws[q0]? = some (a0, .inl (cT, N, .inr (.inr (.inr (.inr f)))))) (ht : (ms_TY cA)[t0]? = some (cT, .object r.1)) (hv : ws[qk]? = some (v, .inr (ci, vs))) (hc : vwCl[ci]? = some r) (h1 : lo ≤ i.toInt) (h2 : i.toInt ≤ hi) (g : (decide (0 ≤ lo) && decide (hi < (N : Int))) = true) (hdg : decode cc pc = .ok (.aastore, 1))
    (kk : ∀ (H1 : Heap) (locs1 : List Loc), va_P D vwCl (ws.set q0 (a0, .inl (cT, N, .inr (.inr (.inr (.inr (va_up f i.toNatClampNeg (some v)))))))) H1 → va_D A (ws.set q0 (a0, .inl (cT, N, .inr (.inr (.inr (.inr (va_up f i.toNatClampNeg (some v)))))))) → va_S A s.heap H1 locs1 → W p l e R s m args below meth c H1 locs1 cells slots Q (F0 m (pc + 1) ls rest)) : W p l e R s m args below meth c H locs cells slots Q (F0 m pc ls (.ref v :: .int i :: .ref a0 :: rest)) := by
  simp only [Bool.and_eq_true, decide_eq_true_eq] at g
  exact va_astq hx hb hE.1 hP hD hS q0 t0 qk ci ha ht hv hc (vp_in_iff.mpr ⟨by omega, by omega⟩) hdg kk
end POOLB
theorem ms_popix {s1 a b z : Int32} (h1 : a.toInt = s1.toInt + (20 : Int32).toInt) (h2 : b.toInt = a.toInt - (1 : Int32).toInt) (h3 : z.toInt = b.toInt % (20 : Int32).toInt) : z.toNatClampNeg = ((s1.toInt + 19) % 20).toNat := by
  have e1 : (20 : Int32).toInt = 20 := by decide
  have e2 : (1 : Int32).toInt = 1 := by decide
  have e3 : z.toNatClampNeg = z.toInt.toNat := rfl
  rw [e3, h3, h2, h1, e1, e2]
  congr 1
  congr 1
  omega
