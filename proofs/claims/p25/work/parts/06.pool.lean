/-! worlds with a pool behind them -/
theorem ms_leftP {D : va_G} {cl : List vw_C} {X pl : va_W} {H : Heap} (h : va_P D cl (X ++ pl) H) : va_P D cl X H := fun k q hk => h k q (by
  have hl : k < X.length := (List.getElem?_eq_some_iff.mp hk).1
  rw [List.getElem?_append_left hl]; exact hk)
theorem ms_leftD {A : Nat → Prop} {X pl : va_W} (h : va_D A (X ++ pl)) : va_D A X := by
  have key : ∀ (k : Nat) (q : Nat × va_E), X[k]? = some q → (X ++ pl)[k]? = some q := fun k q hk => by
    have hl : k < X.length := (List.getElem?_eq_some_iff.mp hk).1
    rw [List.getElem?_append_left hl]; exact hk
  exact ⟨fun i j p q hi hj e => h.1 i j p q (key i p hi) (key j q hj) e, fun k q hk => h.2 k q (key k q hk)⟩
section POOL
variable {p : Program} {l : Launch} {e : Env} {R : Room} {s : State} {m : MethodId} {args : Array Value} {below : List Frame} {meth : Method} {c : Code} {H : Heap} {locs : List Loc} {cells slots : Nat} {Q : State → Prop} {cc : ByteArray} {pc : Nat} {ls : Array Slot} {rest : List Value} {D : va_G} {cA : Nat → ClassId} {A : Nat → Prop} {S : Type}
  {ws wc wr pl : va_W} {st As : List Value} {b nL nP index maxL mc ms : Nat} {own : String} {y : MethodName} {bytes : ByteArray} {ret : Option FieldType} {Ts wd : List Cond} {rm : Room} {a : Array Value}
theorem ms_goiQ {post : Int32 → S → Prop} {w1 : S → va_W} (hP : va_P D vwCl (ws ++ pl) H) (hD : va_D A (ws ++ pl)) (hS : va_S A s.heap H locs) (hA : ∀ q, s.heap.size ≤ q → A q) (isC isR : List Nat) (hC : isC.map (fun i => ws[i]?) = wc.map some) (hR : isR.map (fun i => ws[i]?) = wr.map some) (hn : va_nd isR = true) (hdis : ∀ i ∈ isR, i ∉ isC)
    (hr : va_Run p l e R s m args below meth c H locs cells slots mc ms (F0 m pc ls st) rest (ms_Qi D (va_A wc H.size) post w1 a) (va_A wc H.size))
    (kk : ∀ (r : Int32) (u : S) (H1 : Heap) (locs1 : List Loc), post r u → va_P D vwCl ((wr ++ w1 u) ++ pl) H1 → va_D A ((wr ++ w1 u) ++ pl) → va_S A s.heap H1 locs1 → W p l e R s m args below meth c H1 locs1 (cells + mc) (slots + ms) Q (F0 m (pc + 3) ls (.int r :: rest))) : W p l e R s m args below meth c H locs cells slots Q (F0 m pc ls st) := by
  have hF := va_free (wc := wc) (ms_leftD hD) hS hA isC hC
  refine va_calli hr hS (fun q _ h => hF q h) hF (fun r u t H1 locs1 ht hvm hw hB hz hk hS1 => ?_)
  obtain ⟨hP1, hD1⟩ := hB
  rw [ht] at hP1
  obtain ⟨hP2, hD2⟩ := va_joinQ hP hD isC isR hC hR hn hdis hk hF hP1 hD1
  exact kk r u H1 locs1 hw hP2 hD2 hS1
theorem ms_govQ {post : S → Prop} {w1 : S → va_W} (hP : va_P D vwCl (ws ++ pl) H) (hD : va_D A (ws ++ pl)) (hS : va_S A s.heap H locs) (hA : ∀ q, s.heap.size ≤ q → A q) (isC isR : List Nat) (hC : isC.map (fun i => ws[i]?) = wc.map some) (hR : isR.map (fun i => ws[i]?) = wr.map some) (hn : va_nd isR = true) (hdis : ∀ i ∈ isR, i ∉ isC)
    (hr : va_Run p l e R s m args below meth c H locs cells slots mc ms (F0 m pc ls st) rest (ms_Qv D (va_A wc H.size) post w1 a) (va_A wc H.size))
    (kk : ∀ (u : S) (H1 : Heap) (locs1 : List Loc), post u → va_P D vwCl ((wr ++ w1 u) ++ pl) H1 → va_D A ((wr ++ w1 u) ++ pl) → va_S A s.heap H1 locs1 → W p l e R s m args below meth c H1 locs1 (cells + mc) (slots + ms) Q (F0 m (pc + 3) ls rest)) : W p l e R s m args below meth c H locs cells slots Q (F0 m pc ls st) := by
  have hF := va_free (wc := wc) (ms_leftD hD) hS hA isC hC
  refine va_callv hr hS (fun q _ h => hF q h) hF (fun u t H1 locs1 ht hvm hw hB hz hk hS1 => ?_)
  obtain ⟨hP1, hD1⟩ := hB
  rw [ht] at hP1
  obtain ⟨hP2, hD2⟩ := va_joinQ hP hD isC isR hC hR hn hdis hk hF hP1 hD1
  exact kk u H1 locs1 hw hP2 hD2 hS1
/-- a call whose callee has the pool too -/
theorem ms_govP {post : S → Prop} {w1 p1 : S → va_W} (hP : va_P D vwCl (ws ++ pl) H) (hD : va_D A (ws ++ pl)) (hS : va_S A s.heap H locs) (hA : ∀ q, s.heap.size ≤ q → A q) (isC isR : List Nat) (hC : isC.map (fun i => ws[i]?) = wc.map some) (hR : isR.map (fun i => ws[i]?) = wr.map some) (hn : va_nd isR = true) (hdis : ∀ i ∈ isR, i ∉ isC)
    (hr : va_Run p l e R s m args below meth c H locs cells slots mc ms (F0 m pc ls st) rest (ms_Qv D (va_A (wc ++ pl) H.size) post (fun u => w1 u ++ p1 u) a) (va_A (wc ++ pl) H.size))
    (kk : ∀ (u : S) (H1 : Heap) (locs1 : List Loc), post u → va_P D vwCl ((wr ++ w1 u) ++ p1 u) H1 → va_D A ((wr ++ w1 u) ++ p1 u) → va_S A s.heap H1 locs1 → W p l e R s m args below meth c H1 locs1 (cells + mc) (slots + ms) Q (F0 m (pc + 3) ls rest)) : W p l e R s m args below meth c H locs cells slots Q (F0 m pc ls st) := by
  have hF := va_freeP (cx := wc) hD hS hA isC hC
  refine va_callv hr hS (fun q _ h => hF q h) hF (fun u t H1 locs1 ht hvm hw hB hz hk hS1 => ?_)
  obtain ⟨hP1, hD1⟩ := hB
  rw [ht] at hP1
  obtain ⟨hP2, hD2⟩ := va_joinP hP hD isC isR hC hR hn hdis hk hF hP1 hD1
  exact kk u H1 locs1 hw hP2 hD2 hS1
theorem ms_qVi {post : Int32 → S → Prop} {w1 : S → va_W} {qc : vw_C} {fs : List Value} (F : CallFix p m c cc nL s args Ts own) (hE : ms_EV D cA s) (hM : ms_Mi l y wd rm D cA (.ref b :: As) wc post w1) (cw : CallW R s args own qc.1 index y bytes maxL ret wd rm rm.cells rm.slots nP)
    (hP : va_P D vwCl (ws ++ pl) H) (hD : va_D A (ws ++ pl)) (hS : va_S A s.heap H locs) (hA : ∀ q, s.heap.size ≤ q → A q) (isC isR : List Nat) (hC : isC.map (fun i => ws[i]?) = wc.map some) (hR : isR.map (fun i => ws[i]?) = wr.map some) (hnC : va_nd isC = true) (hn : va_nd isR = true) (hdis : ∀ i ∈ isR, i ∉ isC)
    (q0 ci : Nat) (hc : vwCl[ci]? = some qc) (he : wc[q0]? = some (b, .inr (ci, fs))) (hlen : As.length = nP) (hsz : ls.size = nL) (hst : st = As.reverse ++ .ref b :: rest) (hW : (rest.map fun v => v.category).sum ≤ 8) (hdg : decode cc pc = .ok (.invokevirtual index, 3)) (hf : cells + rm.cells ≤ R.cells ∧ slots + rm.slots ≤ R.slots)
    (kk : ∀ (r : Int32) (u : S) (H1 : Heap) (locs1 : List Loc), post r u → va_P D vwCl ((wr ++ w1 u) ++ pl) H1 → va_D A ((wr ++ w1 u) ++ pl) → va_S A s.heap H1 locs1 → W p l e R s m args below meth c H1 locs1 (cells + rm.cells) (slots + rm.slots) Q (F0 m (pc + 3) ls (.int r :: rest))) : W p l e R s m args below meth c H locs cells slots Q (F0 m pc ls st) :=
  ms_goiQ hP hD hS hA isC isR hC hR hn hdis (va_runV F (hM H.size) cw (ms_preV hE ((ms_leftP hP).sub isC (ms_fm hC)) ((ms_leftD hD).sub isC hnC hC) hc he) rfl hlen hsz hst (lv_room hW) hdg hf) kk
theorem ms_qVv {post : S → Prop} {w1 : S → va_W} {qc : vw_C} {fs : List Value} (F : CallFix p m c cc nL s args Ts own) (hE : ms_EV D cA s) (hM : ms_Mv l y wd rm D cA (.ref b :: As) wc post w1) (cw : CallW R s args own qc.1 index y bytes maxL ret wd rm rm.cells rm.slots nP)
    (hP : va_P D vwCl (ws ++ pl) H) (hD : va_D A (ws ++ pl)) (hS : va_S A s.heap H locs) (hA : ∀ q, s.heap.size ≤ q → A q) (isC isR : List Nat) (hC : isC.map (fun i => ws[i]?) = wc.map some) (hR : isR.map (fun i => ws[i]?) = wr.map some) (hnC : va_nd isC = true) (hn : va_nd isR = true) (hdis : ∀ i ∈ isR, i ∉ isC)
    (q0 ci : Nat) (hc : vwCl[ci]? = some qc) (he : wc[q0]? = some (b, .inr (ci, fs))) (hlen : As.length = nP) (hsz : ls.size = nL) (hst : st = As.reverse ++ .ref b :: rest) (hW : (rest.map fun v => v.category).sum ≤ 8) (hdg : decode cc pc = .ok (.invokevirtual index, 3)) (hf : cells + rm.cells ≤ R.cells ∧ slots + rm.slots ≤ R.slots)
    (kk : ∀ (u : S) (H1 : Heap) (locs1 : List Loc), post u → va_P D vwCl ((wr ++ w1 u) ++ pl) H1 → va_D A ((wr ++ w1 u) ++ pl) → va_S A s.heap H1 locs1 → W p l e R s m args below meth c H1 locs1 (cells + rm.cells) (slots + rm.slots) Q (F0 m (pc + 3) ls rest)) : W p l e R s m args below meth c H locs cells slots Q (F0 m pc ls st) :=
  ms_govQ hP hD hS hA isC isR hC hR hn hdis (va_runV F (hM H.size) cw (ms_preV hE ((ms_leftP hP).sub isC (ms_fm hC)) ((ms_leftD hD).sub isC hnC hC) hc he) rfl hlen hsz hst (lv_room hW) hdg hf) kk
theorem ms_qNv {post : S → Prop} {w1 : S → va_W} {host : String} (F : CallFix p m c cc nL s args Ts own) (hE : ms_EV D cA s) (hM : ms_Mv l y wd rm D cA (.ref b :: As) wc post w1) (cw : va_CN R s args own index y host bytes maxL none wd rm rm.cells rm.slots nP ∧ y.name = "<init>" ∧ (Cond.instanceMethod y).before args s = true)
    (hP : va_P D vwCl (ws ++ pl) H) (hD : va_D A (ws ++ pl)) (hS : va_S A s.heap H locs) (hA : ∀ q, s.heap.size ≤ q → A q) (isC isR : List Nat) (hC : isC.map (fun i => ws[i]?) = wc.map some) (hR : isR.map (fun i => ws[i]?) = wr.map some) (hnC : va_nd isC = true) (hn : va_nd isR = true) (hdis : ∀ i ∈ isR, i ∉ isC)
    (hlen : As.length = nP) (hsz : ls.size = nL) (hst : st = As.reverse ++ .ref b :: rest) (hW : (rest.map fun v => v.category).sum ≤ 8) (hdg : decode cc pc = .ok (.invokespecial index, 3)) (hf : cells + rm.cells ≤ R.cells ∧ slots + rm.slots ≤ R.slots)
    (kk : ∀ (u : S) (H1 : Heap) (locs1 : List Loc), post u → va_P D vwCl ((wr ++ w1 u) ++ pl) H1 → va_D A ((wr ++ w1 u) ++ pl) → va_S A s.heap H1 locs1 → W p l e R s m args below meth c H1 locs1 (cells + rm.cells) (slots + rm.slots) Q (F0 m (pc + 3) ls rest)) : W p l e R s m args below meth c H locs cells slots Q (F0 m pc ls st) :=
  ms_govQ hP hD hS hA isC isR hC hR hn hdis (va_runIN F (hM H.size) cw (ms_preS hE ((ms_leftP hP).sub isC (ms_fm hC)) ((ms_leftD hD).sub isC hnC hC)) rfl hlen hsz hst (lv_room hW) hdg hf) kk
/-- a virtual call whose callee's world is some of the cells, and the pool -/
theorem ms_pVv {post : S → Prop} {w1 p1 : S → va_W} {qc : vw_C} {fs : List Value} (F : CallFix p m c cc nL s args Ts own) (hE : ms_EV D cA s) (hM : ms_Mv l y wd rm D cA (.ref b :: As) (wc ++ pl) post (fun u => w1 u ++ p1 u)) (cw : CallW R s args own qc.1 index y bytes maxL ret wd rm rm.cells rm.slots nP)
    (hP : va_P D vwCl (ws ++ pl) H) (hD : va_D A (ws ++ pl)) (hS : va_S A s.heap H locs) (hA : ∀ q, s.heap.size ≤ q → A q) (isC isR : List Nat) (hC : isC.map (fun i => ws[i]?) = wc.map some) (hR : isR.map (fun i => ws[i]?) = wr.map some) (hnC : va_nd isC = true) (hn : va_nd isR = true) (hdis : ∀ i ∈ isR, i ∉ isC)
    (q0 ci : Nat) (hc : vwCl[ci]? = some qc) (he : (wc ++ pl)[q0]? = some (b, .inr (ci, fs))) (hlen : As.length = nP) (hsz : ls.size = nL) (hst : st = As.reverse ++ .ref b :: rest) (hW : (rest.map fun v => v.category).sum ≤ 8) (hdg : decode cc pc = .ok (.invokevirtual index, 3)) (hf : cells + rm.cells ≤ R.cells ∧ slots + rm.slots ≤ R.slots)
    (kk : ∀ (u : S) (H1 : Heap) (locs1 : List Loc), post u → va_P D vwCl ((wr ++ w1 u) ++ p1 u) H1 → va_D A ((wr ++ w1 u) ++ p1 u) → va_S A s.heap H1 locs1 → W p l e R s m args below meth c H1 locs1 (cells + rm.cells) (slots + rm.slots) Q (F0 m (pc + 3) ls rest)) : W p l e R s m args below meth c H locs cells slots Q (F0 m pc ls st) :=
  ms_govP hP hD hS hA isC isR hC hR hn hdis (va_runV F (hM H.size) cw (ms_preV hE (hP.part isC hC) (hD.part isC hnC hC) hc he) rfl hlen hsz hst (lv_room hW) hdg hf) kk
end POOL
/-- the states that the history's row names are in the pool -/
def ms_hp (cA : Nat → ClassId) (o : Nat → Option Nat) (pl : va_W) : Prop := ∃ (L : List Nat) (c : Nat → va_E), pl = va_pl L c ∧ ∀ i : Nat, i < 20 → o i = none ∨ ∃ (a b : Nat) (v1 v2 v3 v4 v5 : Int32) (f : Nat → Int32), o i = some a ∧ a ∈ L ∧ b ∈ L ∧ c a = .inr (8, [.ref b, .int v1, .int v2, .int v3, .int v4, .int v5]) ∧ c b = .inl (cA 0, 9, .inl f)
theorem ms_hp0 (cA : Nat → ClassId) : ms_hp cA (fun _ => none) [] := ⟨[], fun _ => .inr (0, []), rfl, fun _ _ => Or.inl rfl⟩
/-- a Met out of Mets for each case -/
theorem ms_metc {l : Launch} {y : MethodName} {wd : List Cond} {rm : Room} {Pc : Array Value → State → Prop} {Qc : Array Value → State → Outcome → State → Prop} {mc ms : Nat} {free : Addr → Prop}
    (h : ∀ (a : Array Value) (s : State), Pc a s → ∃ (Pc' : Array Value → State → Prop) (Qc' : Array Value → State → Outcome → State → Prop) (free' : Addr → Prop), Met l y wd rm Pc' Qc' mc ms free' ∧ Pc' a s ∧ (∀ o t, Qc' a s o t → Qc a s o t) ∧ ∀ q, free' q → free q) : Met l y wd rm Pc Qc mc ms free := by
  intro p e ha hc hk s m args below hf happ hP hC
  obtain ⟨Pc', Qc', free', hM, hP', hQ, hF⟩ := h args s hP
  obtain ⟨t, o, h1, h2, h3, ⟨h4, Lx, h5, h6⟩⟩ := hM p e ha hc hk s m args below hf happ hP' hC
  exact ⟨t, o, h1, h2, h3, ⟨hQ o _ h4, Lx, h5, fun q hq => hF _ (h6 q hq)⟩⟩
