/-! the environment of every contract here: classes, array classes, what the nest's calls link -/
abbrev ms_TY (cA : Nat → ClassId) : List (ClassId × FieldType) := [(cA 0, .int), (cA 1, .boolean), (cA 2, .object RX1), (cA 3, .object RX8)]
def ms_nest : List (String × Nat × MethodName) := [(RX10, 9, yX6_init), (RX10, 18, yX2_init), (RX10, 25, yX8_init), (RX10, 32, yX0_init), (RX10, 39, yX1_init), (RX10, 46, yX5_init), (RX10, 53, yX9_init), (RX10, 60, yX3_init), (RX10, 67, yX4_init), (RX10, 74, yX7_init), (RX0, 24, yX8_init), (RX1, 9, yX8_init), (RX3, 42, yX10_isMiles), (RX6, 17, yX2_init)]
def ms_NW (U : State) : Prop := (∀ q ∈ ms_nest, va_Nw (.methodLinkNest q.1 q.2.1 q.2.2 RX10) U) ∧ va_AO RX1 U ∧ va_AO RX8 U
def ms_EV (D : va_G) (cA : Nat → ClassId) (U : State) : Prop := va_K D vwCl (ms_TY cA) U ∧ ms_NW U
theorem ms_EV.warm {D : va_G} {cA : Nat → ClassId} {s U : State} (hW : s.WarmedH U.vm) (h : ms_EV D cA s) : ms_EV D cA U :=
  ⟨va_K.moved hW.alike h.1, fun q hq => va_Nw.warmM hW (h.2.1 q hq), va_AO.moved hW.alike h.2.2.1, va_AO.moved hW.alike h.2.2.2⟩
theorem ms_EV.calling {D : va_G} {cA : Nat → ClassId} {U : State} {g : JFrame} {mk : MethodId} {a : Array Value} (h : ms_EV D cA U) : ms_EV D cA (U.calling g mk a) :=
  ⟨va_K.moved (u := U) (U := U.calling g mk a) (Vm.Alike.refl U.vm) h.1, fun q hq => va_Nw.same (u := U) (U := U.calling g mk a) rfl rfl (h.2.1 q hq), va_AO.moved (u := U) (U := U.calling g mk a) (Vm.Alike.refl U.vm) h.2.2.1, va_AO.moved (u := U) (U := U.calling g mk a) (Vm.Alike.refl U.vm) h.2.2.2⟩
def ms_P (D : va_G) (cA : Nat → ClassId) (av : List Value) (ws : va_W) (sz : Nat) : Array Value → State → Prop := va_Pc av (fun U => U.heap.size = sz ∧ va_P D vwCl ws U.heap ∧ ms_EV D cA U ∧ va_D (fun _ => True) ws)
def ms_Qi (D : va_G) (A : Nat → Prop) {S : Type} (post : Int32 → S → Prop) (w1 : S → va_W) : Array Value → State → Outcome → State → Prop := va_Qi post (fun u t => va_P D vwCl (w1 u) t.heap ∧ va_D A (w1 u)) A
def ms_Qv (D : va_G) (A : Nat → Prop) {S : Type} (post : S → Prop) (w1 : S → va_W) : Array Value → State → Outcome → State → Prop := va_Qv post (fun u t => va_P D vwCl (w1 u) t.heap ∧ va_D A (w1 u)) A
def ms_Qr (D : va_G) (A : Nat → Prop) {S : Type} (post : S → Prop) (ad : S → Nat) (w1 : S → va_W) : Array Value → State → Outcome → State → Prop := va_Qr post (fun u a t => a = ad u ∧ va_P D vwCl (w1 u) t.heap ∧ va_D A (w1 u)) A
def ms_Mi (l : Launch) (y : MethodName) (wd : List Cond) (rm : Room) (D : va_G) (cA : Nat → ClassId) (av : List Value) (ws : va_W) {S : Type} (post : Int32 → S → Prop) (w1 : S → va_W) : Prop := ∀ sz : Nat, Met l y wd rm (ms_P D cA av ws sz) (ms_Qi D (va_A ws sz) post w1) rm.cells rm.slots (va_A ws sz)
def ms_Mv (l : Launch) (y : MethodName) (wd : List Cond) (rm : Room) (D : va_G) (cA : Nat → ClassId) (av : List Value) (ws : va_W) {S : Type} (post : S → Prop) (w1 : S → va_W) : Prop := ∀ sz : Nat, Met l y wd rm (ms_P D cA av ws sz) (ms_Qv D (va_A ws sz) post w1) rm.cells rm.slots (va_A ws sz)
def ms_Mr (l : Launch) (y : MethodName) (wd : List Cond) (rm : Room) (D : va_G) (cA : Nat → ClassId) (av : List Value) (ws : va_W) {S : Type} (post : S → Prop) (ad : S → Nat) (w1 : S → va_W) : Prop := ∀ sz : Nat, Met l y wd rm (ms_P D cA av ws sz) (ms_Qr D (va_A ws sz) post ad w1) rm.cells rm.slots (va_A ws sz)
def ms_at (p : Program) (s : State) (m : MethodId) (args : Array Value) (meth : Method) (c : Code) (y : MethodName) (wd : List Cond) (cc : ByteArray) (maxL : Nat) (ret : Option FieldType) : Prop :=
  p.tables.exec = Jvm.exec ∧ c.code = cc ∧ meth.sig.returnType = ret ∧ c.maxLocals = maxL ∧ s.vm.findClass y.cls = some m.cls ∧ (∀ w ∈ wd, w.before args s = true) ∧ meth.locks = false ∧ meth.name = y.name
/-- a method's body, from its entry, to any end Qc -/
theorem ms_of {l : Launch} {y : MethodName} {wd wd' : List Cond} {rm : Room} {D : va_G} {cA : Nat → ClassId} {av : List Value} {ws : va_W} {Qc : (Nat → Prop) → Array Value → State → Outcome → State → Prop} {cc : ByteArray} {maxL : Nat} {ret : Option FieldType}
    (hy : plainName y.cls = true) (hw : wd = Cond.code y cc maxL ret :: wd') (hn : (lg_sl av).length ≤ maxL)
    (body : ∀ (p : Program) (e : Env) (s : State) (m : MethodId) (args : Array Value) (below : List Frame) (meth : Method) (c : Code) (A : Nat → Prop) (ls : Array Slot), ms_at p s m args meth c y wd cc maxL ret → ms_EV D cA s → (∀ q, s.heap.size ≤ q → A q) → va_P D vwCl ws s.heap → va_D A ws → va_S A s.heap s.heap [] → lv_has ls maxL (lv_args 0 av) → W p l e rm s m args below meth c s.heap [] 0 0 (MQ below (Qc A) args s rm.cells rm.slots A) (F0 m 0 ls [])) :
    ∀ sz : Nat, Met l y wd rm (ms_P D cA av ws sz) (Qc (va_A ws sz)) rm.cells rm.slots (va_A ws sz) := by
  intro sz
  refine Met.ofW (cc := cc) (maxL := maxL) (ret := ret) hy hw ?_
  intro p e s m args below meth c s₁ B hml hv
  obtain ⟨rfl, hsz, hP, hK, hD0⟩ := hv
  have hts := atoms_spec (ws := wd) B.pre
  rw [lg_entry_eq]
  subst hsz
  exact body p e s m _ below meth c (va_A ws s.heap.size) _ ⟨B.exec, B.bytes, B.returns, hml, findClass_of_methodNamed B.named, hts, B.notSynchronized, (name_of_methodNamed B.named B.method).1⟩ hK (fun q h => Or.inr h) hP hD0.self va_S.rf (lv_entry av hn)
theorem ms_fm {α : Type} {f : Nat → Option α} : ∀ {is : List Nat} {w : List α}, is.map f = w.map some → is.filterMap f = w
  | [], [], _ => rfl
  | [], _ :: _, h => by cases h
  | _ :: _, [], h => by cases h
  | i :: is, a :: w, h => by
    injection h with h1 h2
    rw [List.filterMap_cons, h1]
    exact congrArg (a :: ·) (ms_fm h2)
section MSB
variable {p : Program} {l : Launch} {e : Env} {R : Room} {s : State} {m : MethodId} {args : Array Value} {below : List Frame} {meth : Method} {c : Code} {H : Heap} {locs : List Loc} {cells slots : Nat} {Q : State → Prop} {cc : ByteArray} {pc : Nat} {ls : Array Slot} {rest : List Value} {D : va_G} {cA : Nat → ClassId} {A : Nat → Prop} {S : Type} {k n : Nat} {v : Int32}
theorem ms_iret {post : Int32 → S → Prop} {w1 : S → va_W} (hx : p.tables.exec = Jvm.exec) (hb : c.code = cc) (hr : meth.sig.returnType = some .int) (hlk : meth.locks = false) (u : S) (hp : post v u) (hP : va_P D vwCl (w1 u) H) (hD : va_D A (w1 u)) (hS : va_S A s.heap H locs) (hc : cells ≤ k) (hs : slots ≤ n) (hdg : decode cc pc = .ok (.ireturn, 1)) : W p l e R s m args below meth c H locs cells slots (MQ below (ms_Qi D A post w1) args s k n A) (F0 m pc ls [.int v]) := by
  refine W.widen hc hs ?_
  exact W.iret hx hb hr (fun t ht hW => ⟨⟨v, u, rfl, hp, by rw [ht]; exact hP, hD⟩, hS.F ht⟩) hS.2.2 hdg hlk
theorem ms_zret {post : Int32 → S → Prop} {w1 : S → va_W} {ty : FieldType} (hx : p.tables.exec = Jvm.exec) (hb : c.code = cc) (hr : meth.sig.returnType = some ty) (hn : narrow ty (.int v) = .int v) (hlk : meth.locks = false) (u : S) (hp : post v u) (hP : va_P D vwCl (w1 u) H) (hD : va_D A (w1 u)) (hS : va_S A s.heap H locs) (hc : cells ≤ k) (hs : slots ≤ n) (hdg : decode cc pc = .ok (.ireturn, 1)) : W p l e R s m args below meth c H locs cells slots (MQ below (ms_Qi D A post w1) args s k n A) (F0 m pc ls [.int v]) := by
  refine W.widen hc hs ?_
  exact W.zret hx hb hr hn (fun t ht hW => ⟨⟨v, u, rfl, hp, by rw [ht]; exact hP, hD⟩, hS.F ht⟩) hS.2.2 hdg hlk
theorem ms_vret {post : S → Prop} {w1 : S → va_W} (hx : p.tables.exec = Jvm.exec) (hb : c.code = cc) (hr : meth.sig.returnType = none) (hlk : meth.locks = false) (u : S) (hp : post u) (hP : va_P D vwCl (w1 u) H) (hD : va_D A (w1 u)) (hS : va_S A s.heap H locs) (hc : cells ≤ k) (hs : slots ≤ n) (hdg : decode cc pc = .ok (.return_, 1)) : W p l e R s m args below meth c H locs cells slots (MQ below (ms_Qv D A post w1) args s k n A) (F0 m pc ls []) := by
  refine W.widen hc hs ?_
  exact W.vret hx hb hr (fun t ht hW => ⟨⟨u, rfl, hp, by rw [ht]; exact hP, hD⟩, hS.F ht⟩) hS.2.2 hdg hlk
theorem ms_aret {post : S → Prop} {ad : S → Nat} {w1 : S → va_W} {a : Nat} {rt : FieldType} (hx : p.tables.exec = Jvm.exec) (hb : c.code = cc) (hr : meth.sig.returnType = some rt) (hrt : (∃ n, rt = .object n) ∨ ∃ t, rt = .array t) (hlk : meth.locks = false) (u : S) (ha : a = ad u) (hp : post u) (hP : va_P D vwCl (w1 u) H) (hD : va_D A (w1 u)) (hS : va_S A s.heap H locs) (hc : cells ≤ k) (hs : slots ≤ n) (hdg : decode cc pc = .ok (.areturn, 1)) : W p l e R s m args below meth c H locs cells slots (MQ below (ms_Qr D A post ad w1) args s k n A) (F0 m pc ls [.ref a]) := by
  refine W.widen hc hs ?_
  exact W.aret hx hb hr hrt (Or.inr ⟨a, rfl⟩) (fun t ht hW => ⟨⟨u, a, rfl, hp, ha, by rw [ht]; exact hP, hD⟩, hS.F ht⟩) hS.2.2 hdg hlk
theorem ms_blind {av : List Value} {ws : va_W} {sz : Nat} : FrameBlind (ms_P D cA av ws sz) := fun a U g mk q => by
  obtain ⟨q0, q1, qP, qK, qD⟩ := q
  exact ⟨q0, q1, qP, qK.calling, qD⟩
theorem ms_preS {As : List Value} {wc : va_W} (hE : ms_EV D cA s) (hP : va_P D vwCl wc H) (hD : va_D A wc) : PreS s H (ms_P D cA As wc H.size) As :=
  ⟨ms_blind, fun U hU hW => ⟨rfl, by rw [hU], by rw [hU]; exact hP, hE.warm hW, hD.weaken (fun _ _ _ _ => trivial)⟩⟩
theorem ms_preV {As : List Value} {wc : va_W} {b q0 ci : Nat} {qc : vw_C} {fs : List Value} (hE : ms_EV D cA s) (hP : va_P D vwCl wc H) (hD : va_D A wc) (hc : vwCl[ci]? = some qc) (he : wc[q0]? = some (b, .inr (ci, fs))) : PreV s H qc.1 b (ms_P D cA (.ref b :: As) wc H.size) As :=
  ⟨ms_blind, va_recv hE.1 hP hc he, fun U hU hW => ⟨rfl, by rw [hU], by rw [hU]; exact hP, hE.warm hW, hD.weaken (fun _ _ _ _ => trivial)⟩⟩
section GO
variable {ws wc wr : va_W} {st : List Value} {mc ms : Nat} {a : Array Value}
theorem ms_goi {post : Int32 → S → Prop} {w1 : S → va_W} (hP : va_P D vwCl ws H) (hD : va_D A ws) (hS : va_S A s.heap H locs) (hA : ∀ q, s.heap.size ≤ q → A q) (isC isR : List Nat) (hC : isC.map (fun i => ws[i]?) = wc.map some) (hR : isR.map (fun i => ws[i]?) = wr.map some) (hn : va_nd isR = true) (hdis : ∀ i ∈ isR, i ∉ isC)
    (hr : va_Run p l e R s m args below meth c H locs cells slots mc ms (F0 m pc ls st) rest (ms_Qi D (va_A wc H.size) post w1 a) (va_A wc H.size))
    (kk : ∀ (r : Int32) (u : S) (H1 : Heap) (locs1 : List Loc), post r u → va_P D vwCl (wr ++ w1 u) H1 → va_D A (wr ++ w1 u) → va_S A s.heap H1 locs1 → W p l e R s m args below meth c H1 locs1 (cells + mc) (slots + ms) Q (F0 m (pc + 3) ls (.int r :: rest))) : W p l e R s m args below meth c H locs cells slots Q (F0 m pc ls st) := by
  have hF := va_free (wc := wc) hD hS hA isC hC
  refine va_calli hr hS (fun q _ h => hF q h) hF (fun r u t H1 locs1 ht hvm hw hB hz hk hS1 => ?_)
  obtain ⟨hP1, hD1⟩ := hB
  rw [ht] at hP1
  obtain ⟨hP2, hD2⟩ := va_join hP hD isC isR hC hR hn hdis hk hF hP1 hD1
  exact kk r u H1 locs1 hw hP2 hD2 hS1
theorem ms_gov {post : S → Prop} {w1 : S → va_W} (hP : va_P D vwCl ws H) (hD : va_D A ws) (hS : va_S A s.heap H locs) (hA : ∀ q, s.heap.size ≤ q → A q) (isC isR : List Nat) (hC : isC.map (fun i => ws[i]?) = wc.map some) (hR : isR.map (fun i => ws[i]?) = wr.map some) (hn : va_nd isR = true) (hdis : ∀ i ∈ isR, i ∉ isC)
    (hr : va_Run p l e R s m args below meth c H locs cells slots mc ms (F0 m pc ls st) rest (ms_Qv D (va_A wc H.size) post w1 a) (va_A wc H.size))
    (kk : ∀ (u : S) (H1 : Heap) (locs1 : List Loc), post u → va_P D vwCl (wr ++ w1 u) H1 → va_D A (wr ++ w1 u) → va_S A s.heap H1 locs1 → W p l e R s m args below meth c H1 locs1 (cells + mc) (slots + ms) Q (F0 m (pc + 3) ls rest)) : W p l e R s m args below meth c H locs cells slots Q (F0 m pc ls st) := by
  have hF := va_free (wc := wc) hD hS hA isC hC
  refine va_callv hr hS (fun q _ h => hF q h) hF (fun u t H1 locs1 ht hvm hw hB hz hk hS1 => ?_)
  obtain ⟨hP1, hD1⟩ := hB
  rw [ht] at hP1
  obtain ⟨hP2, hD2⟩ := va_join hP hD isC isR hC hR hn hdis hk hF hP1 hD1
  exact kk u H1 locs1 hw hP2 hD2 hS1
theorem ms_gor {post : S → Prop} {ad : S → Nat} {w1 : S → va_W} (hP : va_P D vwCl ws H) (hD : va_D A ws) (hS : va_S A s.heap H locs) (hA : ∀ q, s.heap.size ≤ q → A q) (isC isR : List Nat) (hC : isC.map (fun i => ws[i]?) = wc.map some) (hR : isR.map (fun i => ws[i]?) = wr.map some) (hn : va_nd isR = true) (hdis : ∀ i ∈ isR, i ∉ isC)
    (hr : va_Run p l e R s m args below meth c H locs cells slots mc ms (F0 m pc ls st) rest (ms_Qr D (va_A wc H.size) post ad w1 a) (va_A wc H.size))
    (kk : ∀ (u : S) (H1 : Heap) (locs1 : List Loc), post u → va_P D vwCl (wr ++ w1 u) H1 → va_D A (wr ++ w1 u) → va_S A s.heap H1 locs1 → W p l e R s m args below meth c H1 locs1 (cells + mc) (slots + ms) Q (F0 m (pc + 3) ls (.ref (ad u) :: rest))) : W p l e R s m args below meth c H locs cells slots Q (F0 m pc ls st) := by
  have hF := va_free (wc := wc) hD hS hA isC hC
  refine va_callr hr hS (fun q _ h => hF q h) hF (fun u ra t H1 locs1 ht hvm hw hB hz hk hS1 => ?_)
  obtain ⟨hra, hP1, hD1⟩ := hB
  rw [ht] at hP1
  obtain ⟨hP2, hD2⟩ := va_join hP hD isC isR hC hR hn hdis hk hF hP1 hD1
  subst hra
  exact kk u H1 locs1 hw hP2 hD2 hS1
end GO
section CALLS
variable {ws wc wr : va_W} {st As : List Value} {b nL nP index maxL : Nat} {own : String} {y : MethodName} {bytes : ByteArray} {ret : Option FieldType} {Ts wd : List Cond} {rm : Room}
theorem ms_cVi {post : Int32 → S → Prop} {w1 : S → va_W} {qc : vw_C} {fs : List Value} (F : CallFix p m c cc nL s args Ts own) (hE : ms_EV D cA s) (hM : ms_Mi l y wd rm D cA (.ref b :: As) wc post w1) (cw : CallW R s args own qc.1 index y bytes maxL ret wd rm rm.cells rm.slots nP)
    (hP : va_P D vwCl ws H) (hD : va_D A ws) (hS : va_S A s.heap H locs) (hA : ∀ q, s.heap.size ≤ q → A q) (isC isR : List Nat) (hC : isC.map (fun i => ws[i]?) = wc.map some) (hR : isR.map (fun i => ws[i]?) = wr.map some) (hnC : va_nd isC = true) (hn : va_nd isR = true) (hdis : ∀ i ∈ isR, i ∉ isC)
    (q0 ci : Nat) (hc : vwCl[ci]? = some qc) (he : wc[q0]? = some (b, .inr (ci, fs))) (hlen : As.length = nP) (hsz : ls.size = nL) (hst : st = As.reverse ++ .ref b :: rest) (hW : (rest.map fun v => v.category).sum ≤ 8) (hdg : decode cc pc = .ok (.invokevirtual index, 3)) (hf : cells + rm.cells ≤ R.cells ∧ slots + rm.slots ≤ R.slots)
    (kk : ∀ (r : Int32) (u : S) (H1 : Heap) (locs1 : List Loc), post r u → va_P D vwCl (wr ++ w1 u) H1 → va_D A (wr ++ w1 u) → va_S A s.heap H1 locs1 → W p l e R s m args below meth c H1 locs1 (cells + rm.cells) (slots + rm.slots) Q (F0 m (pc + 3) ls (.int r :: rest))) : W p l e R s m args below meth c H locs cells slots Q (F0 m pc ls st) :=
  ms_goi hP hD hS hA isC isR hC hR hn hdis (va_runV F (hM H.size) cw (ms_preV hE (hP.sub isC (ms_fm hC)) (hD.sub isC hnC hC) hc he) rfl hlen hsz hst (lv_room hW) hdg hf) kk
theorem ms_cVv {post : S → Prop} {w1 : S → va_W} {qc : vw_C} {fs : List Value} (F : CallFix p m c cc nL s args Ts own) (hE : ms_EV D cA s) (hM : ms_Mv l y wd rm D cA (.ref b :: As) wc post w1) (cw : CallW R s args own qc.1 index y bytes maxL ret wd rm rm.cells rm.slots nP)
    (hP : va_P D vwCl ws H) (hD : va_D A ws) (hS : va_S A s.heap H locs) (hA : ∀ q, s.heap.size ≤ q → A q) (isC isR : List Nat) (hC : isC.map (fun i => ws[i]?) = wc.map some) (hR : isR.map (fun i => ws[i]?) = wr.map some) (hnC : va_nd isC = true) (hn : va_nd isR = true) (hdis : ∀ i ∈ isR, i ∉ isC)
    (q0 ci : Nat) (hc : vwCl[ci]? = some qc) (he : wc[q0]? = some (b, .inr (ci, fs))) (hlen : As.length = nP) (hsz : ls.size = nL) (hst : st = As.reverse ++ .ref b :: rest) (hW : (rest.map fun v => v.category).sum ≤ 8) (hdg : decode cc pc = .ok (.invokevirtual index, 3)) (hf : cells + rm.cells ≤ R.cells ∧ slots + rm.slots ≤ R.slots)
    (kk : ∀ (u : S) (H1 : Heap) (locs1 : List Loc), post u → va_P D vwCl (wr ++ w1 u) H1 → va_D A (wr ++ w1 u) → va_S A s.heap H1 locs1 → W p l e R s m args below meth c H1 locs1 (cells + rm.cells) (slots + rm.slots) Q (F0 m (pc + 3) ls rest)) : W p l e R s m args below meth c H locs cells slots Q (F0 m pc ls st) :=
  ms_gov hP hD hS hA isC isR hC hR hn hdis (va_runV F (hM H.size) cw (ms_preV hE (hP.sub isC (ms_fm hC)) (hD.sub isC hnC hC) hc he) rfl hlen hsz hst (lv_room hW) hdg hf) kk
theorem ms_cVr {post : S → Prop} {ad : S → Nat} {w1 : S → va_W} {qc : vw_C} {fs : List Value} (F : CallFix p m c cc nL s args Ts own) (hE : ms_EV D cA s) (hM : ms_Mr l y wd rm D cA (.ref b :: As) wc post ad w1) (cw : CallW R s args own qc.1 index y bytes maxL ret wd rm rm.cells rm.slots nP)
    (hP : va_P D vwCl ws H) (hD : va_D A ws) (hS : va_S A s.heap H locs) (hA : ∀ q, s.heap.size ≤ q → A q) (isC isR : List Nat) (hC : isC.map (fun i => ws[i]?) = wc.map some) (hR : isR.map (fun i => ws[i]?) = wr.map some) (hnC : va_nd isC = true) (hn : va_nd isR = true) (hdis : ∀ i ∈ isR, i ∉ isC)
    (q0 ci : Nat) (hc : vwCl[ci]? = some qc) (he : wc[q0]? = some (b, .inr (ci, fs))) (hlen : As.length = nP) (hsz : ls.size = nL) (hst : st = As.reverse ++ .ref b :: rest) (hW : (rest.map fun v => v.category).sum ≤ 8) (hdg : decode cc pc = .ok (.invokevirtual index, 3)) (hf : cells + rm.cells ≤ R.cells ∧ slots + rm.slots ≤ R.slots)
    (kk : ∀ (u : S) (H1 : Heap) (locs1 : List Loc), post u → va_P D vwCl (wr ++ w1 u) H1 → va_D A (wr ++ w1 u) → va_S A s.heap H1 locs1 → W p l e R s m args below meth c H1 locs1 (cells + rm.cells) (slots + rm.slots) Q (F0 m (pc + 3) ls (.ref (ad u) :: rest))) : W p l e R s m args below meth c H locs cells slots Q (F0 m pc ls st) :=
  ms_gor hP hD hS hA isC isR hC hR hn hdis (va_runV F (hM H.size) cw (ms_preV hE (hP.sub isC (ms_fm hC)) (hD.sub isC hnC hC) hc he) rfl hlen hsz hst (lv_room hW) hdg hf) kk
theorem ms_cSi {post : Int32 → S → Prop} {w1 : S → va_W} (F : CallFix p m c cc nL s args Ts own) (hE : ms_EV D cA s) (hM : ms_Mi l y wd rm D cA As wc post w1) (cw : CallB R s args own index y bytes maxL ret wd rm rm.cells rm.slots nP ∧ (Cond.static y).before args s = true)
    (hP : va_P D vwCl ws H) (hD : va_D A ws) (hS : va_S A s.heap H locs) (hA : ∀ q, s.heap.size ≤ q → A q) (isC isR : List Nat) (hC : isC.map (fun i => ws[i]?) = wc.map some) (hR : isR.map (fun i => ws[i]?) = wr.map some) (hnC : va_nd isC = true) (hn : va_nd isR = true) (hdis : ∀ i ∈ isR, i ∉ isC)
    (hlen : As.length = nP) (hsz : ls.size = nL) (hst : st = As.reverse ++ rest) (hW : (rest.map fun v => v.category).sum ≤ 8) (hdg : decode cc pc = .ok (.invokestatic index, 3)) (hf : cells + rm.cells ≤ R.cells ∧ slots + rm.slots ≤ R.slots)
    (kk : ∀ (r : Int32) (u : S) (H1 : Heap) (locs1 : List Loc), post r u → va_P D vwCl (wr ++ w1 u) H1 → va_D A (wr ++ w1 u) → va_S A s.heap H1 locs1 → W p l e R s m args below meth c H1 locs1 (cells + rm.cells) (slots + rm.slots) Q (F0 m (pc + 3) ls (.int r :: rest))) : W p l e R s m args below meth c H locs cells slots Q (F0 m pc ls st) :=
  ms_goi hP hD hS hA isC isR hC hR hn hdis (va_runS F (hM H.size) cw (ms_preS hE (hP.sub isC (ms_fm hC)) (hD.sub isC hnC hC)) rfl hlen hsz hst (lv_room hW) hdg hf) kk
theorem ms_cSv {post : S → Prop} {w1 : S → va_W} (F : CallFix p m c cc nL s args Ts own) (hE : ms_EV D cA s) (hM : ms_Mv l y wd rm D cA As wc post w1) (cw : CallB R s args own index y bytes maxL ret wd rm rm.cells rm.slots nP ∧ (Cond.static y).before args s = true)
    (hP : va_P D vwCl ws H) (hD : va_D A ws) (hS : va_S A s.heap H locs) (hA : ∀ q, s.heap.size ≤ q → A q) (isC isR : List Nat) (hC : isC.map (fun i => ws[i]?) = wc.map some) (hR : isR.map (fun i => ws[i]?) = wr.map some) (hnC : va_nd isC = true) (hn : va_nd isR = true) (hdis : ∀ i ∈ isR, i ∉ isC)
    (hlen : As.length = nP) (hsz : ls.size = nL) (hst : st = As.reverse ++ rest) (hW : (rest.map fun v => v.category).sum ≤ 8) (hdg : decode cc pc = .ok (.invokestatic index, 3)) (hf : cells + rm.cells ≤ R.cells ∧ slots + rm.slots ≤ R.slots)
    (kk : ∀ (u : S) (H1 : Heap) (locs1 : List Loc), post u → va_P D vwCl (wr ++ w1 u) H1 → va_D A (wr ++ w1 u) → va_S A s.heap H1 locs1 → W p l e R s m args below meth c H1 locs1 (cells + rm.cells) (slots + rm.slots) Q (F0 m (pc + 3) ls rest)) : W p l e R s m args below meth c H locs cells slots Q (F0 m pc ls st) :=
  ms_gov hP hD hS hA isC isR hC hR hn hdis (va_runS F (hM H.size) cw (ms_preS hE (hP.sub isC (ms_fm hC)) (hD.sub isC hnC hC)) rfl hlen hsz hst (lv_room hW) hdg hf) kk
theorem ms_cIv {post : S → Prop} {w1 : S → va_W} (F : CallFix p m c cc nL s args Ts own) (hE : ms_EV D cA s) (hM : ms_Mv l y wd rm D cA (.ref b :: As) wc post w1) (cw : CallB R s args own index y bytes maxL none wd rm rm.cells rm.slots nP ∧ y.name = "<init>" ∧ (Cond.instanceMethod y).before args s = true)
    (hP : va_P D vwCl ws H) (hD : va_D A ws) (hS : va_S A s.heap H locs) (hA : ∀ q, s.heap.size ≤ q → A q) (isC isR : List Nat) (hC : isC.map (fun i => ws[i]?) = wc.map some) (hR : isR.map (fun i => ws[i]?) = wr.map some) (hnC : va_nd isC = true) (hn : va_nd isR = true) (hdis : ∀ i ∈ isR, i ∉ isC)
    (hlen : As.length = nP) (hsz : ls.size = nL) (hst : st = As.reverse ++ .ref b :: rest) (hW : (rest.map fun v => v.category).sum ≤ 8) (hdg : decode cc pc = .ok (.invokespecial index, 3)) (hf : cells + rm.cells ≤ R.cells ∧ slots + rm.slots ≤ R.slots)
    (kk : ∀ (u : S) (H1 : Heap) (locs1 : List Loc), post u → va_P D vwCl (wr ++ w1 u) H1 → va_D A (wr ++ w1 u) → va_S A s.heap H1 locs1 → W p l e R s m args below meth c H1 locs1 (cells + rm.cells) (slots + rm.slots) Q (F0 m (pc + 3) ls rest)) : W p l e R s m args below meth c H locs cells slots Q (F0 m pc ls st) :=
  ms_gov hP hD hS hA isC isR hC hR hn hdis (va_runI F (hM H.size) cw (ms_preS hE (hP.sub isC (ms_fm hC)) (hD.sub isC hnC hC)) rfl hlen hsz hst (lv_room hW) hdg hf) kk
theorem ms_cNv {post : S → Prop} {w1 : S → va_W} {host : String} (F : CallFix p m c cc nL s args Ts own) (hE : ms_EV D cA s) (hM : ms_Mv l y wd rm D cA (.ref b :: As) wc post w1) (cw : va_CN R s args own index y host bytes maxL none wd rm rm.cells rm.slots nP ∧ y.name = "<init>" ∧ (Cond.instanceMethod y).before args s = true)
    (hP : va_P D vwCl ws H) (hD : va_D A ws) (hS : va_S A s.heap H locs) (hA : ∀ q, s.heap.size ≤ q → A q) (isC isR : List Nat) (hC : isC.map (fun i => ws[i]?) = wc.map some) (hR : isR.map (fun i => ws[i]?) = wr.map some) (hnC : va_nd isC = true) (hn : va_nd isR = true) (hdis : ∀ i ∈ isR, i ∉ isC)
    (hlen : As.length = nP) (hsz : ls.size = nL) (hst : st = As.reverse ++ .ref b :: rest) (hW : (rest.map fun v => v.category).sum ≤ 8) (hdg : decode cc pc = .ok (.invokespecial index, 3)) (hf : cells + rm.cells ≤ R.cells ∧ slots + rm.slots ≤ R.slots)
    (kk : ∀ (u : S) (H1 : Heap) (locs1 : List Loc), post u → va_P D vwCl (wr ++ w1 u) H1 → va_D A (wr ++ w1 u) → va_S A s.heap H1 locs1 → W p l e R s m args below meth c H1 locs1 (cells + rm.cells) (slots + rm.slots) Q (F0 m (pc + 3) ls rest)) : W p l e R s m args below meth c H locs cells slots Q (F0 m pc ls st) :=
  ms_gov hP hD hS hA isC isR hC hR hn hdis (va_runIN F (hM H.size) cw (ms_preS hE (hP.sub isC (ms_fm hC)) (hD.sub isC hnC hC)) rfl hlen hsz hst (lv_room hW) hdg hf) kk
end CALLS
/-- the number on top, by another name -/
theorem ms_eqi {x y : Int32} (h : x = y) (kk : W p l e R s m args below meth c H locs cells slots Q (F0 m pc ls (.int y :: rest))) : W p l e R s m args below meth c H locs cells slots Q (F0 m pc ls (.int x :: rest)) := by subst h; exact kk
theorem ms_eqv {x y : Value} (h : x = y) (kk : W p l e R s m args below meth c H locs cells slots Q (F0 m pc ls (y :: rest))) : W p l e R s m args below meth c H locs cells slots Q (F0 m pc ls (x :: rest)) := by subst h; exact kk
section ARR
variable {ws : va_W} {a : Nat}
theorem ms_ix {i : Int32} {k N : Nat} (hi : i = nI k) (hk : k < N) (hN : N < 2 ^ 31) : vp_in i N ∧ i.toNatClampNeg = k := by
  subst hi
  exact ⟨vp_in_nI hk hN, nI_clamp (Nat.lt_trans hk hN)⟩
theorem ms_iald {N : Nat} {f : Nat → Int32} {i x : Int32} (hx : p.tables.exec = Jvm.exec) (hb : c.code = cc) (hE : ms_EV D cA s) (hP : va_P D vwCl ws H) (q0 : Nat) (ha : ws[q0]? = some (a, .inl (cA 0, N, .inl f))) (k : Nat) (hi : i = nI k) (hk : k < N) (hN : N < 2 ^ 31) (hv : f k = x) (hdg : decode cc pc = .ok (.iaload, 1))
    (kk : W p l e R s m args below meth c H locs cells slots Q (F0 m (pc + 1) ls (.int x :: rest))) : W p l e R s m args below meth c H locs cells slots Q (F0 m pc ls (.int i :: .ref a :: rest)) := by
  obtain ⟨h1, h2⟩ := ms_ix hi hk hN
  refine va_iald hx hb hE.1 hP q0 0 ha rfl h1 hdg ?_
  rw [h2, hv]
  exact kk
theorem ms_zald {N : Nat} {f : Nat → Int32} {i x : Int32} (hx : p.tables.exec = Jvm.exec) (hb : c.code = cc) (hE : ms_EV D cA s) (hP : va_P D vwCl ws H) (q0 : Nat) (ha : ws[q0]? = some (a, .inl (cA 1, N, .inl f))) (k : Nat) (hi : i = nI k) (hk : k < N) (hN : N < 2 ^ 31) (hv : f k = x) (hdg : decode cc pc = .ok (.baload, 1))
    (kk : W p l e R s m args below meth c H locs cells slots Q (F0 m (pc + 1) ls (.int x :: rest))) : W p l e R s m args below meth c H locs cells slots Q (F0 m pc ls (.int i :: .ref a :: rest)) := by
  obtain ⟨h1, h2⟩ := ms_ix hi hk hN
  refine va_zald hx hb hE.1 hP q0 1 ha rfl h1 hdg ?_
  rw [h2, hv]
  exact kk
theorem ms_iast {N : Nat} {f g : Nat → Int32} {i x : Int32} (hx : p.tables.exec = Jvm.exec) (hb : c.code = cc) (hE : ms_EV D cA s) (hP : va_P D vwCl ws H) (hD : va_D A ws) (hS : va_S A s.heap H locs) (q0 : Nat) (ha : ws[q0]? = some (a, .inl (cA 0, N, .inl f))) (k : Nat) (hi : i = nI k) (hk : k < N) (hN : N < 2 ^ 31) (hg : upd f k x = g) (hdg : decode cc pc = .ok (.iastore, 1))
    (kk : ∀ (H1 : Heap) (locs1 : List Loc), va_P D vwCl (ws.set q0 (a, .inl (cA 0, N, .inl g))) H1 → va_D A (ws.set q0 (a, .inl (cA 0, N, .inl g))) → va_S A s.heap H1 locs1 → W p l e R s m args below meth c H1 locs1 cells slots Q (F0 m (pc + 1) ls rest)) : W p l e R s m args below meth c H locs cells slots Q (F0 m pc ls (.int x :: .int i :: .ref a :: rest)) := by
  obtain ⟨h1, h2⟩ := ms_ix hi hk hN
  refine va_iast hx hb hE.1 hP hD hS q0 0 ha rfl h1 hdg (fun H1 locs1 hP1 hD1 hS1 => ?_)
  rw [h2, hg] at hP1 hD1
  exact kk H1 locs1 hP1 hD1 hS1
theorem ms_zast {N : Nat} {f g : Nat → Int32} {i x : Int32} (hx : p.tables.exec = Jvm.exec) (hb : c.code = cc) (hE : ms_EV D cA s) (hP : va_P D vwCl ws H) (hD : va_D A ws) (hS : va_S A s.heap H locs) (q0 : Nat) (ha : ws[q0]? = some (a, .inl (cA 1, N, .inl f))) (k : Nat) (hi : i = nI k) (hk : k < N) (hN : N < 2 ^ 31) (hg : upd f k (vp_nar .boolean x) = g) (hdg : decode cc pc = .ok (.bastore, 1))
    (kk : ∀ (H1 : Heap) (locs1 : List Loc), va_P D vwCl (ws.set q0 (a, .inl (cA 1, N, .inl g))) H1 → va_D A (ws.set q0 (a, .inl (cA 1, N, .inl g))) → va_S A s.heap H1 locs1 → W p l e R s m args below meth c H1 locs1 cells slots Q (F0 m (pc + 1) ls rest)) : W p l e R s m args below meth c H locs cells slots Q (F0 m pc ls (.int x :: .int i :: .ref a :: rest)) := by
  obtain ⟨h1, h2⟩ := ms_ix hi hk hN
  refine va_zast hx hb hE.1 hP hD hS q0 1 ha rfl h1 hdg (fun H1 locs1 hP1 hD1 hS1 => ?_)
  rw [h2, hg] at hP1 hD1
  exact kk H1 locs1 hP1 hD1 hS1
theorem ms_aald {N : Nat} {C : String} {t0 : Nat} {f : Nat → Option Nat} {i : Int32} {o : Option Nat} (hx : p.tables.exec = Jvm.exec) (hb : c.code = cc) (hE : ms_EV D cA s) (hP : va_P D vwCl ws H) (q0 : Nat) {cT : ClassId} (ha : ws[q0]? = some (a, .inl (cT, N, .inr (.inr (.inr (.inr f)))))) (ht : (ms_TY cA)[t0]? = some (cT, .object C)) (k : Nat) (hi : i = nI k) (hk : k < N) (hN : N < 2 ^ 31) (hv : f k = o) (hdg : decode cc pc = .ok (.aaload, 1))
    (kk : W p l e R s m args below meth c H locs cells slots Q (F0 m (pc + 1) ls (va_rf o :: rest))) : W p l e R s m args below meth c H locs cells slots Q (F0 m pc ls (.int i :: .ref a :: rest)) := by
  obtain ⟨h1, h2⟩ := ms_ix hi hk hN
  refine va_aldq hx hb hE.1 hP q0 t0 ha ht h1 hdg ?_
  rw [h2, hv]
  exact kk
theorem ms_aast {N t0 v : Nat} {r : vw_C} {vs : List Value} {f g : Nat → Option Nat} {i : Int32} (hx : p.tables.exec = Jvm.exec) (hb : c.code = cc) (hE : ms_EV D cA s) (hP : va_P D vwCl ws H) (hD : va_D A ws) (hS : va_S A s.heap H locs) (q0 qk ci : Nat) {cT : ClassId} (ha : ws[q0]? = some (a, .inl (cT, N, .inr (.inr (.inr (.inr f)))))) (ht : (ms_TY cA)[t0]? = some (cT, .object r.1)) (hv : ws[qk]? = some (v, .inr (ci, vs))) (hc : vwCl[ci]? = some r) (k : Nat) (hi : i = nI k) (hk : k < N) (hN : N < 2 ^ 31) (hg : va_up f k (some v) = g) (hdg : decode cc pc = .ok (.aastore, 1))
    (kk : ∀ (H1 : Heap) (locs1 : List Loc), va_P D vwCl (ws.set q0 (a, .inl (cT, N, .inr (.inr (.inr (.inr g)))))) H1 → va_D A (ws.set q0 (a, .inl (cT, N, .inr (.inr (.inr (.inr g)))))) → va_S A s.heap H1 locs1 → W p l e R s m args below meth c H1 locs1 cells slots Q (F0 m (pc + 1) ls rest)) : W p l e R s m args below meth c H locs cells slots Q (F0 m pc ls (.ref v :: .int i :: .ref a :: rest)) := by
  obtain ⟨h1, h2⟩ := ms_ix hi hk hN
  refine va_astq hx hb hE.1 hP hD hS q0 t0 qk ci ha ht hv hc h1 hdg (fun H1 locs1 hP1 hD1 hS1 => ?_)
  rw [h2, hg] at hP1 hD1
  exact kk H1 locs1 hP1 hD1 hS1
end ARR
end MSB
def ms_z : Nat → Int32 := fun _ => 0
def ms_n : Nat → Int32 := upd (upd ms_z 12 (-1)) 13 (-1)
theorem ms_same {f : Nat → Int32} {k : Nat} {x : Int32} (h : f k = x) : upd f k x = f := by
  funext j
  by_cases hj : j = k
  · subst hj; rw [pk_us]; exact h.symm
  · exact pk_un hj
theorem ms_n_lo {i : Nat} (h : i < 12) : ms_n i = 0 := by
  unfold ms_n
  rw [pk_un (by omega), pk_un (by omega)]
  rfl
theorem ms_cpy_z (a b n : Nat) : va_cpy ms_z ms_z a b n = ms_z := by
  funext j
  unfold va_cpy
  split <;> rfl
section MSN
variable {p : Program} {l : Launch} {e : Env} {R : Room} {s : State} {m : MethodId} {args : Array Value} {below : List Frame} {meth : Method} {c : Code} {H : Heap} {locs : List Loc} {cells slots : Nat} {Q : State → Prop} {cc : ByteArray} {pc : Nat} {ls : Array Slot} {rest : List Value} {D : va_G} {cA : Nat → ClassId} {A : Nat → Prop} {ws : va_W}
theorem ms_Mi_of {y : MethodName} {wd wd' : List Cond} {rm : Room} {av : List Value} {S : Type} {post : Int32 → S → Prop} {w1 : S → va_W} {maxL : Nat} {ret : Option FieldType}
    (hy : plainName y.cls = true) (hw : wd = Cond.code y cc maxL ret :: wd') (hn : (lg_sl av).length ≤ maxL)
    (body : ∀ (p : Program) (e : Env) (s : State) (m : MethodId) (args : Array Value) (below : List Frame) (meth : Method) (c : Code) (A : Nat → Prop) (ls : Array Slot), ms_at p s m args meth c y wd cc maxL ret → ms_EV D cA s → (∀ q, s.heap.size ≤ q → A q) → va_P D vwCl ws s.heap → va_D A ws → va_S A s.heap s.heap [] → lv_has ls maxL (lv_args 0 av) → W p l e rm s m args below meth c s.heap [] 0 0 (MQ below (ms_Qi D A post w1) args s rm.cells rm.slots A) (F0 m 0 ls [])) : ms_Mi l y wd rm D cA av ws post w1 :=
  ms_of (Qc := fun A => ms_Qi D A post w1) hy hw hn body
theorem ms_Mv_of {y : MethodName} {wd wd' : List Cond} {rm : Room} {av : List Value} {S : Type} {post : S → Prop} {w1 : S → va_W} {maxL : Nat} {ret : Option FieldType}
    (hy : plainName y.cls = true) (hw : wd = Cond.code y cc maxL ret :: wd') (hn : (lg_sl av).length ≤ maxL)
    (body : ∀ (p : Program) (e : Env) (s : State) (m : MethodId) (args : Array Value) (below : List Frame) (meth : Method) (c : Code) (A : Nat → Prop) (ls : Array Slot), ms_at p s m args meth c y wd cc maxL ret → ms_EV D cA s → (∀ q, s.heap.size ≤ q → A q) → va_P D vwCl ws s.heap → va_D A ws → va_S A s.heap s.heap [] → lv_has ls maxL (lv_args 0 av) → W p l e rm s m args below meth c s.heap [] 0 0 (MQ below (ms_Qv D A post w1) args s rm.cells rm.slots A) (F0 m 0 ls [])) : ms_Mv l y wd rm D cA av ws post w1 :=
  ms_of (Qc := fun A => ms_Qv D A post w1) hy hw hn body
theorem ms_Mr_of {y : MethodName} {wd wd' : List Cond} {rm : Room} {av : List Value} {S : Type} {post : S → Prop} {ad : S → Nat} {w1 : S → va_W} {maxL : Nat} {ret : Option FieldType}
    (hy : plainName y.cls = true) (hw : wd = Cond.code y cc maxL ret :: wd') (hn : (lg_sl av).length ≤ maxL)
    (body : ∀ (p : Program) (e : Env) (s : State) (m : MethodId) (args : Array Value) (below : List Frame) (meth : Method) (c : Code) (A : Nat → Prop) (ls : Array Slot), ms_at p s m args meth c y wd cc maxL ret → ms_EV D cA s → (∀ q, s.heap.size ≤ q → A q) → va_P D vwCl ws s.heap → va_D A ws → va_S A s.heap s.heap [] → lv_has ls maxL (lv_args 0 av) → W p l e rm s m args below meth c s.heap [] 0 0 (MQ below (ms_Qr D A post ad w1) args s rm.cells rm.slots A) (F0 m 0 ls [])) : ms_Mr l y wd rm D cA av ws post ad w1 :=
  ms_of (Qc := fun A => ms_Qr D A post ad w1) hy hw hn body
theorem ms_nn {n : Int32} {N : Nat} (hn : n = nI N) (hN : N < 65536) : ¬ n < 0 ∧ n.toNatClampNeg = N := by
  subst hn
  exact ⟨nI_pos (by omega), nI_clamp (by omega)⟩
theorem ms_newi {n : Int32} (N : Nat) (hx : p.tables.exec = Jvm.exec) (hb : c.code = cc) (harr : (Cond.arrayClass .int).before args s = true) (hE : ms_EV D cA s) (hP : va_P D vwCl ws H) (hD : va_D A ws) (hS : va_S A s.heap H locs) (hA : ∀ q, s.heap.size ≤ q → A q) (hn : n = nI N) (hN : N < 65536) (hc : cells + 1 ≤ R.cells) (hs : slots + N ≤ R.slots) (hdg : decode cc pc = .ok (.newarray .int, 2))
    (kk : ∀ (q : Nat) (H1 : Heap), va_P D vwCl (ws ++ [(q, .inl (cA 0, N, .inl ms_z))]) H1 → va_D A (ws ++ [(q, .inl (cA 0, N, .inl ms_z))]) → va_S A s.heap H1 locs → W p l e R s m args below meth c H1 locs (cells + 1) (slots + N) Q (F0 m (pc + 2) ls (.ref q :: rest))) : W p l e R s m args below meth c H locs cells slots Q (F0 m pc ls (.int n :: rest)) := by
  obtain ⟨h1, h2⟩ := ms_nn hn hN
  refine va_newa (ty := .int) hx hb (atype := .int) harr rfl hE.1 hP hD hS hA (a0 := (N, .inl ms_z)) (fun _ => rfl) h1 h2 (by show N * 4 ≤ _; omega) hc hs hdg (fun q cB H1 hK1 hP1 hD1 hS1 => ?_)
  have e1 : s.vm.findClass ("[" ++ FieldType.int.toString) = some cB := (hK1.2 4 (cB, .int) rfl).2
  have e2 : s.vm.findClass ("[" ++ FieldType.int.toString) = some (cA 0) := (hE.1.2 0 (cA 0, .int) rfl).2
  have e3 : cB = cA 0 := Option.some.inj (e1.symm.trans e2)
  subst e3
  exact kk q H1 hP1 hD1 hS1
theorem ms_newz {n : Int32} (N : Nat) (hx : p.tables.exec = Jvm.exec) (hb : c.code = cc) (harr : (Cond.arrayClass .boolean).before args s = true) (hE : ms_EV D cA s) (hP : va_P D vwCl ws H) (hD : va_D A ws) (hS : va_S A s.heap H locs) (hA : ∀ q, s.heap.size ≤ q → A q) (hn : n = nI N) (hN : N < 65536) (hc : cells + 1 ≤ R.cells) (hs : slots + N ≤ R.slots) (hdg : decode cc pc = .ok (.newarray .boolean, 2))
    (kk : ∀ (q : Nat) (H1 : Heap), va_P D vwCl (ws ++ [(q, .inl (cA 1, N, .inl ms_z))]) H1 → va_D A (ws ++ [(q, .inl (cA 1, N, .inl ms_z))]) → va_S A s.heap H1 locs → W p l e R s m args below meth c H1 locs (cells + 1) (slots + N) Q (F0 m (pc + 2) ls (.ref q :: rest))) : W p l e R s m args below meth c H locs cells slots Q (F0 m pc ls (.int n :: rest)) := by
  obtain ⟨h1, h2⟩ := ms_nn hn hN
  refine va_newa (ty := .boolean) hx hb (atype := .boolean) harr rfl hE.1 hP hD hS hA (a0 := (N, .inl ms_z)) (fun _ => rfl) h1 h2 (by show N * 1 ≤ _; omega) hc hs hdg (fun q cB H1 hK1 hP1 hD1 hS1 => ?_)
  have e1 : s.vm.findClass ("[" ++ FieldType.boolean.toString) = some cB := (hK1.2 4 (cB, .boolean) rfl).2
  have e2 : s.vm.findClass ("[" ++ FieldType.boolean.toString) = some (cA 1) := (hE.1.2 1 (cA 1, .boolean) rfl).2
  have e3 : cB = cA 1 := Option.some.inj (e1.symm.trans e2)
  subst e3
  exact kk q H1 hP1 hD1 hS1
theorem ms_newq {n : Int32} (N t0 : Nat) {own C : String} {index : Nat} {cT : ClassId} (hx : p.tables.exec = Jvm.exec) (hb : c.code = cc) (hown : s.vm.findClass own = some m.cls) (hcl : (Cond.classLink own index C).before args s = true) (hov : va_AO C s) (hE : ms_EV D cA s) (ht : (ms_TY cA)[t0]? = some (cT, .object C)) (hP : va_P D vwCl ws H) (hD : va_D A ws) (hS : va_S A s.heap H locs) (hA : ∀ q, s.heap.size ≤ q → A q) (hn : n = nI N) (hN : N < 65536) (hc : cells + 1 ≤ R.cells) (hs : slots + N ≤ R.slots) (hdg : decode cc pc = .ok (.anewarray index, 3))
    (kk : ∀ (q : Nat) (H1 : Heap), va_P D vwCl (ws ++ [(q, .inl (cT, N, .inr (.inr (.inr (.inr (fun _ => none))))))]) H1 → va_D A (ws ++ [(q, .inl (cT, N, .inr (.inr (.inr (.inr (fun _ => none))))))]) → va_S A s.heap H1 locs → W p l e R s m args below meth c H1 locs (cells + 1) (slots + N) Q (F0 m (pc + 3) ls (.ref q :: rest))) : W p l e R s m args below meth c H locs cells slots Q (F0 m pc ls (.int n :: rest)) := by
  obtain ⟨h1, h2⟩ := ms_nn hn hN
  refine va_newq hx hb hown hcl hov hE.1 hP hD hS hA h1 h2 (by omega) hc hs hdg (fun q cB H1 hK1 hP1 hD1 hS1 => ?_)
  obtain ⟨kA, comp, -, -, -, e1⟩ := (hK1.2 4 (cB, .object C) rfl).2
  obtain ⟨kA2, comp2, -, -, -, e2⟩ := (hE.1.2 t0 (cT, .object C) ht).2
  have e3 : cB = cT := Option.some.inj (e1.symm.trans e2)
  subst e3
  exact kk q H1 hP1 hD1 hS1
/-- arraycopy of zeros over zeros: nothing changes but the places written -/
theorem ms_copyz {own : String} {index a0 a n0 n1 : Nat} {sp dp n : Int32} (hx : p.tables.exec = Jvm.exec) (hb : c.code = cc) (hml : c.maxLocals = ls.size) (hown : s.vm.findClass own = some m.cls) (hlink : (Cond.methodLink own index arraycopyName).before args s = true) (hnat : (Cond.native arraycopyName).before args s = true) (hstat : (Cond.static arraycopyName).before args s = true) (hini : (Cond.initialized "java/lang/System").before args s = true)
    (hE : ms_EV D cA s) (hP : va_P D vwCl ws H) (hD : va_D A ws) (hS : va_S A s.heap H locs) (q0 q1 : Nat) (ha0 : ws[q0]? = some (a0, .inl (cA 0, n0, .inl ms_z))) (ha1 : ws[q1]? = some (a, .inl (cA 0, n1, .inl ms_z))) (hsp : sp = nI 0) (hdp : dp = nI 0) (N : Nat) (hN : N < 65536) (hn : n = nI N) (h4 : N ≤ n0) (h5 : N ≤ n1)
    (hframes : 1 ≤ R.frames) (hlocals : (rest.map fun v => v.category).sum + (nativeFrameWords "java/lang/System" "arraycopy" 5 + 11) ≤ R.locals) (hdg : decode cc pc = .ok (.invokestatic index, 3))
    (kk : ∀ (H1 : Heap) (locs1 : List Loc), va_P D vwCl (ws.set q1 (a, .inl (cA 0, n1, .inl ms_z))) H1 → va_D A (ws.set q1 (a, .inl (cA 0, n1, .inl ms_z))) → va_S A s.heap H1 locs1 → W p l e R s m args below meth c H1 locs1 cells slots Q (F0 m (pc + 3) ls rest)) : W p l e R s m args below meth c H locs cells slots Q (F0 m pc ls (.int n :: .int dp :: .ref a :: .int sp :: .ref a0 :: rest)) := by
  obtain ⟨g1, g2⟩ := ms_nn hn hN
  obtain ⟨g3, g4⟩ := ms_nn hsp (by decide)
  obtain ⟨g5, g6⟩ := ms_nn hdp (by decide)
  refine va_copyi hx hb hml hown hlink hnat hstat hini hE.1 hP hD hS q0 q1 0 0 ha0 ha1 rfl rfl rfl g3 g5 g1 (by rw [g4, g2]; omega) (by rw [g6, g2]; omega) (fun i _ => rfl) hframes hlocals hdg (fun H1 locs1 hP1 hD1 hS1 => ?_)
  rw [ms_cpy_z] at hP1 hD1
  exact kk H1 locs1 hP1 hD1 hS1
end MSN
theorem ms_andm1 (x : Int32) : x &&& (-1) = x := by
  apply Int32.toBitVec_inj.1
  rw [Int32.toBitVec_and]
  have h : (-1 : Int32).toBitVec = BitVec.allOnes 32 := by decide
  rw [h, BitVec.and_allOnes]
set_option maxHeartbeats 4000000 in
set_option maxRecDepth 100000 in
theorem c_in (l : Launch) (D : va_G) (cA : Nat → ClassId) (v lo hi : Int64) : ms_Mi l yX11_in wsX11_in ({ frames := 0, cells := 0, slots := 0, locals := 0 } : Room) D cA [.long v, .long lo, .long hi] [] (fun (r : Int32) (_ : Unit) => r = if lo.toInt ≤ v.toInt ∧ v.toInt ≤ hi.toInt then 1 else 0) (fun _ => []) := by
  refine ms_Mi_of (cc := cX11_in) (maxL := 6) (ret := (some .boolean)) (by decide) rfl (Nat.le_of_ble_eq_true rfl) ?_
  intro p e s m args below meth c A ls hB hE hA hP hD hS hl
  obtain ⟨hx, hb, hr, hml, hown, hts, hlk, hnm⟩ := hB
  have hl : lv_has ls 6 [(0, .long v), (2, .long lo), (4, .long hi)] := hl
  refine lv_lload_n hx hb dX11_in_0 rfl (lv_at hl 0 rfl) ?_
  refine lv_lload_n hx hb dX11_in_1 rfl (lv_at hl 1 rfl) ?_
  refine W.lcmp hx hb dX11_in_2 ?_
  refine lv_if_lt (tgt := 17) hx hb dX11_in_3 (by decide) (fun c1 => ?_) (fun c1 => ?_)
  · have h1 := Int64.lt_iff_toInt_lt.mp ((lg_cmp_lt _ _).mp c1)
    refine lv_iconst (v := 0) hx hb dX11_in_17 (by decide) ?_
    exact ms_zret hx hb hr rfl hlk () (if_neg (by omega)).symm hP hD hS (Nat.le_of_ble_eq_true rfl) (Nat.le_of_ble_eq_true rfl) dX11_in_18
  · have h1 := mt Int64.lt_iff_toInt_lt.mpr (mt (lg_cmp_lt _ _).mpr c1)
    refine lv_lload_n hx hb dX11_in_6 rfl (lv_at hl 0 rfl) ?_
    refine lv_lload hx hb dX11_in_7 (lv_at hl 2 rfl) ?_
    refine W.lcmp hx hb dX11_in_9 ?_
    refine lv_if_gt (tgt := 17) hx hb dX11_in_10 (by decide) (fun c2 => ?_) (fun c2 => ?_)
    · have h2 := Int64.lt_iff_toInt_lt.mp ((lg_cmp_gt _ _).mp c2)
      refine lv_iconst (v := 0) hx hb dX11_in_17 (by decide) ?_
      exact ms_zret hx hb hr rfl hlk () (if_neg (by omega)).symm hP hD hS (Nat.le_of_ble_eq_true rfl) (Nat.le_of_ble_eq_true rfl) dX11_in_18
    · have h2 := mt Int64.lt_iff_toInt_lt.mpr (mt (lg_cmp_gt _ _).mpr c2)
      refine lv_iconst (v := 1) hx hb dX11_in_13 (by decide) ?_
      refine lv_goto (tgt := 18) hx hb dX11_in_14 (by decide) ?_
      exact ms_zret hx hb hr rfl hlk () (if_pos (by omega)).symm hP hD hS (Nat.le_of_ble_eq_true rfl) (Nat.le_of_ble_eq_true rfl) dX11_in_18
