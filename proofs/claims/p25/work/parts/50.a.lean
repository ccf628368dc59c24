/-! THE CLAIM OUT OF ONE WALK OF THE LAW'S BODY. Your part is whole_start (and what it stands on); all else here is the same for every law, but numbers. -/
def R_law : String := "MovedStonesLaw"
def lw_P (b : Addr) (xs : List Int32) (args : Array Value) (s : State) : Prop := args = #[.ref b] ∧ s.IntsAt b xs ∧ xs.length ≤ 256 ∧ (Jvm.Cond.and given_1 narrow_1).before args s = true
def lw_Q (_ : Array Value) (s : State) (o : Outcome) (t : State) : Prop := o = .returned (some (.int 1)) ∧ Framed s o t [] 600000 7302250
def lw_Z (below : List Frame) (a : Array Value) (s : State) : State → Prop := fun t => ∃ o, t.status = .running ∧ Ended t below o ∧ lw_Q a s o t
/-- the law's own end, with 1 on the stack, nothing written that was there before, its room as the claim has it -/
theorem lw_ret {p : Program} {l : Launch} {e : Env} {s : State} {m : MethodId} {below : List Frame} {meth : Method} {c : Code} {b : Nat} (hx : p.tables.exec = Jvm.exec) (hb : c.code = code) (hr : meth.sig.returnType = ret) (hlocks : meth.locks = false) {pc : Nat} {H : Heap} {ls : Array Slot} (hdg : decode code pc = .ok (.ireturn, 1)) : W p l e room_1 s m #[Value.ref b] below meth c H [] 600000 7302250 (lw_Z below #[Value.ref b] s) (F0 m pc ls [.int 1]) := by
  intro T hT X
  obtain ⟨fs, hret, hrun, hended, hW, hframe⟩ := X.leave (v := some (.int 1)) (hlocks := hlocks) (fun h => by rw [hr] at h; cases h)
  have hmeth' : T.vm.method? m = some meth := X.method'
  refine ⟨T.setFrames fs, ?_, .returned (some (.int 1)), hrun, hended, rfl, ⟨_, rfl⟩, hW, hframe⟩
  jvm_step X.here [X.here.top, hx, hb, hdg, hmeth', hr, ret, narrow_b1]
  (try refine ⟨rfl, ?_⟩); (try refine ⟨rfl, ?_⟩)
  first | (intro acts; rw [hret _ acts rfl rfl rfl]) | rw [hret _ _ rfl rfl rfl]
  exact Steps.refl _
/-- what holds at the law's entry: the machine, the code, the tables' words (any of lw_tbl by 'hts w (by decide +kernel)'), the script of L ints xs at the cell b, what the Statement gives of the start (any of its parts by flat_of_before) -/
def lw_At (p : Program) (s : State) (m : MethodId) (meth : Method) (c : Code) (b L : Nat) (xs : Nat → Int32) : Prop :=
  p.tables.exec = Jvm.exec ∧ c.code = code ∧ meth.sig.returnType = ret ∧ c.maxLocals = 4 ∧ s.vm.findClass R_law = some m.cls ∧ (∀ w ∈ lw_tbl, w.before #[Value.ref b] s = true) ∧ va_X b L xs s s.heap ∧ b < s.heap.size ∧ meth.locks = false ∧ (Jvm.Cond.and given_1 narrow_1).before #[Value.ref b] s = true
section SLD
variable {p : Program} {l : Launch} {e : Env} {R : Room} {s : State} {m : MethodId} {args : Array Value} {below : List Frame} {meth : Method} {c : Code} {H : Heap} {locs : List Loc} {cells slots : Nat} {Q : State → Prop} {cc : ByteArray} {pc : Nat} {ls : Array Slot} {rest : List Value} {A : Nat → Prop}
theorem ms_sld {b L : Nat} {xs : Nat → Int32} {i : Int32} (hx : p.tables.exec = Jvm.exec) (hb : c.code = cc) (hX : va_X b L xs s s.heap) (hbl : b < s.heap.size) (hbA : ¬ A b) (hS : va_S A s.heap H locs) (k : Nat) (hi : i = nI k) (hk : k < L) (hL : L < 2 ^ 31) (hdg : decode cc pc = .ok (.iaload, 1))
    (kk : W p l e R s m args below meth c H locs cells slots Q (F0 m (pc + 1) ls (.int (xs k) :: rest))) : W p l e R s m args below meth c H locs cells slots Q (F0 m pc ls (.int i :: .ref b :: rest)) := by
  obtain ⟨h1, h2⟩ := ms_ix hi hk hL
  refine va_sld hx hb hX hbl hbA hS h1 hdg ?_
  rw [h2]
  exact kk
end SLD
theorem ms_hd {L n : Nat} (hL : L ≤ 256) (hn : n ≤ 64) : (Int32.ofNat L - 4 < nI (4 * n)) ↔ L < 4 * n + 4 := by
  have e1 : (Int32.ofNat L).toInt = (L : Int) := nI_toInt (n := L) (by omega)
  have e2 : (4 : Int32).toInt = 4 := by decide
  have e3 : (Int32.ofNat L - 4).toInt = (L : Int) - 4 := by rw [rg_sub (by omega) (by omega), e1, e2]
  rw [Int32.lt_iff_toInt_lt, e3, nI_toInt (by omega)]
  omega
def ms_rel (i : Nat → Int32) (f : Nat → Nat → Int32) (j : Nat → Int32) (g : Nat → Nat → Int32) : Prop := (i 5) = (j 1) ∧ (f 1) = (g 6) ∧ mz_el (i 7) (i 8) (i 9) (i 10) (i 11) (f 2) (f 3) (f 4) (f 5) (f 6) (f 7) (f 8) (f 9) (g 0) ∧ (i 37) = (j 4) ∧ (i 36) = (j 3) ∧ True
theorem ms_fdrel {x y a r r2 x1 y1 : Int32} {f f1 g g1 : Nat → Int32} (h : x = y) (h' : f = g) (h1 : ms_fd x a r x1 f f1) (h2 : ms_fd y a r2 y1 g g1) : r = r2 ∧ x1 = y1 ∧ f1 = g1 := by
  subst h h'
  exact ms_fd_eq h1 h2
theorem mz_z68z (R : Nat → Int32) : ∀ k : Nat, k < 68 → mz_z68 R k = 0 := fun k hk => by
  unfold mz_z68
  rw [if_pos hk]
theorem mz_meq {n n' r r' fa fa' : Int32} {f f' Rg M' : Nat → Int32} {E : (Nat → Int32) → Prop} {A B C D : Prop} (hn : n = n') (hf : f = f') (h : (∃ R : Nat → Int32, mz_MR f n (0, Rg) (.inr R) ∧ E R ∧ r = R 3 ∧ fa = -1 ∧ A) ∨ (∃ w : Int32, mz_MR f n (0, Rg) (.inl (w, fa)) ∧ r = -10 - w ∧ B)) (g : (∃ R : Nat → Int32, mz_MR f' n' (0, Rg) (.inr R) ∧ (∀ k : Nat, k < 68 → M' k = R k) ∧ fa' = -1 ∧ r' = M' 3 ∧ C) ∨ (∃ w b : Int32, mz_MR f' n' (0, Rg) (.inl (w, b)) ∧ r' = -10 - w ∧ fa' = b ∧ D)) : r = r' ∧ fa = fa' := by
  subst hn hf
  rcases h with ⟨R, h1, -, h3, h4, -⟩ | ⟨w, h1, h3, -⟩ <;> rcases g with ⟨R', g1, g2, g3, g4, -⟩ | ⟨w', b', g1, g3, g4, -⟩
  · have q := mz_MRd h1 g1
    cases q
    exact ⟨by rw [h3, g4, g2 3 (by decide)], by rw [h4, g3]⟩
  · cases (mz_MRd h1 g1)
  · cases (mz_MRd h1 g1)
  · have q := mz_MRd h1 g1
    cases q
    exact ⟨by rw [h3, g3], g4.symm⟩
theorem ms_relfd {x y a r r2 x1 y1 : Int32} {f f1 g g1 : Nat → Int32} (h : x = y) (h1 : ms_fd x a r x1 f f1) (h2 : ms_fd y a r2 y1 g g1) : r = r2 ∧ x1 = y1 := by
  subst h
  rcases h1 with ⟨g1, rfl, rfl, rfl⟩ | ⟨g1, g2, rfl, rfl, rfl⟩ | ⟨g1, g2, rfl, g3, rfl⟩ <;> rcases h2 with ⟨k1, rfl, rfl, rfl⟩ | ⟨k1, k2, rfl, rfl, rfl⟩ | ⟨k1, k2, rfl, k3, rfl⟩
  · exact ⟨rfl, rfl⟩
  · exact absurd k1 g1
  · exact absurd k1 g1
  · exact absurd g1 k1
  · exact ⟨rfl, rfl⟩
  · omega
  · exact absurd g1 k1
  · omega
  · exact ⟨Int32.toInt_inj.mp (by rw [g3, k3]), Int32.toInt_inj.mp (by rw [g3, k3])⟩
theorem mz_elc {T C M Rd Tr T' C' M' Rd' Tr' : Int32} {fr to fe mi ow ki bo va R fr' to' fe' mi' ow' ki' bo' va' R' : Nat → Int32} (h : mz_el T C M Rd Tr fr to fe mi ow ki bo va R) (a0 : T' = T) (a1 : C' = C) (a2 : M' = M) (a3 : Rd' = Rd) (a4 : Tr' = Tr) (b0 : fr' = fr) (b1 : to' = to) (b2 : fe' = fe) (b3 : mi' = mi) (b4 : ow' = ow) (b5 : ki' = ki) (b6 : bo' = bo) (b7 : va' = va) (e : R' = R) : mz_el T' C' M' Rd' Tr' fr' to' fe' mi' ow' ki' bo' va' R' := by
  subst a0 a1 a2 a3 a4 b0 b1 b2 b3 b4 b5 b6 b7 e
  exact h
theorem mz_elM {T C M Rd Tr : Int32} {fr to fe mi ow ki bo va R N : Nat → Int32} (h : mz_el T C M Rd Tr fr to fe mi ow ki bo va R) (k : ∀ j : Nat, j < 68 → N j = R j) (h9 : Rd.toInt ≤ 9) (h6 : Tr.toInt ≤ 6) : mz_el T C M Rd Tr fr to fe mi ow ki bo va N := by
  obtain ⟨⟨g0, g1, g2, g3, g4⟩, g5, g6, g7⟩ := h
  refine ⟨⟨?_, ?_, ?_, ?_, ?_⟩, fun r hr => ?_, fun t ht => ?_, fun t ht ht6 => ?_⟩
  · rw [k 0 (by omega)]; exact g0
  · rw [k 1 (by omega)]; exact g1
  · rw [k 2 (by omega)]; exact g2
  · rw [k 3 (by omega)]; exact g3
  · rw [k 4 (by omega)]; exact g4
  · rw [k (5 + r) (by omega), k (14 + r) (by omega), k (23 + r) (by omega), k (32 + r) (by omega), k (41 + r) (by omega)]
    exact g5 r hr
  · rw [k (50 + t) (by omega), k (56 + t) (by omega), k (62 + t) (by omega)]
    exact g6 t ht
  · rw [k (56 + t) (by omega)]
    exact g7 t ht ht6
theorem mz_mcase {n n' r r' fa fa' : Int32} {f f' Rg M' : Nat → Int32} {E : (Nat → Int32) → Prop} {A B C D : Prop} (hn : n = n') (hf : f = f') (h : (∃ R : Nat → Int32, mz_MR f n (0, Rg) (.inr R) ∧ E R ∧ r = R 3 ∧ fa = -1 ∧ A) ∨ (∃ w : Int32, mz_MR f n (0, Rg) (.inl (w, fa)) ∧ r = -10 - w ∧ B)) (g : (∃ R : Nat → Int32, mz_MR f' n' (0, Rg) (.inr R) ∧ (∀ k : Nat, k < 68 → M' k = R k) ∧ fa' = -1 ∧ r' = M' 3 ∧ C) ∨ (∃ w b : Int32, mz_MR f' n' (0, Rg) (.inl (w, b)) ∧ r' = -10 - w ∧ fa' = b ∧ D)) : (∃ R : Nat → Int32, E R ∧ A ∧ (∀ k : Nat, k < 68 → M' k = R k) ∧ C) ∨ (B ∧ D) := by
  subst hn hf
  rcases h with ⟨R, h1, h2, -, -, h5⟩ | ⟨w, h1, -, h4⟩ <;> rcases g with ⟨R', g1, g2, -, -, g5⟩ | ⟨w', b', g1, -, -, g5⟩
  · have q := mz_MRd h1 g1
    cases q
    exact Or.inl ⟨R, h2, h5, g2, g5⟩
  · cases (mz_MRd h1 g1)
  · cases (mz_MRd h1 g1)
  · exact Or.inr ⟨h4, g5⟩
theorem mz_awc {W V W' V' : Nat → Int32} (h : ∀ k : Nat, k < 9 → W k = V k) (u : W' = W) (v : V' = V) : ∀ k : Nat, k < 9 → W' k = V' k := by
  subst u v
  exact h
theorem mz_awz {W V : Nat → Int32} (h : ms_zp W 9) (g : ms_zp V 9) : ∀ k : Nat, k < 9 → W k = V k := fun k hk => (h k (by omega)).trans (g k (by omega)).symm
theorem mz_wtrel {Rd Q a b e e2 r x r' x' : Int32} (hR : Rd = Q) (he : e = e2) (h : mz_wt Rd a b e r x) (g : mz_wt Q a b e2 r' x') : r = r' ∧ x = x' := by
  subst hR he
  exact mz_wtd h g
theorem mz_jnrel {Rd Q a b e e2 r x r' x' : Int32} {P1 Q1 P2 Q2 : Prop} (hR : Rd = Q) (he : e = e2) (h : mz_jn Rd a b e r x P1 Q1) (g : mz_jn Q a b e2 r' x' P2 Q2) : r = r' ∧ x = x' := by
  subst hR he
  exact ⟨(mz_jnd h g).1, (mz_jnd h g).2.1⟩
theorem mz_kqrel {a k0 k1 l0 l1 x y x' y' : Int32} (h0 : k0 = l0) (h1 : k1 = l1) (h : mz_kq a k0 k1 x y) (g : mz_kq a l0 l1 x' y') : x = x' ∧ y = y' := by
  subst h0 h1
  exact mz_kqd h g
theorem mz_gbrel {a k0 k1 l0 l1 r r' : Int32} (h0 : k0 = l0) (h1 : k1 = l1) (h : mz_gb a k0 k1 r) (g : mz_gb a l0 l1 r') : r = r' := by
  subst h0 h1
  exact mz_gbd h g
theorem mz_terel {j e k l r r' : Int32} (h0 : j = k) (h1 : e = l) (h : r = j + e) (g : r' = k + l) : r = r' := by
  subst h0 h1
  exact h.trans g.symm
