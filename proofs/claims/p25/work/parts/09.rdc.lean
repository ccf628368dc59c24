/-! reading a text: the class's steps -/
theorem mz_hrp {f : Nat → Int32} {n p v : Int32} (c : p < n) (e : v = f p.toNatClampNeg) : v = ms_hr f p n := by
  unfold ms_hr
  rw [if_pos c]
  exact e
theorem mz_hrn {f : Nat → Int32} {n p : Int32} (c : n ≤ p) : (-1) = ms_hr f p n := by
  unfold ms_hr
  rw [if_neg (Int32.not_lt.mpr c)]
theorem mz_nDl {r h : Int32} (ex : r = h) (c : r.toInt ≤ 47) : ¬ mz_D h := by
  subst ex
  rintro ⟨q, -⟩
  omega
theorem mz_nDh {r h : Int32} (ex : r = h) (c : 58 ≤ r.toInt) : ¬ mz_D h := by
  subst ex
  rintro ⟨-, q⟩
  omega
theorem mz_n48 {x : Int32} (h : ¬ mz_D x) : ¬ x = 48 := by
  rintro rfl
  exact h (by decide)
/-- the figures end -/
theorem mz_DGt {f : Nat → Int32} {n : Int32} : ∀ (k : Nat) (p c v : Int32), n.toInt - p.toInt ≤ (k : Int) → ∃ t : Int32 × Int32 × Int32, mz_DG f n p c v t := by
  intro k
  induction k with
  | zero =>
    intro p c v h
    refine ⟨_, mz_DG0 (mz_nDm (mz_hrn (Int32.le_iff_toInt_le.mpr (by omega))))⟩
  | succ k ih =>
    intro p c v h
    by_cases hd : mz_D (ms_hr f p n)
    · have hp : p < n := by
        by_cases q : p < n
        · exact q
        · exact absurd hd (mz_nDm (mz_hrn (Int32.not_lt.mp q)))
      have hq := Int32.lt_iff_toInt_lt.mp hp
      have e1 : (p + 1).toInt = p.toInt + 1 := by
        have h1 := rg_max n
        have h2 := rg_min p
        rw [rg_add (by rw [show (1 : Int32).toInt = 1 by decide]; omega) (by rw [show (1 : Int32).toInt = 1 by decide]; omega), show (1 : Int32).toInt = 1 by decide]
      obtain ⟨t, ht⟩ := ih (p + 1) (c + 1) (mz_dv c v (ms_hr f p n)) (by omega)
      exact ⟨t, mz_DGs hd rfl rfl rfl ht⟩
    · exact ⟨_, mz_DG0 hd⟩
theorem mz_TKx {f : Nat → Int32} {n p b : Int32} (sk : mz_SK f n p b) : ∃ sg c v e : Int32, mz_TK f n p sg b c v e := by
  by_cases hd : mz_D (ms_hr f b n)
  · obtain ⟨⟨e, c, v⟩, h⟩ := mz_DGt (f := f) (n := n) (n.toInt - b.toInt).toNat b 0 0 (by omega)
    exact ⟨48, c, v, e, sk, Or.inr ⟨hd, rfl, h⟩⟩
  · exact ⟨_, 0, 0, _, sk, Or.inl ⟨hd, rfl, rfl, rfl, rfl⟩⟩
theorem mz_RNa {f : Nat → Int32} {n lo hi p b w wa : Int32} (sk : mz_SK f n p b) (nd : ¬ mz_D (ms_hr f b n)) (e1 : w = 1) (e2 : wa = b) : mz_RN f n lo hi p (.inl (w, wa)) := by
  subst e1 e2
  exact ⟨_, wa, 0, 0, _, ⟨sk, Or.inl ⟨nd, rfl, rfl, rfl, rfl⟩⟩, Or.inl ⟨mz_n48 nd, rfl⟩⟩
theorem mz_RNb {f : Nat → Int32} {n lo hi p b c v e w wa : Int32} (sk : mz_SK f n p b) (d : mz_D (ms_hr f b n)) (dg : mz_DG f n b 0 0 (e, c, v)) (bad : 3 < c.toInt ∨ v.toInt < lo.toInt ∨ hi.toInt < v.toInt) (e1 : w = 2) (e2 : wa = b) : mz_RN f n lo hi p (.inl (w, wa)) := by
  subst e1 e2
  exact ⟨48, wa, c, v, e, ⟨sk, Or.inr ⟨d, rfl, dg⟩⟩, Or.inr (Or.inl ⟨rfl, bad, rfl⟩)⟩
theorem mz_RNc {f : Nat → Int32} {n lo hi p b c v e : Int32} (sk : mz_SK f n p b) (d : mz_D (ms_hr f b n)) (dg : mz_DG f n b 0 0 (e, c, v)) (ok : ¬ (3 < c.toInt ∨ v.toInt < lo.toInt ∨ hi.toInt < v.toInt)) : mz_RN f n lo hi p (.inr (v, e)) := ⟨48, b, c, v, e, ⟨sk, Or.inr ⟨d, rfl, dg⟩⟩, Or.inr (Or.inr ⟨rfl, ok, rfl⟩)⟩
theorem mz_nbad {z c v lo hi : Int32} (e : z = c) (h1 : z ≤ 3) (h2 : lo ≤ v) (h3 : v ≤ hi) : ¬ (3 < c.toInt ∨ v.toInt < lo.toInt ∨ hi.toInt < v.toInt) := by
  subst e
  have q1 := mz_le3 h1
  have q2 := Int32.le_iff_toInt_le.mp h2
  have q3 := Int32.le_iff_toInt_le.mp h3
  omega
theorem mz_c1 {p' p b : Int32} (e : p' = p + 1) : p' - b = (p - b) + 1 := by
  subst e
  apply Int32.toBitVec_inj.mp
  simp only [Int32.toBitVec_sub, Int32.toBitVec_add]
  rw [BitVec.sub_eq_add_neg, BitVec.sub_eq_add_neg, BitVec.add_assoc, BitVec.add_comm (Int32.toBitVec 1), ← BitVec.add_assoc]
theorem mz_dgi {f : Nat → Int32} {n b v0 : Int32} (h : v0 = 0) : ∀ t : Int32 × Int32 × Int32, mz_DG f n b (b - b) v0 t → mz_DG f n b 0 0 t := by
  subst h
  rw [Int32.sub_self]
  exact fun _ g => g
theorem mz_ENc {f : Nat → Int32} {n p b e : Int32} (sk : mz_SK f n p b) (h : ms_hr f b n = 59) (he : e.toInt = b.toInt + 1) : ∀ R : Nat → Int32, mz_EN f n (p, R) (.inr (e, R)) := fun _ => by
  have nd : ¬ mz_D (ms_hr f b n) := by
    rw [h]
    decide
  exact ⟨59, b, 0, 0, e, ⟨sk, Or.inl ⟨nd, h.symm, rfl, rfl, by rw [h, if_neg (by decide)]; exact mz_inc he⟩⟩, Or.inl ⟨rfl, rfl⟩⟩
theorem mz_ENx {f : Nat → Int32} {n p b w wa : Int32} (sk : mz_SK f n p b) (h : ¬ ms_hr f b n = 59) (e1 : w = 1) (e2 : wa = b) : ∀ R : Nat → Int32, mz_EN f n (p, R) (.inl (w, wa)) := fun _ => by
  subst e1 e2
  obtain ⟨sg, c, v, e, tk⟩ := mz_TKx sk
  refine ⟨sg, wa, c, v, e, tk, Or.inr ⟨fun q => ?_, rfl⟩⟩
  rcases tk.2 with ⟨-, h2, -⟩ | ⟨-, h2, -⟩
  · exact h (h2.symm.trans q)
  · exact absurd (h2.symm.trans q) (by decide)
/-- the march that the class holds, as the relation has it -/
def mz_el (T C M Rd Tr : Int32) (fr to fe mi ow ki bo va : Nat → Int32) (R : Nat → Int32) : Prop := (T = R 0 ∧ C = R 1 ∧ M = R 2 ∧ Rd = R 3 ∧ Tr = R 4) ∧ (∀ r : Nat, (r : Int) < Rd.toInt → fr r = R (5 + r) ∧ to r = R (14 + r) ∧ fe r = R (23 + r) ∧ mi r = R (32 + r) ∧ ow r = R (41 + r)) ∧ (∀ t : Nat, (t : Int) < Tr.toInt → ki t = R (50 + t) ∧ bo t = R (56 + t) ∧ va t = R (62 + t)) ∧ ∀ t : Nat, Tr.toInt ≤ (t : Int) → t < 6 → R (56 + t) = 0
theorem mz_ilt3 {c : Int32} {A : Int} (h : c.toInt ≤ A) (g : decide (A < 3) = true) : c.toInt < 3 := by
  have q := of_decide_eq_true g
  omega
theorem mz_ne0 {w k : Int32} (e : w = k) (h : ¬ k = 0) : ¬ w = 0 := by
  subst e
  exact h
/-! head and road: the class's steps -/
def mz_ps (X : mz_O → Prop) (E : (Nat → Int32) → Prop) (p w wa : Int32) : Prop := (w = 0 ∧ ∃ R : Nat → Int32, X (.inr (p, R)) ∧ E R) ∨ (¬ w = 0 ∧ X (.inl (w, wa)))
theorem mz_NUr {f : Nat → Int32} {n lo hi p v e : Int32} {k : Nat} {R : Nat → Int32} (h : mz_RN f n lo hi p (.inr (v, e))) : mz_NU f n k lo hi (p, R) (.inr (e, upd R k v)) := Or.inr ⟨v, e, h, rfl⟩
theorem mz_NUl {f : Nat → Int32} {n lo hi p : Int32} {k : Nat} {R : Nat → Int32} {q : Int32 × Int32} (h : mz_RN f n lo hi p (.inl q)) : mz_NU f n k lo hi (p, R) (.inl q) := Or.inl ⟨q, h, rfl⟩
theorem mz_up (f : Nat → Int32) (k : Nat) (v : Int32) (j : Nat) : upd f k v j = if j = k then v else f j := rfl
theorem mz_elH {T C M Rd Tr v1 v2 v3 : Int32} {fr to fe mi ow ki bo va R : Nat → Int32} (h : mz_el T C M Rd Tr fr to fe mi ow ki bo va R) : mz_el v1 v2 v3 Rd Tr fr to fe mi ow ki bo va (upd (upd (upd R 0 v1) 1 v2) 2 v3) := by
  obtain ⟨⟨h0, h1, h2, h3, h4⟩, h5, h6, h7⟩ := h
  simp only [mz_el, mz_up]
  refine ⟨⟨?_, ?_, ?_, ?_, ?_⟩, fun r hr => ?_, fun t ht => ?_, fun t ht ht6 => ?_⟩
  · repeat (first | rw [if_neg (by omega)] | rw [if_pos (by omega)] | rw [if_pos True.intro])
  · repeat (first | rw [if_neg (by omega)] | rw [if_pos (by omega)] | rw [if_pos True.intro])
  · repeat (first | rw [if_neg (by omega)] | rw [if_pos (by omega)] | rw [if_pos True.intro])
  · repeat (first | rw [if_neg (by omega)] | rw [if_pos (by omega)] | rw [if_pos True.intro])
    exact h3
  · repeat (first | rw [if_neg (by omega)] | rw [if_pos (by omega)] | rw [if_pos True.intro])
    exact h4
  · repeat (first | rw [if_neg (by omega)] | rw [if_pos (by omega)] | rw [if_pos True.intro])
    exact h5 r hr
  · repeat (first | rw [if_neg (by omega)] | rw [if_pos (by omega)] | rw [if_pos True.intro])
    exact h6 t ht
  · repeat (first | rw [if_neg (by omega)] | rw [if_pos (by omega)] | rw [if_pos True.intro])
    exact h7 t ht ht6
theorem mz_rb0 {fr to : Nat → Int32} {a b : Int32} : ∀ k : Nat, (k : Int) < (0 : Int32).toInt → ¬ ms_oe fr to k a = b := fun k hk => by
  rw [show (0 : Int32).toInt = 0 by decide] at hk
  omega
theorem mz_rbs {fr to : Nat → Int32} {a b i i' r : Int32} (h : ∀ k : Nat, (k : Int) < i.toInt → ¬ ms_oe fr to k a = b) (ex : r = ms_oe fr to i.toNatClampNeg a) (c : ¬ r = b) (e : i'.toInt = i.toInt + 1) (h0 : 0 ≤ i.toInt) : ∀ k : Nat, (k : Int) < i'.toInt → ¬ ms_oe fr to k a = b := fun k hk => by
  by_cases hc : (k : Int) < i.toInt
  · exact h k hc
  · have hk2 : k = i.toNatClampNeg := by
      show k = i.toInt.toNat
      omega
    rw [hk2, ← ex]
    exact c
theorem mz_rbe {fr to : Nat → Int32} {a b i n : Int32} (h : ∀ k : Nat, (k : Int) < i.toInt → ¬ ms_oe fr to k a = b) (c : n ≤ i) : ∀ k : Nat, (k : Int) < n.toInt → ¬ ms_oe fr to k a = b := fun k hk => h k (by
  have q := Int32.le_iff_toInt_le.mp c
  omega)
theorem mz_rbx {fr to : Nat → Int32} {a b i n r : Int32} (ex : r = ms_oe fr to i.toNatClampNeg a) (c : r = b) (l : i < n) (h0 : 0 ≤ i.toInt) : ∃ k : Nat, (k : Int) < n.toInt ∧ ms_oe fr to k a = b := ⟨i.toNatClampNeg, by
  have q := Int32.lt_iff_toInt_lt.mp l
  show ((i.toInt.toNat : Nat) : Int) < n.toInt
  omega, ex.symm.trans c⟩
theorem mz_RDc {f : Nat → Int32} {n b p T C M Rd Tr last : Int32} {fr to fe mi ow ki bo va R : Nat → Int32} {o : mz_O} (h : mz_el T C M Rd Tr fr to fe mi ow ki bo va R) (h8 : Rd.toInt ≤ 8) (hl : last = T - 1) (g : mz_BI (mz_NU f n (5 + Rd.toNatClampNeg) 0 last) (mz_R2 f n Rd.toNatClampNeg last) (p, R) o) : mz_RD f n b (p, R) o := by
  obtain ⟨⟨h0, -, -, h3, -⟩, -⟩ := h
  subst hl
  rw [h0, h3] at g
  refine Or.inr ⟨fun q => ?_, g⟩
  have q2 : R 3 = 9 := q
  rw [h3, q2, show (9 : Int32).toInt = 9 by decide] at h8
  omega
theorem mz_rle {r : Int32} (h0 : 0 ≤ r.toInt) (h8 : r.toInt ≤ 8) : r.toNatClampNeg ≤ 8 ∧ ((r.toNatClampNeg : Nat) : Int) = r.toInt := by
  show r.toInt.toNat ≤ 8 ∧ ((r.toInt.toNat : Nat) : Int) = r.toInt
  omega
theorem mz_a5 {R : Nat → Int32} {r : Nat} {v1 v2 : Int32} : upd (upd R (5 + r) v1) (14 + r) v2 (5 + r) = v1 := by
  rw [mz_up, if_neg (by omega), mz_up, if_pos rfl]
theorem mz_a14 {R : Nat → Int32} {r : Nat} {v1 v2 : Int32} : upd (upd R (5 + r) v1) (14 + r) v2 (14 + r) = v2 := by
  rw [mz_up, if_pos rfl]
theorem mz_dup1 {R : Nat → Int32} {r : Nat} {v1 v2 : Int32} (c : v1 = v2) : mz_du (upd (upd R (5 + r) v1) (14 + r) v2) r (upd (upd R (5 + r) v1) (14 + r) v2 (5 + r)) (upd (upd R (5 + r) v1) (14 + r) v2 (14 + r)) := by
  rw [mz_a5, mz_a14]
  exact Or.inl c
theorem mz_dupE {T C M Rd Tr v1 v2 : Int32} {fr to fe mi ow ki bo va R fr' to' : Nat → Int32} (h : mz_el T C M Rd Tr fr to fe mi ow ki bo va R) (h0 : 0 ≤ Rd.toInt) (h8 : Rd.toInt ≤ 8) (ne : ¬ v1 = v2) (hb : 0 ≤ v2.toInt) (e1 : fr' = upd fr Rd.toNatClampNeg v1) (e2 : to' = upd to Rd.toNatClampNeg v2) (k : Nat) (hk : (k : Int) < Rd.toInt) : ms_oe fr' to' k v1 = v2 ↔ ((upd (upd R (5 + Rd.toNatClampNeg) v1) (14 + Rd.toNatClampNeg) v2 (5 + k) = v1 ∧ upd (upd R (5 + Rd.toNatClampNeg) v1) (14 + Rd.toNatClampNeg) v2 (14 + k) = v2) ∨ (upd (upd R (5 + Rd.toNatClampNeg) v1) (14 + Rd.toNatClampNeg) v2 (5 + k) = v2 ∧ upd (upd R (5 + Rd.toNatClampNeg) v1) (14 + Rd.toNatClampNeg) v2 (14 + k) = v1)) := by
  obtain ⟨q1, q2⟩ := mz_rle h0 h8
  generalize Rd.toNatClampNeg = r at *
  obtain ⟨hf, ht, -⟩ := h.2.1 k hk
  have a1 : fr' k = R (5 + k) := by rw [e1, mz_up, if_neg (by omega)]; exact hf
  have a2 : to' k = R (14 + k) := by rw [e2, mz_up, if_neg (by omega)]; exact ht
  have b1 : upd (upd R (5 + r) v1) (14 + r) v2 (5 + k) = R (5 + k) := by rw [mz_up, if_neg (by omega), mz_up, if_neg (by omega)]
  have b2 : upd (upd R (5 + r) v1) (14 + r) v2 (14 + k) = R (14 + k) := by rw [mz_up, if_neg (by omega), mz_up, if_neg (by omega)]
  rw [b1, b2]
  unfold ms_oe
  rw [a1, a2]
  by_cases c1 : R (5 + k) = v1
  · rw [if_pos c1]
    constructor
    · exact fun g => Or.inl ⟨c1, g⟩
    · rintro (⟨-, g⟩ | ⟨g, -⟩)
      · exact g
      · exact absurd (c1.symm.trans g) ne
  · rw [if_neg c1]
    by_cases c2 : R (14 + k) = v1
    · rw [if_pos c2]
      constructor
      · exact fun g => Or.inr ⟨g, c2⟩
      · rintro (⟨g, -⟩ | ⟨g, -⟩)
        · exact absurd g c1
        · exact g
    · rw [if_neg c2]
      constructor
      · intro g
        rw [← g] at hb
        exact absurd hb (by decide)
      · rintro (⟨g, -⟩ | ⟨-, g⟩)
        · exact absurd g c1
        · exact absurd g c2
theorem mz_dup2 {T C M Rd Tr v1 v2 : Int32} {fr to fe mi ow ki bo va R fr' to' : Nat → Int32} (h : mz_el T C M Rd Tr fr to fe mi ow ki bo va R) (h0 : 0 ≤ Rd.toInt) (h8 : Rd.toInt ≤ 8) (ne : ¬ v1 = v2) (hb : 0 ≤ v2.toInt) (e1 : fr' = upd fr Rd.toNatClampNeg v1) (e2 : to' = upd to Rd.toNatClampNeg v2) (hx : ∃ k : Nat, (k : Int) < Rd.toInt ∧ ms_oe fr' to' k v1 = v2) : mz_du (upd (upd R (5 + Rd.toNatClampNeg) v1) (14 + Rd.toNatClampNeg) v2) Rd.toNatClampNeg (upd (upd R (5 + Rd.toNatClampNeg) v1) (14 + Rd.toNatClampNeg) v2 (5 + Rd.toNatClampNeg)) (upd (upd R (5 + Rd.toNatClampNeg) v1) (14 + Rd.toNatClampNeg) v2 (14 + Rd.toNatClampNeg)) := by
  obtain ⟨k, hk, g⟩ := hx
  have q := (mz_dupE h h0 h8 ne hb e1 e2 k hk).mp g
  rw [mz_a5, mz_a14]
  exact Or.inr ⟨k, by have := (mz_rle h0 h8).2; omega, q⟩
theorem mz_dup3 {T C M Rd Tr v1 v2 : Int32} {fr to fe mi ow ki bo va R fr' to' : Nat → Int32} (h : mz_el T C M Rd Tr fr to fe mi ow ki bo va R) (h0 : 0 ≤ Rd.toInt) (h8 : Rd.toInt ≤ 8) (ne : ¬ v1 = v2) (hb : 0 ≤ v2.toInt) (e1 : fr' = upd fr Rd.toNatClampNeg v1) (e2 : to' = upd to Rd.toNatClampNeg v2) (hx : ∀ k : Nat, (k : Int) < Rd.toInt → ¬ ms_oe fr' to' k v1 = v2) : ¬ mz_du (upd (upd R (5 + Rd.toNatClampNeg) v1) (14 + Rd.toNatClampNeg) v2) Rd.toNatClampNeg (upd (upd R (5 + Rd.toNatClampNeg) v1) (14 + Rd.toNatClampNeg) v2 (5 + Rd.toNatClampNeg)) (upd (upd R (5 + Rd.toNatClampNeg) v1) (14 + Rd.toNatClampNeg) v2 (14 + Rd.toNatClampNeg)) := by
  rw [mz_a5, mz_a14]
  rintro (g | ⟨k, hk, g⟩)
  · exact ne g
  · have hk2 : (k : Int) < Rd.toInt := by have := (mz_rle h0 h8).2; omega
    exact hx k hk2 ((mz_dupE h h0 h8 ne hb e1 e2 k hk2).mpr g)
theorem mz_elR {T C M Rd Tr Rd' v1 v2 v3 v4 v5 : Int32} {fr to fe mi ow ki bo va R fr' to' fe' mi' ow' : Nat → Int32} (h : mz_el T C M Rd Tr fr to fe mi ow ki bo va R) (h0 : 0 ≤ Rd.toInt) (h8 : Rd.toInt ≤ 8) (e1 : fr' = upd fr Rd.toNatClampNeg v1) (e2 : to' = upd to Rd.toNatClampNeg v2) (e3 : fe' = upd fe Rd.toNatClampNeg v3) (e4 : mi' = upd mi Rd.toNatClampNeg v4) (e5 : ow' = upd ow Rd.toNatClampNeg v5) (eR : Rd'.toInt = Rd.toInt + 1) : mz_el T C M Rd' Tr fr' to' fe' mi' ow' ki bo va (upd (upd (upd (upd (upd (upd R (5 + Rd.toNatClampNeg) v1) (14 + Rd.toNatClampNeg) v2) 3 (upd (upd R (5 + Rd.toNatClampNeg) v1) (14 + Rd.toNatClampNeg) v2 3 + 1)) (23 + Rd.toNatClampNeg) v3) (32 + Rd.toNatClampNeg) v4) (41 + Rd.toNatClampNeg) v5) := by
  obtain ⟨q1, q2⟩ := mz_rle h0 h8
  obtain ⟨⟨g0, g1, g2, g3, g4⟩, g5, g6, g7⟩ := h
  generalize Rd.toNatClampNeg = r at *
  subst e1 e2 e3 e4 e5
  simp only [mz_el, mz_up]
  refine ⟨⟨?_, ?_, ?_, ?_, ?_⟩, fun k hk => ?_, fun t ht => ?_, fun t ht ht6 => ?_⟩
  · repeat (first | rw [if_neg (by omega)] | rw [if_pos (by omega)] | rw [if_pos True.intro])
    exact g0
  · repeat (first | rw [if_neg (by omega)] | rw [if_pos (by omega)] | rw [if_pos True.intro])
    exact g1
  · repeat (first | rw [if_neg (by omega)] | rw [if_pos (by omega)] | rw [if_pos True.intro])
    exact g2
  · repeat (first | rw [if_neg (by omega)] | rw [if_pos (by omega)] | rw [if_pos True.intro])
    rw [← g3]
    exact mz_inc eR
  · repeat (first | rw [if_neg (by omega)] | rw [if_pos (by omega)] | rw [if_pos True.intro])
    exact g4
  · by_cases hc : k = r
    · subst hc
      refine ⟨?_, ?_, ?_, ?_, ?_⟩ <;> repeat (first | rw [if_neg (by omega)] | rw [if_pos (by omega)] | rw [if_pos True.intro])
    · have hk2 := g5 k (by omega)
      refine ⟨?_, ?_, ?_, ?_, ?_⟩
      · repeat (first | rw [if_neg (by omega)] | rw [if_pos (by omega)] | rw [if_pos True.intro])
        exact hk2.1
      · repeat (first | rw [if_neg (by omega)] | rw [if_pos (by omega)] | rw [if_pos True.intro])
        exact hk2.2.1
      · repeat (first | rw [if_neg (by omega)] | rw [if_pos (by omega)] | rw [if_pos True.intro])
        exact hk2.2.2.1
      · repeat (first | rw [if_neg (by omega)] | rw [if_pos (by omega)] | rw [if_pos True.intro])
        exact hk2.2.2.2.1
      · repeat (first | rw [if_neg (by omega)] | rw [if_pos (by omega)] | rw [if_pos True.intro])
        exact hk2.2.2.2.2
  · have hk2 := g6 t ht
    have h6 : t < 12 ∨ 12 ≤ t := by omega
    refine ⟨?_, ?_, ?_⟩
    · repeat (first | rw [if_neg (by omega)] | rw [if_pos (by omega)] | rw [if_pos True.intro])
      exact hk2.1
    · repeat (first | rw [if_neg (by omega)] | rw [if_pos (by omega)] | rw [if_pos True.intro])
      exact hk2.2.1
    · repeat (first | rw [if_neg (by omega)] | rw [if_pos (by omega)] | rw [if_pos True.intro])
      exact hk2.2.2
  · repeat (first | rw [if_neg (by omega)] | rw [if_pos (by omega)] | rw [if_pos True.intro])
    exact g7 t ht ht6
theorem mz_R41 {R : Nat → Int32} {r : Nat} {v1 v2 x v3 v4 c z : Int32} (hc : c = R 1) (hz : z = c - 1) : z = upd (upd (upd (upd (upd R (5 + r) v1) (14 + r) v2) 3 x) (23 + r) v3) (32 + r) v4 1 - 1 := by
  simp only [mz_up]
  repeat (first | rw [if_neg (by omega)] | rw [if_pos (by omega)] | rw [if_pos True.intro])
  rw [hz, hc]
theorem mz_R2w {f : Nat → Int32} {n last b2 w wa : Int32} {r : Nat} {s s2 : mz_S} (h2 : mz_NU f n (14 + r) 0 last s (.inr s2)) (hs : mz_SK f n s.1 b2) (du : mz_du s2.2 r (s2.2 (5 + r)) (s2.2 (14 + r))) (hw : w = 4) (e2 : wa = b2) : mz_R2 f n r last s (.inl (w, wa)) := by
  subst e2
  exact mz_R2a h2 hs du hw
/-! a treaty: the class's steps -/
def mz_bq (Rg R : Nat → Int32) (T : Nat) (bo bo' : Nat → Int32) : Prop := (∀ j : Nat, ¬ j = 62 + T → ¬ j = 56 + T → R j = Rg j) ∧ bo' T = R (56 + T) ∧ ∀ j : Nat, ¬ j = T → bo' j = bo j
def mz_bi (f : Nat → Int32) (n : Int32) (T : Nat) (last p : Int32) (p0 : Int32) (Rg bo bo' : Nat → Int32) (w : Int32) : Prop := (∃ R : Nat → Int32, (∀ o : mz_O, mz_BL f n T last (p, R) o → mz_BL f n T (-1) (p0, Rg) o) ∧ mz_bq Rg R T bo bo') ∧ w = 0
theorem mz_bi0 {f : Nat → Int32} {n p w : Int32} {T : Nat} {Rg bo bo' : Nat → Int32} (hw : w = 0) (h : Rg (56 + T) = 0) (e : bo' = upd bo T 0) : mz_bi f n T (-1) p p Rg bo bo' w := by
  subst e
  refine ⟨⟨Rg, fun _ g => g, fun _ _ _ => rfl, ?_, fun j hj => ?_⟩, hw⟩
  · rw [mz_up, if_pos rfl, h]
  · rw [mz_up, if_neg hj]
theorem mz_biN {Rg R : Nat → Int32} {T : Nat} {rd hi : Int32} (h : ∀ j : Nat, ¬ j = 62 + T → ¬ j = 56 + T → R j = Rg j) (hrd : rd = Rg 3) (hh : hi = rd - 1) : hi = R 3 - 1 := by
  rw [hh, hrd, h 3 (by omega) (by omega)]
theorem mz_bR {R : Nat → Int32} {T : Nat} {v : Int32} : upd R (62 + T) v (62 + T) = v ∧ upd R (62 + T) v (56 + T) = R (56 + T) := by
  rw [mz_up, if_pos rfl, mz_up, if_neg (by omega)]
  exact ⟨rfl, rfl⟩
theorem mz_blf {f : Nat → Int32} {n last p p0 w0 w wa hi rd : Int32} {T : Nat} {Rg bo bo1 : Nat → Int32} (h : mz_bi f n T last p p0 Rg bo bo1 w0) (rn : mz_RN f n 0 hi p (.inl (w, wa))) (hrd : rd = Rg 3) (hh : hi = rd - 1) : mz_BL f n T (-1) (p0, Rg) (.inl (w, wa)) := by
  obtain ⟨⟨R, h1, h2, -⟩, -⟩ := h
  have q := mz_biN h2 hrd hh
  subst q
  exact h1 _ (mz_BL1 (s := (p, R)) (mz_NUl rn))
theorem mz_blr {f : Nat → Int32} {n last p p0 w0 w wa hi rd v e nb : Int32} {T : Nat} {Rg bo bo1 : Nat → Int32} (h : mz_bi f n T last p p0 Rg bo bo1 w0) (rn : mz_RN f n 0 hi p (.inr (v, e))) (sk : mz_SK f n p nb) (hrd : rd = Rg 3) (hh : hi = rd - 1) (c : v ≤ last) (e1 : w = 4) (e2 : wa = nb) : mz_BL f n T (-1) (p0, Rg) (.inl (w, wa)) := by
  obtain ⟨⟨R, h1, h2, -⟩, -⟩ := h
  have q := mz_biN h2 hrd hh
  subst q e1 e2
  refine h1 _ (mz_BL2 (s := (p, R)) (mz_NUr rn) sk ?_)
  show (upd R (62 + T) v (62 + T)).toInt ≤ last.toInt
  rw [mz_bR.1]
  exact Int32.le_iff_toInt_le.mp c
theorem mz_bq2 {Rg R bo bo1 bo2 : Nat → Int32} {T : Nat} {v z old sh : Int32} (hq : mz_bq Rg R T bo bo1) (e : bo2 = upd bo1 T z) (ez : z = old ||| sh) (es : sh = (1 : Int32) <<< (v &&& 31)) (eo : old = bo1 T) : mz_bq Rg (upd (upd R (62 + T) v) (56 + T) (mz_sb (upd R (62 + T) v (56 + T)) (upd R (62 + T) v (62 + T)))) T bo bo2 := by
  obtain ⟨h1, h2, h3⟩ := hq
  subst es ez e
  refine ⟨fun j a b => ?_, ?_, fun j hj => ?_⟩
  · rw [mz_up, if_neg b, mz_up, if_neg a]
    exact h1 j a b
  · rw [mz_up, if_pos rfl, mz_up, if_pos rfl, mz_bR.1, mz_bR.2, eo, h2]
    rfl
  · rw [mz_up, if_neg hj]
    exact h3 j hj
theorem mz_bls {f : Nat → Int32} {n last p p0 w0 w' hi rd v e nb b2 p' z old sh : Int32} {T : Nat} {Rg bo bo1 bo2 : Nat → Int32} (h : mz_bi f n T last p p0 Rg bo bo1 w0) (rn : mz_RN f n 0 hi p (.inr (v, e))) (sk : mz_SK f n p nb) (hw : w' = w0) (hrd : rd = Rg 3) (hh : hi = rd - 1) (c : last.toInt < v.toInt) (eb : bo2 = upd bo1 T z) (ez : z = old ||| sh) (es : sh = (1 : Int32) <<< (v &&& 31)) (eo : old = bo1 T) (sk2 : mz_SK f n e b2) (h44 : ms_hr f b2 n = 44) (ep : p'.toInt = b2.toInt + 1) : mz_bi f n T v p' p0 Rg bo bo2 w' := by
  obtain ⟨⟨R, h1, h2⟩, h3⟩ := h
  have q := mz_biN h2.1 hrd hh
  have ep2 := mz_inc ep
  subst q ep2
  refine ⟨⟨_, fun o g => h1 o (mz_BL4 (s := (p, R)) (mz_NUr rn) sk ?_ sk2 h44 ?_), mz_bq2 h2 eb ez es eo⟩, hw.trans h3⟩
  · show last.toInt < (upd R (62 + T) v (62 + T)).toInt
    rw [mz_bR.1]
    exact c
  · show mz_BL f n T (upd R (62 + T) v (62 + T)) _ o
    rw [mz_bR.1]
    exact g
theorem mz_ble {f : Nat → Int32} {n last p p0 w0 w' hi rd v e nb b2 z old sh : Int32} {T : Nat} {Rg bo bo1 bo2 : Nat → Int32} (h : mz_bi f n T last p p0 Rg bo bo1 w0) (rn : mz_RN f n 0 hi p (.inr (v, e))) (sk : mz_SK f n p nb) (hw : w' = w0) (hrd : rd = Rg 3) (hh : hi = rd - 1) (c : last.toInt < v.toInt) (eb : bo2 = upd bo1 T z) (ez : z = old ||| sh) (es : sh = (1 : Int32) <<< (v &&& 31)) (eo : old = bo1 T) (sk2 : mz_SK f n e b2) (h44 : ¬ ms_hr f b2 n = 44) : ∃ (q : Int32) (R : Nat → Int32), mz_BL f n T (-1) (p0, Rg) (.inr (q, R)) ∧ mz_SK f n q b2 ∧ mz_bq Rg R T bo bo2 ∧ w' = 0 := by
  obtain ⟨⟨R, h1, h2⟩, h3⟩ := h
  have q := mz_biN h2.1 hrd hh
  subst q
  refine ⟨_, _, h1 _ (mz_BL3 (s := (p, R)) (mz_NUr rn) sk ?_ sk2 h44), sk2, mz_bq2 h2 eb ez es eo, hw.trans h3⟩
  show last.toInt < (upd R (62 + T) v (62 + T)).toInt
  rw [mz_bR.1]
  exact c
theorem mz_nl {k k' l l' : Int32} (h : k.toInt ≤ l.toInt + 1) (c : l.toInt < l'.toInt) (e : k'.toInt = k.toInt + 1) : k'.toInt ≤ l'.toInt + 1 := by omega
theorem mz_n9 {k l : Int32} (h : k.toInt ≤ l.toInt + 1) (g : l.toInt ≤ 8) : k.toInt ≤ 9 := by omega
theorem mz_RNs {f : Nat → Int32} {n lo hi p b : Int32} {o : (Int32 × Int32) ⊕ (Int32 × Int32)} (sk : mz_SK f n p b) (h : mz_RN f n lo hi b o) : mz_RN f n lo hi p o := by
  obtain ⟨sg, b', c, v, e, ⟨h1, h2⟩, h3⟩ := h
  obtain rfl := mz_SKd (mz_SKq sk) h1
  exact ⟨sg, b, c, v, e, ⟨sk, h2⟩, h3⟩
theorem mz_TRc {f : Nat → Int32} {n b p T C M Rd Tr : Int32} {fr to fe mi ow ki bo va R : Nat → Int32} {o : mz_O} (h : mz_el T C M Rd Tr fr to fe mi ow ki bo va R) (h5 : Tr.toInt ≤ 5) (g : mz_BI (mz_NU f n (50 + Tr.toNatClampNeg) 0 2) (mz_BI (mz_BL f n Tr.toNatClampNeg (-1)) (mz_T3 f n Tr.toNatClampNeg)) (p, R) o) : mz_TR f n b (p, R) o := by
  obtain ⟨⟨-, -, -, -, h4⟩, -⟩ := h
  rw [h4] at g
  refine Or.inr ⟨fun q => ?_, g⟩
  have q2 : R 4 = 6 := q
  rw [h4, q2, show (6 : Int32).toInt = 6 by decide] at h5
  omega
theorem mz_tle {r : Int32} (h0 : 0 ≤ r.toInt) (h8 : r.toInt ≤ 5) : r.toNatClampNeg ≤ 5 ∧ ((r.toNatClampNeg : Nat) : Int) = r.toInt := by
  show r.toInt.toNat ≤ 5 ∧ ((r.toInt.toNat : Nat) : Int) = r.toInt
  omega
theorem mz_bpre {T C M Rd Tr v1 : Int32} {fr to fe mi ow ki bo va R : Nat → Int32} (h : mz_el T C M Rd Tr fr to fe mi ow ki bo va R) (h0 : 0 ≤ Tr.toInt) (h5 : Tr.toInt ≤ 5) : Rd = upd R (50 + Tr.toNatClampNeg) v1 3 ∧ upd R (50 + Tr.toNatClampNeg) v1 (56 + Tr.toNatClampNeg) = 0 := by
  obtain ⟨q1, q2⟩ := mz_tle h0 h5
  obtain ⟨⟨-, -, -, h3, -⟩, -, -, h7⟩ := h
  rw [mz_up, if_neg (by omega), mz_up, if_neg (by omega)]
  exact ⟨h3, h7 _ (by omega) (by omega)⟩
theorem mz_elT {T C M Rd Tr Tr' v1 v3 : Int32} {fr to fe mi ow ki bo va R R2 ki' bo' va' : Nat → Int32} (h : mz_el T C M Rd Tr fr to fe mi ow ki bo va R) (h0 : 0 ≤ Tr.toInt) (h5 : Tr.toInt ≤ 5) (e1 : ki' = upd ki Tr.toNatClampNeg v1) (hq : mz_bq (upd R (50 + Tr.toNatClampNeg) v1) R2 Tr.toNatClampNeg bo bo') (e3 : va' = upd va Tr.toNatClampNeg v3) (eT : Tr'.toInt = Tr.toInt + 1) (hR : Rd.toInt ≤ 9) : mz_el T C M Rd Tr' fr to fe mi ow ki' bo' va' (upd (upd R2 4 (R2 4 + 1)) (62 + Tr.toNatClampNeg) v3) := by
  obtain ⟨q1, q2⟩ := mz_tle h0 h5
  obtain ⟨⟨g0, g1, g2, g3, g4⟩, g5, g6, g7⟩ := h
  generalize Tr.toNatClampNeg = t at *
  obtain ⟨k1, k2, k3⟩ := hq
  subst e1 e3
  have z : ∀ j : Nat, ¬ j = 62 + t → ¬ j = 56 + t → ¬ j = 50 + t → R2 j = R j := fun j a b c => by
    rw [k1 j a b, mz_up, if_neg c]
  simp only [mz_el, mz_up]
  refine ⟨⟨?_, ?_, ?_, ?_, ?_⟩, fun k hk => ?_, fun k hk => ?_, fun k hk hk6 => ?_⟩
  · rw [if_neg (by omega), if_neg (by omega), z 0 (by omega) (by omega) (by omega)]
    exact g0
  · rw [if_neg (by omega), if_neg (by omega), z 1 (by omega) (by omega) (by omega)]
    exact g1
  · rw [if_neg (by omega), if_neg (by omega), z 2 (by omega) (by omega) (by omega)]
    exact g2
  · rw [if_neg (by omega), if_neg (by omega), z 3 (by omega) (by omega) (by omega)]
    exact g3
  · rw [if_neg (by omega), if_pos True.intro, z 4 (by omega) (by omega) (by omega), ← g4]
    exact mz_inc eT
  · have hk2 := g5 k hk
    refine ⟨?_, ?_, ?_, ?_, ?_⟩
    · rw [if_neg (by omega), if_neg (by omega), z _ (by omega) (by omega) (by omega)]
      exact hk2.1
    · rw [if_neg (by omega), if_neg (by omega), z _ (by omega) (by omega) (by omega)]
      exact hk2.2.1
    · rw [if_neg (by omega), if_neg (by omega), z _ (by omega) (by omega) (by omega)]
      exact hk2.2.2.1
    · rw [if_neg (by omega), if_neg (by omega), z _ (by omega) (by omega) (by omega)]
      exact hk2.2.2.2.1
    · rw [if_neg (by omega), if_neg (by omega), z _ (by omega) (by omega) (by omega)]
      exact hk2.2.2.2.2
  · by_cases hc : k = t
    · subst hc
      refine ⟨?_, ?_, ?_⟩
      · rw [if_pos rfl, if_neg (by omega), if_neg (by omega), k1 _ (by omega) (by omega), mz_up, if_pos rfl]
      · rw [if_neg (by omega), if_neg (by omega)]
        exact k2
      · rw [if_pos rfl, if_pos rfl]
    · have hk2 := g6 k (by omega)
      refine ⟨?_, ?_, ?_⟩
      · rw [if_neg hc, if_neg (by omega), if_neg (by omega), z _ (by omega) (by omega) (by omega)]
        exact hk2.1
      · rw [if_neg (by omega), if_neg (by omega), k3 k hc, z _ (by omega) (by omega) (by omega)]
        exact hk2.2.1
      · rw [if_neg hc, if_neg (by omega), if_neg (by omega), z _ (by omega) (by omega) (by omega)]
        exact hk2.2.2
  · rw [if_neg (by omega), if_neg (by omega), z _ (by omega) (by omega) (by omega)]
    exact g7 k (by omega) hk6
/-! a clause and the whole text: the class's steps -/
theorem mz_psm {X Y : mz_O → Prop} {E : (Nat → Int32) → Prop} {p w wa : Int32} (h : mz_ps X E p w wa) (g : ∀ o : mz_O, X o → Y o) : mz_ps Y E p w wa := by
  rcases h with ⟨h1, R, h2, h3⟩ | ⟨h1, h2⟩
  · exact Or.inl ⟨h1, R, g _ h2, h3⟩
  · exact Or.inr ⟨h1, g _ h2⟩
theorem mz_CLh {f : Nat → Int32} {n sg b p1 T : Int32} {R : Nat → Int32} {o : mz_O} (c : sg = 109) (z : T = 0) (hT : T = R 0) (e : p1 = b + 1) (g : mz_HD f n (p1, R) o) : mz_CL f n sg b (b + 1, R) o := by
  subst e
  exact Or.inl ⟨c, hT.symm.trans z, g⟩
theorem mz_CLr {f : Nat → Int32} {n sg b p1 T : Int32} {R : Nat → Int32} {o : mz_O} (c : sg = 114) (z : ¬ T = 0) (hT : T = R 0) (e : p1 = b + 1) (g : ∀ b0 : Int32, mz_RD f n b0 (p1, R) o) : mz_CL f n sg b (b + 1, R) o := by
  subst e
  exact Or.inr (Or.inr (Or.inr (Or.inl ⟨c, fun q => z (hT.trans q), g b⟩)))
theorem mz_CLt {f : Nat → Int32} {n sg b p1 T : Int32} {R : Nat → Int32} {o : mz_O} (c : sg = 116) (z : ¬ T = 0) (hT : T = R 0) (e : p1 = b + 1) (g : ∀ b0 : Int32, mz_TR f n b0 (p1, R) o) : mz_CL f n sg b (b + 1, R) o := by
  subst e
  exact Or.inr (Or.inr (Or.inr (Or.inr (Or.inr (Or.inl ⟨c, fun q => z (hT.trans q), g b⟩)))))
theorem mz_CA {f : Nat → Int32} {n sg b p T w wa : Int32} {R : Nat → Int32} (c : sg = 109) (z : ¬ T = 0) (hT : T = R 0) (e1 : w = 3) (e2 : wa = b) : mz_CL f n sg b (p, R) (.inl (w, wa)) := by
  subst e1 e2
  exact Or.inr (Or.inl ⟨c, fun q => z (hT.trans q), rfl⟩)
theorem mz_CB {f : Nat → Int32} {n sg b p T w wa : Int32} {R : Nat → Int32} (c : sg = 114) (z : T = 0) (hT : T = R 0) (e1 : w = 1) (e2 : wa = b) : mz_CL f n sg b (p, R) (.inl (w, wa)) := by
  subst e1 e2
  exact Or.inr (Or.inr (Or.inl ⟨c, hT.symm.trans z, rfl⟩))
theorem mz_CC {f : Nat → Int32} {n sg b p T w wa : Int32} {R : Nat → Int32} (c : sg = 116) (z : T = 0) (hT : T = R 0) (e1 : w = 1) (e2 : wa = b) : mz_CL f n sg b (p, R) (.inl (w, wa)) := by
  subst e1 e2
  exact Or.inr (Or.inr (Or.inr (Or.inr (Or.inl ⟨c, hT.symm.trans z, rfl⟩))))
theorem mz_CD {f : Nat → Int32} {n sg b p T Rd w wa : Int32} {R : Nat → Int32} (c : sg = 114) (z : ¬ T = 0) (hT : T = R 0) (h9 : Rd = 9) (hR : Rd = R 3) (e1 : w = 3) (e2 : wa = b) : mz_CL f n sg b (p, R) (.inl (w, wa)) := by
  subst e1 e2
  exact Or.inr (Or.inr (Or.inr (Or.inl ⟨c, fun q => z (hT.trans q), Or.inl ⟨hR.symm.trans h9, rfl⟩⟩)))
theorem mz_CE {f : Nat → Int32} {n sg b p T Tr w wa : Int32} {R : Nat → Int32} (c : sg = 116) (z : ¬ T = 0) (hT : T = R 0) (h9 : Tr = 6) (hR : Tr = R 4) (e1 : w = 3) (e2 : wa = b) : mz_CL f n sg b (p, R) (.inl (w, wa)) := by
  subst e1 e2
  exact Or.inr (Or.inr (Or.inr (Or.inr (Or.inr (Or.inl ⟨c, fun q => z (hT.trans q), Or.inl ⟨hR.symm.trans h9, rfl⟩⟩)))))
theorem mz_CF {f : Nat → Int32} {n sg b w wa : Int32} {s : mz_S} (c1 : ¬ sg = 109) (c2 : ¬ sg = 114) (c3 : ¬ sg = 116) (e1 : w = 1) (e2 : wa = b) : mz_CL f n sg b s (.inl (w, wa)) := by
  subst e1 e2
  exact mz_CL7 c1 c2 c3 rfl
theorem mz_hr0 {f : Nat → Int32} {n p : Int32} (c : p < n) (S : rg_S f 0 250 0 255) (h0 : 0 ≤ p.toInt) (hn : n.toInt ≤ 250) : 0 ≤ (ms_hr f p n).toInt := by
  have q := Int32.lt_iff_toInt_lt.mp c
  unfold ms_hr
  rw [if_pos c]
  exact (S p.toNatClampNeg (Nat.zero_le _) (by show p.toInt.toNat < 250; omega)).1
theorem mz_cvCL {f : Nat → Int32} {n p0 p sg c v e : Int32} {R : Nat → Int32} {o : mz_O} (tk : mz_TK f n p0 sg p c v e) (h0 : 0 ≤ (ms_hr f p n).toInt) (h : mz_CL f n (ms_hr f p n) p (p + 1, R) o) : 0 ≤ sg.toInt ∧ mz_CL f n sg p (e, R) o := by
  rcases tk.2 with ⟨-, rfl, -, -, he⟩ | ⟨hd, rfl, -⟩
  · rw [if_neg (by omega)] at he
    subst he
    exact ⟨h0, h⟩
  · refine ⟨by decide, ?_⟩
    have n1 : ¬ ms_hr f p n = 109 := fun q => by rw [q] at hd; exact absurd hd (by decide)
    have n2 : ¬ ms_hr f p n = 114 := fun q => by rw [q] at hd; exact absurd hd (by decide)
    have n3 : ¬ ms_hr f p n = 116 := fun q => by rw [q] at hd; exact absurd hd (by decide)
    rcases h with ⟨q, -⟩ | ⟨q, -⟩ | ⟨q, -⟩ | ⟨q, -⟩ | ⟨q, -⟩ | ⟨q, -⟩ | ⟨-, q⟩
    · exact absurd q n1
    · exact absurd q n1
    · exact absurd q n2
    · exact absurd q n2
    · exact absurd q n3
    · exact absurd q n3
    · subst q
      exact mz_CL7 (by decide) (by decide) (by decide) rfl
def mz_ri (f : Nat → Int32) (n : Int32) (Rg : Nat → Int32) (E : (Nat → Int32) → Prop) (p w wa : Int32) : Prop := (w = 0 ∧ wa = -1 ∧ ∃ (p0 : Int32) (R : Nat → Int32), mz_SK f n p0 p ∧ (∀ o : mz_Q, mz_MR f n (p0, R) o → mz_MR f n (0, Rg) o) ∧ E R) ∨ (¬ w = 0 ∧ mz_MR f n (0, Rg) (.inl (w, wa)))
def mz_ro (f : Nat → Int32) (n : Int32) (Rg : Nat → Int32) (E : (Nat → Int32) → Prop) (w wa : Int32) : Prop := (w = 0 ∧ wa = -1 ∧ ∃ R : Nat → Int32, mz_MR f n (0, Rg) (.inr R) ∧ E R) ∨ (¬ w = 0 ∧ mz_MR f n (0, Rg) (.inl (w, wa)))
theorem mz_el0 {T C M Rd Tr : Int32} {fr to fe mi ow ki bo va R : Nat → Int32} (h : ∀ k : Nat, k < 68 → R k = 0) (h0 : T = 0) (h1 : C = 0) (h2 : M = 0) (h3 : Rd = 0) (h4 : Tr = 0) : mz_el T C M Rd Tr fr to fe mi ow ki bo va R := by
  subst h0 h1 h2 h3 h4
  have e0 : (0 : Int32).toInt = 0 := by decide
  refine ⟨⟨(h 0 (by omega)).symm, (h 1 (by omega)).symm, (h 2 (by omega)).symm, (h 3 (by omega)).symm, (h 4 (by omega)).symm⟩, fun r hr => ?_, fun t ht => ?_, fun t _ ht => h _ (by omega)⟩
  · rw [e0] at hr
    omega
  · rw [e0] at ht
    omega
theorem mz_ris {f : Nat → Int32} {n p0 p p1 p2 w wa wa0 : Int32} {a1 a2 : Int} {Rg R : Nat → Int32} {E : (Nat → Int32) → Prop} (sk : mz_SK f n p0 p) (mr : ∀ o : mz_Q, mz_MR f n (p0, R) o → mz_MR f n (0, Rg) o) (h0 : 0 ≤ (ms_hr f p n).toInt) (h : mz_ps (fun o => mz_CL f n (ms_hr f p n) p (p + 1, R) o) E p1 w wa) (h2 : ¬ w = 0 ∨ (wa = wa0 ∧ a1 ≤ a2)) (sk2 : mz_SK f n p1 p2) (hwa : wa0 = -1) : mz_ri f n Rg E p2 w wa := by
  obtain ⟨sg, c, v, e, tk⟩ := mz_TKx sk
  rcases h with ⟨h3, R', h4, h5⟩ | ⟨h3, h4⟩
  · obtain ⟨q1, q2⟩ := mz_cvCL tk h0 h4
    rcases h2 with h2 | ⟨h2, -⟩
    · exact absurd h3 h2
    · exact Or.inl ⟨h3, h2.trans hwa, p1, R', sk2, fun o g => mr o (mz_MRs tk q1 q2 g), h5⟩
  · obtain ⟨q1, q2⟩ := mz_cvCL tk h0 h4
    exact Or.inr ⟨h3, mr _ (mz_MRf tk q1 q2)⟩
theorem mz_rox {f : Nat → Int32} {n p w wa : Int32} {Rg : Nat → Int32} {E : (Nat → Int32) → Prop} (h : mz_ri f n Rg E p w wa) (c : n ≤ p) : mz_ro f n Rg E w wa := by
  rcases h with ⟨h1, h2, p0, R, h3, h4, h5⟩ | h
  · obtain ⟨sg, c1, v, e, tk⟩ := mz_TKx h3
    have hs : sg.toInt < 0 := by
      rcases tk.2 with ⟨-, q, -⟩ | ⟨q, -⟩
      · rw [q, ← mz_hrn c]
        decide
      · exact absurd q (mz_nDm (mz_hrn c))
    exact Or.inl ⟨h1, h2, R, h4 _ (mz_MRe tk hs), h5⟩
  · exact Or.inr h
theorem mz_row {f : Nat → Int32} {n p w wa : Int32} {Rg : Nat → Int32} {E : (Nat → Int32) → Prop} (h : mz_ri f n Rg E p w wa) (c : ¬ w = 0) : mz_ro f n Rg E w wa := by
  rcases h with ⟨h1, -⟩ | h
  · exact absurd h1 c
  · exact Or.inr h
theorem mz_roi {f : Nat → Int32} {n p w wa k : Int32} {Rg : Nat → Int32} {E : (Nat → Int32) → Prop} (h : mz_ri f n Rg E p w wa) (h2 : ¬ w = 0 ∨ k.toInt ≤ p.toInt) (c : n ≤ k) : mz_ro f n Rg E w wa := by
  rcases h2 with h2 | h2
  · exact mz_row h h2
  · exact mz_rox h (Int32.le_iff_toInt_le.mpr (by have q := Int32.le_iff_toInt_le.mp c; omega))
theorem mz_cls {w0 k k' p p1 p2 w wa wa0 : Int32} (h : ¬ w0 = 0 ∨ k.toInt ≤ p.toInt) (hz : w0 = (0 : Int32)) (h2 : ¬ w = 0 ∨ (wa = wa0 ∧ p.toInt + 1 ≤ p1.toInt)) (h3 : p1.toInt + 0 ≤ p2.toInt) (e : k'.toInt = k.toInt + 1) : ¬ w = 0 ∨ k'.toInt ≤ p2.toInt := by
  rcases h2 with h2 | ⟨-, h2⟩
  · exact Or.inl h2
  · rcases h with h | h
    · exact absurd hz h
    · exact Or.inr (by omega)
/-! fill, and the images -/
def mz_fp (w : Nat → Int32) (k : Int) (v : Int32) : Prop := ∀ i : Nat, (i : Int) < k → w i = v
theorem mz_fp0 {w : Nat → Int32} {k v : Int32} (h : k.toInt ≤ 0) : mz_fp w k.toInt v := fun i hi => absurd hi (by omega)
theorem mz_fps {w w' : Nat → Int32} {k k' v : Int32} (h : mz_fp w k.toInt v) (e : w' = upd w k.toNatClampNeg v) (ek : k'.toInt = k.toInt + 1) (h0 : 0 ≤ k.toInt) : mz_fp w' k'.toInt v := fun i hi => by
  subst e
  rw [mz_up]
  by_cases hc : i = k.toNatClampNeg
  · rw [if_pos hc]
  · rw [if_neg hc]
    refine h i ?_
    have q : ¬ i = k.toInt.toNat := hc
    omega
theorem mz_fpm {w : Nat → Int32} {k n : Int} {v : Int32} (h : mz_fp w k v) (g : n ≤ k) : mz_fp w n v := fun i hi => h i (by omega)
theorem mz_fz {w : Nat → Int32} {n : Int} (h : mz_fp w n 0) : ms_zp w n := h
theorem mz_kA {i i' a b : Int32} (h : (i.toInt ≤ 0 ∨ a = 0) ∧ (i.toInt ≤ 1 ∨ b = 0)) (e : i'.toInt = i.toInt + 1) (c : i.toInt ≤ 0) : (i'.toInt ≤ 0 ∨ (0 : Int32) = 0) ∧ (i'.toInt ≤ 1 ∨ b = 0) := ⟨Or.inr rfl, Or.inl (by omega)⟩
theorem mz_kB {i i' a b : Int32} (h : (i.toInt ≤ 0 ∨ a = 0) ∧ (i.toInt ≤ 1 ∨ b = 0)) (e : i'.toInt = i.toInt + 1) (c : 1 ≤ i.toInt) : (i'.toInt ≤ 0 ∨ a = 0) ∧ (i'.toInt ≤ 1 ∨ (0 : Int32) = 0) := ⟨h.1.elim (fun q => absurd q (by omega)) Or.inr, Or.inr rfl⟩
theorem mz_nle {i : Int32} {k : Int} (h : 2 ≤ i.toInt) (g : decide (k < 2) = true) : ¬ i.toInt ≤ k := by
  have q := of_decide_eq_true g
  omega
