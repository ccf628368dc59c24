/-! reading a text, as relations: what class and reference both do. A state is a place in the text and the march as far as it is read. -/
abbrev mz_S : Type := Int32 × (Nat → Int32)
abbrev mz_O : Type := (Int32 × Int32) ⊕ mz_S
def mz_skF (f : Nat → Int32) (n : Int32) : Nat → Int32 → Option Int32
  | 0, _ => none
  | k + 1, p => if ms_hr f p n = 32 then mz_skF f n k (p + 1) else some p
def mz_SK (f : Nat → Int32) (n p q : Int32) : Prop := ∃ k : Nat, mz_skF f n k p = some q
theorem mz_skM {f : Nat → Int32} {n q : Int32} : ∀ (k : Nat) (p : Int32), mz_skF f n k p = some q → mz_skF f n (k + 1) p = some q := by
  intro k
  induction k with
  | zero => intro p h; simp [mz_skF] at h
  | succ k ih =>
    intro p h
    unfold mz_skF at h ⊢
    by_cases hc : ms_hr f p n = 32
    · rw [if_pos hc] at h ⊢
      exact ih (p + 1) h
    · rw [if_neg hc] at h ⊢
      exact h
theorem mz_skM2 {f : Nat → Int32} {n p q : Int32} {k : Nat} (h : mz_skF f n k p = some q) : ∀ m : Nat, mz_skF f n (k + m) p = some q := by
  intro m
  induction m with
  | zero => exact h
  | succ m ih => exact mz_skM _ _ ih
theorem mz_SKd {f : Nat → Int32} {n p a b : Int32} (h : mz_SK f n p a) (g : mz_SK f n p b) : a = b := by
  obtain ⟨k, h⟩ := h
  obtain ⟨m, g⟩ := g
  have h1 := mz_skM2 h m
  have g1 := mz_skM2 g k
  rw [Nat.add_comm m k, h1] at g1
  exact Option.some.inj g1
theorem mz_SKs {f : Nat → Int32} {n p q z : Int32} (h : ms_hr f p n = 32) (e : z = p + 1) (g : mz_SK f n z q) : mz_SK f n p q := by
  subst e
  obtain ⟨k, g⟩ := g
  refine ⟨k + 1, ?_⟩
  unfold mz_skF
  rw [if_pos h]
  exact g
theorem mz_SK0 {f : Nat → Int32} {n p : Int32} (h : ¬ ms_hr f p n = 32) : mz_SK f n p p := by
  refine ⟨1, ?_⟩
  unfold mz_skF
  rw [if_neg h]
/-- where the blanks end there is none -/
theorem mz_SKn {f : Nat → Int32} {n p q : Int32} (h : mz_SK f n p q) : ¬ ms_hr f q n = 32 := by
  obtain ⟨k, h⟩ := h
  induction k generalizing p with
  | zero => simp [mz_skF] at h
  | succ k ih =>
    unfold mz_skF at h
    by_cases hc : ms_hr f p n = 32
    · rw [if_pos hc] at h
      exact ih h
    · rw [if_neg hc] at h
      cases h
      exact hc
theorem mz_SKq {f : Nat → Int32} {n p q : Int32} (h : mz_SK f n p q) : mz_SK f n q q := mz_SK0 (mz_SKn h)
/-- figures -/
abbrev mz_D (x : Int32) : Prop := 48 ≤ x.toInt ∧ x.toInt ≤ 57
def mz_dv (c v x : Int32) : Int32 := if c.toInt < 3 then 10 * v + x - 48 else v
def mz_dgF (f : Nat → Int32) (n : Int32) : Nat → Int32 → Int32 → Int32 → Option (Int32 × Int32 × Int32)
  | 0, _, _, _ => none
  | k + 1, p, c, v => if mz_D (ms_hr f p n) then mz_dgF f n k (p + 1) (c + 1) (mz_dv c v (ms_hr f p n)) else some (p, c, v)
def mz_DG (f : Nat → Int32) (n p c v : Int32) (t : Int32 × Int32 × Int32) : Prop := ∃ k : Nat, mz_dgF f n k p c v = some t
theorem mz_dgM {f : Nat → Int32} {n : Int32} {t : Int32 × Int32 × Int32} : ∀ (k : Nat) (p c v : Int32), mz_dgF f n k p c v = some t → mz_dgF f n (k + 1) p c v = some t := by
  intro k
  induction k with
  | zero => intro p c v h; simp [mz_dgF] at h
  | succ k ih =>
    intro p c v h
    unfold mz_dgF at h ⊢
    by_cases hc : mz_D (ms_hr f p n)
    · rw [if_pos hc] at h ⊢
      exact ih _ _ _ h
    · rw [if_neg hc] at h ⊢
      exact h
theorem mz_dgM2 {f : Nat → Int32} {n p c v : Int32} {t : Int32 × Int32 × Int32} {k : Nat} (h : mz_dgF f n k p c v = some t) : ∀ m : Nat, mz_dgF f n (k + m) p c v = some t := by
  intro m
  induction m with
  | zero => exact h
  | succ m ih => exact mz_dgM _ _ _ _ ih
theorem mz_DGd {f : Nat → Int32} {n p c v : Int32} {a b : Int32 × Int32 × Int32} (h : mz_DG f n p c v a) (g : mz_DG f n p c v b) : a = b := by
  obtain ⟨k, h⟩ := h
  obtain ⟨m, g⟩ := g
  have h1 := mz_dgM2 h m
  have g1 := mz_dgM2 g k
  rw [Nat.add_comm m k, h1] at g1
  exact Option.some.inj g1
theorem mz_DGs {f : Nat → Int32} {n p c v p' c' v' : Int32} {t : Int32 × Int32 × Int32} (h : mz_D (ms_hr f p n)) (e1 : p' = p + 1) (e2 : c' = c + 1) (e3 : v' = mz_dv c v (ms_hr f p n)) (g : mz_DG f n p' c' v' t) : mz_DG f n p c v t := by
  subst e1 e2 e3
  obtain ⟨k, g⟩ := g
  refine ⟨k + 1, ?_⟩
  unfold mz_dgF
  rw [if_pos h]
  exact g
theorem mz_DG0 {f : Nat → Int32} {n p c v : Int32} (h : ¬ mz_D (ms_hr f p n)) : mz_DG f n p c v (p, c, v) := by
  refine ⟨1, ?_⟩
  unfold mz_dgF
  rw [if_neg h]
/-- a sign, and where it begins; figures are one sign, 48 -/
def mz_TK (f : Nat → Int32) (n p sg b c v e : Int32) : Prop := mz_SK f n p b ∧ ((¬ mz_D (ms_hr f b n) ∧ sg = ms_hr f b n ∧ c = 0 ∧ v = 0 ∧ e = (if (ms_hr f b n).toInt < 0 then b else b + 1)) ∨ (mz_D (ms_hr f b n) ∧ sg = 48 ∧ mz_DG f n b 0 0 (e, c, v)))
theorem mz_TKd {f : Nat → Int32} {n p sg b c v e sg' b' c' v' e' : Int32} (h : mz_TK f n p sg b c v e) (g : mz_TK f n p sg' b' c' v' e') : sg = sg' ∧ b = b' ∧ c = c' ∧ v = v' ∧ e = e' := by
  obtain ⟨h1, h2⟩ := h
  obtain ⟨g1, g2⟩ := g
  obtain rfl := mz_SKd h1 g1
  rcases h2 with ⟨k1, rfl, rfl, rfl, rfl⟩ | ⟨k1, rfl, k2⟩ <;> rcases g2 with ⟨l1, rfl, rfl, rfl, rfl⟩ | ⟨l1, rfl, l2⟩
  · exact ⟨rfl, rfl, rfl, rfl, rfl⟩
  · exact absurd l1 k1
  · exact absurd k1 l1
  · have q := mz_DGd k2 l2
    simp only [Prod.mk.injEq] at q
    exact ⟨rfl, rfl, q.2.1, q.2.2, q.1⟩
/-- a number between two bounds: its fault and where, or its value and the place behind it -/
def mz_RN (f : Nat → Int32) (n lo hi p : Int32) (o : (Int32 × Int32) ⊕ (Int32 × Int32)) : Prop := ∃ sg b c v e : Int32, mz_TK f n p sg b c v e ∧ ((¬ sg = 48 ∧ o = .inl (1, b)) ∨ (sg = 48 ∧ (3 < c.toInt ∨ v.toInt < lo.toInt ∨ hi.toInt < v.toInt) ∧ o = .inl (2, b)) ∨ (sg = 48 ∧ ¬ (3 < c.toInt ∨ v.toInt < lo.toInt ∨ hi.toInt < v.toInt) ∧ o = .inr (v, e)))
theorem mz_RNd {f : Nat → Int32} {n lo hi p : Int32} {a b : (Int32 × Int32) ⊕ (Int32 × Int32)} (h : mz_RN f n lo hi p a) (g : mz_RN f n lo hi p b) : a = b := by
  obtain ⟨sg, b1, c, v, e, h1, h2⟩ := h
  obtain ⟨sg', b1', c', v', e', g1, g2⟩ := g
  obtain ⟨rfl, rfl, rfl, rfl, rfl⟩ := mz_TKd h1 g1
  rcases h2 with ⟨k1, rfl⟩ | ⟨k1, k2, rfl⟩ | ⟨k1, k2, rfl⟩ <;> rcases g2 with ⟨l1, rfl⟩ | ⟨l1, l2, rfl⟩ | ⟨l1, l2, rfl⟩ <;> first | rfl | exact absurd l1 k1 | exact absurd k1 l1 | exact absurd l2 k2 | exact absurd k2 l2
def mz_NU (f : Nat → Int32) (n : Int32) (k : Nat) (lo hi : Int32) (s : mz_S) (o : mz_O) : Prop := (∃ q : Int32 × Int32, mz_RN f n lo hi s.1 (.inl q) ∧ o = .inl q) ∨ (∃ v e : Int32, mz_RN f n lo hi s.1 (.inr (v, e)) ∧ o = .inr (e, upd s.2 k v))
def mz_EN (f : Nat → Int32) (n : Int32) (s : mz_S) (o : mz_O) : Prop := ∃ sg b c v e : Int32, mz_TK f n s.1 sg b c v e ∧ ((sg = 59 ∧ o = .inr (e, s.2)) ∨ (¬ sg = 59 ∧ o = .inl (1, b)))
def mz_BI (X Y : mz_S → mz_O → Prop) (s : mz_S) (o : mz_O) : Prop := (∃ q : Int32 × Int32, X s (.inl q) ∧ o = .inl q) ∨ (∃ s1 : mz_S, X s (.inr s1) ∧ Y s1 o)
def mz_DT (X : mz_S → mz_O → Prop) : Prop := ∀ (s : mz_S) (a b : mz_O), X s a → X s b → a = b
theorem mz_NUd {f : Nat → Int32} {n lo hi : Int32} {k : Nat} : mz_DT (mz_NU f n k lo hi) := by
  intro s a b h g
  rcases h with ⟨q, h1, rfl⟩ | ⟨v, e, h1, rfl⟩ <;> rcases g with ⟨q', g1, rfl⟩ | ⟨v', e', g1, rfl⟩
  · have := mz_RNd h1 g1; cases this; rfl
  · cases (mz_RNd h1 g1)
  · cases (mz_RNd h1 g1)
  · have := mz_RNd h1 g1; cases this; rfl
theorem mz_ENd {f : Nat → Int32} {n : Int32} : mz_DT (mz_EN f n) := by
  intro s a b h g
  obtain ⟨sg, b1, c, v, e, h1, h2⟩ := h
  obtain ⟨sg', b1', c', v', e', g1, g2⟩ := g
  obtain ⟨rfl, rfl, rfl, rfl, rfl⟩ := mz_TKd h1 g1
  rcases h2 with ⟨k1, rfl⟩ | ⟨k1, rfl⟩ <;> rcases g2 with ⟨l1, rfl⟩ | ⟨l1, rfl⟩ <;> first | rfl | exact absurd l1 k1 | exact absurd k1 l1
theorem mz_BId {X Y : mz_S → mz_O → Prop} (hX : mz_DT X) (hY : mz_DT Y) : mz_DT (mz_BI X Y) := by
  intro s a b h g
  rcases h with ⟨q, h1, rfl⟩ | ⟨s1, h1, h2⟩ <;> rcases g with ⟨q', g1, rfl⟩ | ⟨s1', g1, g2⟩
  · exact hX _ _ _ h1 g1
  · cases (hX _ _ _ h1 g1)
  · cases (hX _ _ _ h1 g1)
  · have e := hX _ _ _ h1 g1
    cases e
    exact hY _ _ _ h2 g2
/-- the head -/
def mz_HD (f : Nat → Int32) (n : Int32) : mz_S → mz_O → Prop := mz_BI (mz_NU f n 0 2 6) (mz_BI (mz_NU f n 1 1 4) (mz_BI (mz_NU f n 2 1 9) (mz_EN f n)))
theorem mz_HDd {f : Nat → Int32} {n : Int32} : mz_DT (mz_HD f n) := mz_BId mz_NUd (mz_BId mz_NUd (mz_BId mz_NUd mz_ENd))
/-- a road -/
def mz_du (R : Nat → Int32) (r : Nat) (a b : Int32) : Prop := a = b ∨ ∃ k : Nat, k < r ∧ ((R (5 + k) = a ∧ R (14 + k) = b) ∨ (R (5 + k) = b ∧ R (14 + k) = a))
def mz_R3 (f : Nat → Int32) (n : Int32) (r : Nat) : mz_S → mz_O → Prop := mz_BI (mz_NU f n (23 + r) 1 99) (mz_BI (mz_NU f n (32 + r) 1 99) (mz_BI (fun s => mz_NU f n (41 + r) 0 (s.2 1 - 1) s) (mz_EN f n)))
theorem mz_NUd' {f : Nat → Int32} {n lo : Int32} {k : Nat} {hi : mz_S → Int32} : mz_DT (fun s => mz_NU f n k lo (hi s) s) := fun s a b h g => mz_NUd s a b h g
theorem mz_R3d {f : Nat → Int32} {n : Int32} {r : Nat} : mz_DT (mz_R3 f n r) := mz_BId mz_NUd (mz_BId mz_NUd (mz_BId mz_NUd' mz_ENd))
def mz_R2 (f : Nat → Int32) (n : Int32) (r : Nat) (last : Int32) (s : mz_S) (o : mz_O) : Prop := (∃ q : Int32 × Int32, mz_NU f n (14 + r) 0 last s (.inl q) ∧ o = .inl q) ∨ (∃ (s2 : mz_S) (b2 : Int32), mz_NU f n (14 + r) 0 last s (.inr s2) ∧ mz_SK f n s.1 b2 ∧ ((mz_du s2.2 r (s2.2 (5 + r)) (s2.2 (14 + r)) ∧ o = .inl (4, b2)) ∨ (¬ mz_du s2.2 r (s2.2 (5 + r)) (s2.2 (14 + r)) ∧ mz_R3 f n r (s2.1, upd s2.2 3 (s2.2 3 + 1)) o)))
theorem mz_R2d {f : Nat → Int32} {n last : Int32} {r : Nat} : mz_DT (mz_R2 f n r last) := by
  intro s a b h g
  rcases h with ⟨q, h1, rfl⟩ | ⟨s1, b1, h1, h2, h3⟩ <;> rcases g with ⟨q', g1, rfl⟩ | ⟨s1', b1', g1, g2, g3⟩
  · exact mz_NUd _ _ _ h1 g1
  · cases (mz_NUd _ _ _ h1 g1)
  · cases (mz_NUd _ _ _ h1 g1)
  · have e := mz_NUd _ _ _ h1 g1
    cases e
    obtain rfl := mz_SKd h2 g2
    rcases h3 with ⟨k1, rfl⟩ | ⟨k1, k2⟩ <;> rcases g3 with ⟨l1, rfl⟩ | ⟨l1, l2⟩
    · rfl
    · exact absurd k1 l1
    · exact absurd l1 k1
    · exact mz_R3d _ _ _ k2 l2
def mz_RD (f : Nat → Int32) (n b0 : Int32) (s : mz_S) (o : mz_O) : Prop := (s.2 3 = 9 ∧ o = .inl (3, b0)) ∨ (¬ s.2 3 = 9 ∧ mz_BI (mz_NU f n (5 + (s.2 3).toNatClampNeg) 0 (s.2 0 - 1)) (mz_R2 f n (s.2 3).toNatClampNeg (s.2 0 - 1)) s o)
theorem mz_RDd {f : Nat → Int32} {n b0 : Int32} : mz_DT (mz_RD f n b0) := by
  intro s a b h g
  rcases h with ⟨k1, rfl⟩ | ⟨k1, k2⟩ <;> rcases g with ⟨l1, rfl⟩ | ⟨l1, l2⟩
  · rfl
  · exact absurd k1 l1
  · exact absurd l1 k1
  · exact mz_BId mz_NUd mz_R2d _ _ _ k2 l2
/-- a treaty -/
def mz_sb (x v : Int32) : Int32 := x ||| ((1 : Int32) <<< (v &&& 31))
def mz_BF (f : Nat → Int32) (n : Int32) (t : Nat) : Nat → Int32 → mz_S → mz_O → Prop
  | 0, _, _, _ => False
  | k + 1, last, s, o => (∃ q : Int32 × Int32, mz_NU f n (62 + t) 0 (s.2 3 - 1) s (.inl q) ∧ o = .inl q) ∨ (∃ (s1 : mz_S) (b1 : Int32), mz_NU f n (62 + t) 0 (s.2 3 - 1) s (.inr s1) ∧ mz_SK f n s.1 b1 ∧ (((s1.2 (62 + t)).toInt ≤ last.toInt ∧ o = .inl (4, b1)) ∨ (last.toInt < (s1.2 (62 + t)).toInt ∧ ∃ b2 : Int32, mz_SK f n s1.1 b2 ∧ ((ms_hr f b2 n = 44 ∧ mz_BF f n t k (s1.2 (62 + t)) (b2 + 1, upd s1.2 (56 + t) (mz_sb (s1.2 (56 + t)) (s1.2 (62 + t)))) o) ∨ (¬ ms_hr f b2 n = 44 ∧ o = .inr (s1.1, upd s1.2 (56 + t) (mz_sb (s1.2 (56 + t)) (s1.2 (62 + t)))))))))
theorem mz_BFd {f : Nat → Int32} {n : Int32} {t : Nat} : ∀ (k m : Nat) (last : Int32) (s : mz_S) (a b : mz_O), mz_BF f n t k last s a → mz_BF f n t m last s b → a = b := by
  intro k
  induction k with
  | zero => intro m last s a b h; exact h.elim
  | succ k ih =>
    intro m last s a b h g
    cases m with
    | zero => exact g.elim
    | succ m =>
      unfold mz_BF at h g
      rcases h with ⟨q, h1, rfl⟩ | ⟨s1, b1, h1, h2, h3⟩ <;> rcases g with ⟨q', g1, rfl⟩ | ⟨s1', b1', g1, g2, g3⟩
      · exact mz_NUd _ _ _ h1 g1
      · cases (mz_NUd _ _ _ h1 g1)
      · cases (mz_NUd _ _ _ h1 g1)
      · have e := mz_NUd _ _ _ h1 g1
        cases e
        obtain rfl := mz_SKd h2 g2
        rcases h3 with ⟨k1, rfl⟩ | ⟨k1, b2, k2, k3⟩ <;> rcases g3 with ⟨l1, rfl⟩ | ⟨l1, b2', l2, l3⟩
        · rfl
        · exact absurd k1 (by omega)
        · exact absurd l1 (by omega)
        · obtain rfl := mz_SKd k2 l2
          rcases k3 with ⟨k4, k5⟩ | ⟨k4, rfl⟩ <;> rcases l3 with ⟨l4, l5⟩ | ⟨l4, rfl⟩
          · exact ih m _ _ _ _ k5 l5
          · exact absurd k4 l4
          · exact absurd l4 k4
          · rfl
def mz_BL (f : Nat → Int32) (n : Int32) (t : Nat) (last : Int32) (s : mz_S) (o : mz_O) : Prop := ∃ k : Nat, mz_BF f n t k last s o
theorem mz_BLd {f : Nat → Int32} {n last : Int32} {t : Nat} : mz_DT (mz_BL f n t last) := by
  intro s a b h g
  obtain ⟨k, h⟩ := h
  obtain ⟨m, g⟩ := g
  exact mz_BFd k m _ _ _ _ h g
theorem mz_BL1 {f : Nat → Int32} {n last : Int32} {t : Nat} {s : mz_S} {q : Int32 × Int32} (h : mz_NU f n (62 + t) 0 (s.2 3 - 1) s (.inl q)) : mz_BL f n t last s (.inl q) := ⟨1, by unfold mz_BF; exact Or.inl ⟨q, h, rfl⟩⟩
theorem mz_BL2 {f : Nat → Int32} {n last b1 : Int32} {t : Nat} {s s1 : mz_S} (h : mz_NU f n (62 + t) 0 (s.2 3 - 1) s (.inr s1)) (h2 : mz_SK f n s.1 b1) (h3 : (s1.2 (62 + t)).toInt ≤ last.toInt) : mz_BL f n t last s (.inl (4, b1)) := ⟨1, by unfold mz_BF; exact Or.inr ⟨s1, b1, h, h2, Or.inl ⟨h3, rfl⟩⟩⟩
theorem mz_BL3 {f : Nat → Int32} {n last b1 b2 : Int32} {t : Nat} {s s1 : mz_S} (h : mz_NU f n (62 + t) 0 (s.2 3 - 1) s (.inr s1)) (h2 : mz_SK f n s.1 b1) (h3 : last.toInt < (s1.2 (62 + t)).toInt) (h4 : mz_SK f n s1.1 b2) (h5 : ¬ ms_hr f b2 n = 44) : mz_BL f n t last s (.inr (s1.1, upd s1.2 (56 + t) (mz_sb (s1.2 (56 + t)) (s1.2 (62 + t))))) := ⟨1, by unfold mz_BF; exact Or.inr ⟨s1, b1, h, h2, Or.inr ⟨h3, b2, h4, Or.inr ⟨h5, rfl⟩⟩⟩⟩
theorem mz_BL4 {f : Nat → Int32} {n last b1 b2 : Int32} {t : Nat} {s s1 : mz_S} {o : mz_O} (h : mz_NU f n (62 + t) 0 (s.2 3 - 1) s (.inr s1)) (h2 : mz_SK f n s.1 b1) (h3 : last.toInt < (s1.2 (62 + t)).toInt) (h4 : mz_SK f n s1.1 b2) (h5 : ms_hr f b2 n = 44) (h6 : mz_BL f n t (s1.2 (62 + t)) (b2 + 1, upd s1.2 (56 + t) (mz_sb (s1.2 (56 + t)) (s1.2 (62 + t)))) o) : mz_BL f n t last s o := by
  obtain ⟨k, h6⟩ := h6
  refine ⟨k + 1, ?_⟩
  unfold mz_BF
  exact Or.inr ⟨s1, b1, h, h2, Or.inr ⟨h3, b2, h4, Or.inl ⟨h5, h6⟩⟩⟩
def mz_T3 (f : Nat → Int32) (n : Int32) (t : Nat) (s : mz_S) (o : mz_O) : Prop := mz_BI (mz_NU f n (62 + t) 0 999) (mz_EN f n) (s.1, upd s.2 4 (s.2 4 + 1)) o
theorem mz_T3d {f : Nat → Int32} {n : Int32} {t : Nat} : mz_DT (mz_T3 f n t) := fun s a b h g => mz_BId mz_NUd mz_ENd _ _ _ h g
def mz_TR (f : Nat → Int32) (n b0 : Int32) (s : mz_S) (o : mz_O) : Prop := (s.2 4 = 6 ∧ o = .inl (3, b0)) ∨ (¬ s.2 4 = 6 ∧ mz_BI (mz_NU f n (50 + (s.2 4).toNatClampNeg) 0 2) (mz_BI (mz_BL f n (s.2 4).toNatClampNeg (-1)) (mz_T3 f n (s.2 4).toNatClampNeg)) s o)
theorem mz_TRd {f : Nat → Int32} {n b0 : Int32} : mz_DT (mz_TR f n b0) := by
  intro s a b h g
  rcases h with ⟨k1, rfl⟩ | ⟨k1, k2⟩ <;> rcases g with ⟨l1, rfl⟩ | ⟨l1, l2⟩
  · rfl
  · exact absurd k1 l1
  · exact absurd l1 k1
  · exact mz_BId mz_NUd (mz_BId mz_BLd mz_T3d) _ _ _ k2 l2
/-- a clause, behind its word -/
def mz_CL (f : Nat → Int32) (n sg b : Int32) (s : mz_S) (o : mz_O) : Prop :=
  (sg = 109 ∧ s.2 0 = 0 ∧ mz_HD f n s o) ∨ (sg = 109 ∧ ¬ s.2 0 = 0 ∧ o = .inl (3, b)) ∨ (sg = 114 ∧ s.2 0 = 0 ∧ o = .inl (1, b)) ∨ (sg = 114 ∧ ¬ s.2 0 = 0 ∧ mz_RD f n b s o) ∨ (sg = 116 ∧ s.2 0 = 0 ∧ o = .inl (1, b)) ∨ (sg = 116 ∧ ¬ s.2 0 = 0 ∧ mz_TR f n b s o) ∨ ((¬ sg = 109 ∧ ¬ sg = 114 ∧ ¬ sg = 116) ∧ o = .inl (1, b))
theorem mz_CLd {f : Nat → Int32} {n sg b : Int32} : mz_DT (mz_CL f n sg b) := by
  intro s x y h g
  rcases h with ⟨e, h0, h⟩ | ⟨e, h0, h⟩ | ⟨e, h0, h⟩ | ⟨e, h0, h⟩ | ⟨e, h0, h⟩ | ⟨e, h0, h⟩ | ⟨e, h⟩ <;> rcases g with ⟨e', g0, g⟩ | ⟨e', g0, g⟩ | ⟨e', g0, g⟩ | ⟨e', g0, g⟩ | ⟨e', g0, g⟩ | ⟨e', g0, g⟩ | ⟨e', g⟩ <;> first | exact absurd h0 g0 | exact absurd g0 h0 | exact absurd (e.symm.trans e') (by decide) | exact absurd e e'.1 | exact absurd e e'.2.1 | exact absurd e e'.2.2 | exact absurd e' e.1 | exact absurd e' e.2.1 | exact absurd e' e.2.2 | exact h.trans g.symm | exact mz_HDd _ _ _ h g | exact mz_RDd _ _ _ h g | exact mz_TRd _ _ _ h g
/-- the whole text -/
abbrev mz_Q : Type := (Int32 × Int32) ⊕ (Nat → Int32)
def mz_MF (f : Nat → Int32) (n : Int32) : Nat → mz_S → mz_Q → Prop
  | 0, _, _ => False
  | k + 1, s, o => ∃ sg b c v e : Int32, mz_TK f n s.1 sg b c v e ∧ ((sg.toInt < 0 ∧ o = .inr s.2) ∨ (0 ≤ sg.toInt ∧ ((∃ q : Int32 × Int32, mz_CL f n sg b (e, s.2) (.inl q) ∧ o = .inl q) ∨ (∃ s1 : mz_S, mz_CL f n sg b (e, s.2) (.inr s1) ∧ mz_MF f n k s1 o))))
theorem mz_MFd {f : Nat → Int32} {n : Int32} : ∀ (k m : Nat) (s : mz_S) (x y : mz_Q), mz_MF f n k s x → mz_MF f n m s y → x = y := by
  intro k
  induction k with
  | zero => intro m s x y h; exact h.elim
  | succ k ih =>
    intro m s x y h g
    cases m with
    | zero => exact g.elim
    | succ m =>
      unfold mz_MF at h g
      obtain ⟨sg, b, c, v, e, h1, h2⟩ := h
      obtain ⟨sg', b', c', v', e', g1, g2⟩ := g
      obtain ⟨rfl, rfl, rfl, rfl, rfl⟩ := mz_TKd h1 g1
      rcases h2 with ⟨k1, rfl⟩ | ⟨k1, k2⟩ <;> rcases g2 with ⟨l1, rfl⟩ | ⟨l1, l2⟩
      · rfl
      · exact absurd k1 (by omega)
      · exact absurd l1 (by omega)
      · rcases k2 with ⟨q, k2, rfl⟩ | ⟨s1, k2, k3⟩ <;> rcases l2 with ⟨q', l2, rfl⟩ | ⟨s1', l2, l3⟩
        · have e2 := mz_CLd _ _ _ k2 l2
          cases e2
          rfl
        · cases (mz_CLd _ _ _ k2 l2)
        · cases (mz_CLd _ _ _ k2 l2)
        · have e2 := mz_CLd _ _ _ k2 l2
          cases e2
          exact ih m _ _ _ k3 l3
def mz_MR (f : Nat → Int32) (n : Int32) (s : mz_S) (o : mz_Q) : Prop := ∃ k : Nat, mz_MF f n k s o
theorem mz_MRd {f : Nat → Int32} {n : Int32} {s : mz_S} {x y : mz_Q} (h : mz_MR f n s x) (g : mz_MR f n s y) : x = y := by
  obtain ⟨k, h⟩ := h
  obtain ⟨m, g⟩ := g
  exact mz_MFd k m _ _ _ h g
theorem mz_MRe {f : Nat → Int32} {n p sg b c v e : Int32} {R : Nat → Int32} (h : mz_TK f n p sg b c v e) (h1 : sg.toInt < 0) : mz_MR f n (p, R) (.inr R) := ⟨1, by unfold mz_MF; exact ⟨sg, b, c, v, e, h, Or.inl ⟨h1, rfl⟩⟩⟩
theorem mz_MRf {f : Nat → Int32} {n p sg b c v e : Int32} {R : Nat → Int32} {q : Int32 × Int32} (h : mz_TK f n p sg b c v e) (h1 : 0 ≤ sg.toInt) (h2 : mz_CL f n sg b (e, R) (.inl q)) : mz_MR f n (p, R) (.inl q) := ⟨1, by unfold mz_MF; exact ⟨sg, b, c, v, e, h, Or.inr ⟨h1, Or.inl ⟨q, h2, rfl⟩⟩⟩⟩
theorem mz_MRs {f : Nat → Int32} {n p sg b c v e : Int32} {R : Nat → Int32} {s1 : mz_S} {o : mz_Q} (h : mz_TK f n p sg b c v e) (h1 : 0 ≤ sg.toInt) (h2 : mz_CL f n sg b (e, R) (.inr s1)) (h3 : mz_MR f n s1 o) : mz_MR f n (p, R) o := by
  obtain ⟨k, h3⟩ := h3
  refine ⟨k + 1, ?_⟩
  unfold mz_MF
  exact ⟨sg, b, c, v, e, h, Or.inr ⟨h1, Or.inr ⟨s1, h2, h3⟩⟩⟩
/-! small steps -/
theorem mz_aI {x y z : Int32} (h : z.toInt = x.toInt + y.toInt) : z = x + y := Int32.toInt_inj.mp (by rw [Int32.toInt_add, ← h]; exact (rg_fit (rg_min z) (rg_max z)).symm)
theorem mz_sI {x y z : Int32} (h : z.toInt = x.toInt - y.toInt) : z = x - y := Int32.toInt_inj.mp (by rw [Int32.toInt_sub, ← h]; exact (rg_fit (rg_min z) (rg_max z)).symm)
theorem mz_mI {x y z : Int32} (h : z.toInt = x.toInt * y.toInt) : z = x * y := Int32.toInt_inj.mp (by rw [Int32.toInt_mul, ← h]; exact (rg_fit (rg_min z) (rg_max z)).symm)
theorem mz_inc {x z : Int32} (h : z.toInt = x.toInt + 1) : z = x + 1 := mz_aI (by rw [h, show (1 : Int32).toInt = 1 by decide])
theorem mz_Dof {r h : Int32} (ex : r = h) (h1 : 48 ≤ r.toInt) (h2 : r.toInt ≤ 57) : mz_D h := by
  subst ex
  exact ⟨h1, h2⟩
theorem mz_lt3 {c : Int32} (h : c < 3) : c.toInt < 3 := by
  have q := Int32.lt_iff_toInt_lt.mp h
  rw [show (3 : Int32).toInt = 3 by decide] at q
  exact q
theorem mz_ge3 {c : Int32} (h : 3 ≤ c) : 3 ≤ c.toInt := by
  have q := Int32.le_iff_toInt_le.mp h
  rw [show (3 : Int32).toInt = 3 by decide] at q
  exact q
theorem mz_le3 {c : Int32} (h : c ≤ 3) : c.toInt ≤ 3 := by
  have q := Int32.le_iff_toInt_le.mp h
  rw [show (3 : Int32).toInt = 3 by decide] at q
  exact q
theorem mz_gt3 {c : Int32} (h : 3 < c) : 3 < c.toInt := by
  have q := Int32.lt_iff_toInt_lt.mp h
  rw [show (3 : Int32).toInt = 3 by decide] at q
  exact q
theorem mz_dva {c v r z1 z2 z3 : Int32} (h : c.toInt < 3) (e1 : z1 = 10 * v) (e2 : z2 = z1 + r) (e3 : z3 = z2 - 48) : z3 = mz_dv c v r := by
  unfold mz_dv
  rw [if_pos h, e3, e2, e1]
theorem mz_dvb {c v r : Int32} (h : 3 ≤ c.toInt) : v = mz_dv c v r := by
  unfold mz_dv
  rw [if_neg (by omega)]
theorem mz_nDm {h : Int32} (ex : (-1) = h) : ¬ mz_D h := by
  subst ex
  decide
theorem mz_nDn {r h : Int32} (ex : r = h) (hc : ¬ ((48 : Int64).toInt ≤ (r.toInt64).toInt ∧ (r.toInt64).toInt ≤ (57 : Int64).toInt)) : ¬ mz_D h := by
  subst ex
  intro q
  apply hc
  rw [show (48 : Int64).toInt = 48 by decide, show (57 : Int64).toInt = 57 by decide, Int32.toInt_toInt64]
  exact q
theorem mz_TKg {f : Nat → Int32} {n p b c v e : Int32} (hs : mz_SK f n p b) (hd : mz_D (ms_hr f b n)) (dg : mz_DG f n b 0 0 (e, c, v)) : mz_TK f n p 48 b c v e := ⟨hs, Or.inr ⟨hd, rfl, dg⟩⟩
theorem mz_TKc {f : Nat → Int32} {n p b e : Int32} (hs : mz_SK f n p b) (ex : (-1) = ms_hr f b n) (he : e.toInt = b.toInt + 0) : mz_TK f n p (-1) b 0 0 e := ⟨hs, Or.inl ⟨mz_nDm ex, ex, rfl, rfl, by rw [← ex, if_pos (by decide)]; exact Int32.toInt_inj.mp (by omega)⟩⟩
theorem mz_TKb {f : Nat → Int32} {n p b e r : Int32} (hs : mz_SK f n p b) (ex : r = ms_hr f b n) (h0 : 0 ≤ r.toInt) (hd : ¬ mz_D (ms_hr f b n)) (he : e.toInt = b.toInt + 1) : mz_TK f n p r b 0 0 e := ⟨hs, Or.inl ⟨hd, ex, rfl, rfl, by rw [← ex, if_neg (by omega)]; exact mz_inc he⟩⟩
theorem mz_inn {c v lo hi : Int32} {l h : Int64} (h1 : c.toInt ≤ 3) (g : l.toInt ≤ (v.toInt64).toInt ∧ (v.toInt64).toInt ≤ h.toInt) (e1 : l.toInt = lo.toInt) (e2 : h.toInt = hi.toInt) : ¬ (3 < c.toInt ∨ v.toInt < lo.toInt ∨ hi.toInt < v.toInt) := by
  rw [e1, e2, Int32.toInt_toInt64] at g
  omega
theorem mz_out {v lo hi : Int32} {l h : Int64} (g : ¬ (l.toInt ≤ (v.toInt64).toInt ∧ (v.toInt64).toInt ≤ h.toInt)) (e1 : l.toInt = lo.toInt) (e2 : h.toInt = hi.toInt) : v.toInt < lo.toInt ∨ hi.toInt < v.toInt := by
  rw [e1, e2, Int32.toInt_toInt64] at g
  omega
theorem mz_NUt {f : Nat → Int32} {n p sg b c v e lo hi : Int32} {k : Nat} {R R' : Nat → Int32} (h : mz_TK f n p sg b c v e) (h2 : sg = 48 ∧ ¬ (3 < c.toInt ∨ v.toInt < lo.toInt ∨ hi.toInt < v.toInt) ∧ R' = upd R k v) : mz_NU f n k lo hi (p, R) (.inr (e, R')) := Or.inr ⟨v, e, ⟨sg, b, c, v, e, h, Or.inr (Or.inr ⟨h2.1, h2.2.1, rfl⟩)⟩, by rw [h2.2.2]⟩
theorem mz_NUf {f : Nat → Int32} {n p sg b c v e lo hi w : Int32} {k : Nat} {R : Nat → Int32} (h : mz_TK f n p sg b c v e) (h2 : (¬ sg = 48 ∧ w = 1) ∨ (sg = 48 ∧ (3 < c.toInt ∨ v.toInt < lo.toInt ∨ hi.toInt < v.toInt) ∧ w = 2)) : mz_NU f n k lo hi (p, R) (.inl (w, b)) := by
  rcases h2 with ⟨h3, rfl⟩ | ⟨h3, h4, rfl⟩
  · exact Or.inl ⟨_, ⟨sg, b, c, v, e, h, Or.inl ⟨h3, rfl⟩⟩, rfl⟩
  · exact Or.inl ⟨_, ⟨sg, b, c, v, e, h, Or.inr (Or.inl ⟨h3, h4, rfl⟩)⟩, rfl⟩
theorem mz_ENt {f : Nat → Int32} {n p sg b c v e : Int32} (h : mz_TK f n p sg b c v e) (hs : sg = 59) : ∀ R : Nat → Int32, mz_EN f n (p, R) (.inr (e, R)) := fun _ => ⟨sg, b, c, v, e, h, Or.inl ⟨hs, rfl⟩⟩
theorem mz_ENf {f : Nat → Int32} {n p sg b c v e w : Int32} (h : mz_TK f n p sg b c v e) (hs : ¬ sg = 59) (hw : w = 1) : ∀ R : Nat → Int32, mz_EN f n (p, R) (.inl (w, b)) := fun _ => ⟨sg, b, c, v, e, h, Or.inr ⟨hs, by rw [hw]⟩⟩
/-! a road: the reference's steps -/
theorem mz_kc {k z r : Int32} {K : Nat} (hk : k.toInt = (K : Int)) (e : z.toInt = k.toInt + r.toInt) (h0 : 0 ≤ r.toInt) : z.toNatClampNeg = K + r.toNatClampNeg := by
  show z.toInt.toNat = K + r.toInt.toNat
  omega
theorem mz_kn {k k' : Int32} (e : k'.toInt = k.toInt + 1) (h0 : 0 ≤ k.toInt) : k'.toNatClampNeg = k.toNatClampNeg + 1 := by
  show k'.toInt.toNat = k.toInt.toNat + 1
  omega
theorem mz_cvk {f : Nat → Int32} {n lo hi : Int32} {k k' : Nat} {s : mz_S} {o : mz_O} (hk : k' = k) (h : mz_NU f n k' lo hi s o) : mz_NU f n k lo hi s o := by
  subst hk
  exact h
theorem mz_cvh {f : Nat → Int32} {n lo hi hi' : Int32} {k : Nat} {s : mz_S} {o : mz_O} (hh : hi' = hi) (h : mz_NU f n k lo hi' s o) : mz_NU f n k lo hi s o := by
  subst hh
  exact h
theorem mz_0le {r : Int32} (h : 0 ≤ r.toInt) : (0 : Int32).toInt ≤ r.toInt := by
  rw [show (0 : Int32).toInt = 0 by decide]
  exact h
theorem mz_klt {k k' r : Int32} (c : k < r) (e : k'.toInt = k.toInt + 1) : k'.toInt ≤ r.toInt := by
  have q := Int32.lt_iff_toInt_lt.mp c
  omega
def mz_dl (R : Nat → Int32) (k : Nat) (a b w : Int32) : Prop := (w = 1 ∧ ¬ mz_du R k a b) ∨ (w = 0 ∧ mz_du R k a b)
theorem mz_dl1 {R : Nat → Int32} {k : Nat} {a b : Int32} (hk : k = 0) (h : ¬ a = b) : mz_dl R k a b 1 := Or.inl ⟨rfl, fun q => by
  rcases q with q | ⟨j, hj, -⟩
  · exact h q
  · omega⟩
theorem mz_dl0 {R : Nat → Int32} {k : Nat} {a b : Int32} (h : a = b) : mz_dl R k a b 0 := Or.inr ⟨rfl, Or.inl h⟩
theorem mz_duS {R : Nat → Int32} {k : Nat} {a b : Int32} (h : mz_du R k a b) : mz_du R (k + 1) a b := by
  rcases h with h | ⟨j, hj, g⟩
  · exact Or.inl h
  · exact Or.inr ⟨j, by omega, g⟩
theorem mz_dlz {R : Nat → Int32} {k k' a b w : Int32} (h : mz_dl R k.toNatClampNeg a b w) (hw : w = 0) (e : k'.toInt = k.toInt + 1) (h0 : 0 ≤ k.toInt) : mz_dl R k'.toNatClampNeg a b 0 := by
  rw [mz_kn e h0]
  rcases h with ⟨h1, h2⟩ | ⟨h1, h2⟩
  · exact absurd (h1.symm.trans hw) (by decide)
  · exact Or.inr ⟨rfl, mz_duS h2⟩
theorem mz_dly {R : Nat → Int32} {k k' a b w : Int32} (_h : mz_dl R k.toNatClampNeg a b w) (hy : (R (5 + k.toNatClampNeg) = a ∧ R (14 + k.toNatClampNeg) = b) ∨ (R (5 + k.toNatClampNeg) = b ∧ R (14 + k.toNatClampNeg) = a)) (e : k'.toInt = k.toInt + 1) (h0 : 0 ≤ k.toInt) : mz_dl R k'.toNatClampNeg a b 0 := by
  rw [mz_kn e h0]
  exact Or.inr ⟨rfl, Or.inr ⟨k.toNatClampNeg, by omega, hy⟩⟩
theorem mz_dln {R : Nat → Int32} {k k' a b w : Int32} (h : mz_dl R k.toNatClampNeg a b w) (hw : ¬ w = 0) (hn : ¬ ((R (5 + k.toNatClampNeg) = a ∧ R (14 + k.toNatClampNeg) = b) ∨ (R (5 + k.toNatClampNeg) = b ∧ R (14 + k.toNatClampNeg) = a))) (e : k'.toInt = k.toInt + 1) (h0 : 0 ≤ k.toInt) : mz_dl R k'.toNatClampNeg a b 1 := by
  rw [mz_kn e h0]
  rcases h with ⟨h1, h2⟩ | ⟨h1, h2⟩
  · refine Or.inl ⟨rfl, fun q => ?_⟩
    rcases q with q | ⟨j, hj, g⟩
    · exact h2 (Or.inl q)
    · by_cases hc : j = k.toNatClampNeg
      · subst hc
        exact hn g
      · exact h2 (Or.inr ⟨j, by omega, g⟩)
  · exact absurd h1 hw
theorem mz_hnA {x1 a b ri rj : Int32} (E1 : x1 = ri) (n1 : ¬ x1 = a) (n2 : ¬ x1 = b) : ¬ ((ri = a ∧ rj = b) ∨ (ri = b ∧ rj = a)) := by
  subst E1
  rintro (⟨q, -⟩ | ⟨q, -⟩)
  · exact n1 q
  · exact n2 q
theorem mz_hnB {x1 x2 a b ri rj : Int32} (E1 : x1 = ri) (E2 : x2 = rj) (n1 : ¬ x1 = a) (n2 : ¬ x2 = a) : ¬ ((ri = a ∧ rj = b) ∨ (ri = b ∧ rj = a)) := by
  subst E1 E2
  rintro (⟨q, -⟩ | ⟨-, q⟩)
  · exact n1 q
  · exact n2 q
theorem mz_hnC {x1 x2 a b ri rj : Int32} (E1 : x1 = ri) (E2 : x2 = rj) (n1 : ¬ x2 = b) (n2 : ¬ x1 = b) : ¬ ((ri = a ∧ rj = b) ∨ (ri = b ∧ rj = a)) := by
  subst E1 E2
  rintro (⟨-, q⟩ | ⟨q, -⟩)
  · exact n1 q
  · exact n2 q
theorem mz_hnD {x2 a b ri rj : Int32} (E2 : x2 = rj) (n1 : ¬ x2 = b) (n2 : ¬ x2 = a) : ¬ ((ri = a ∧ rj = b) ∨ (ri = b ∧ rj = a)) := by
  subst E2
  rintro (⟨-, q⟩ | ⟨-, q⟩)
  · exact n1 q
  · exact n2 q
theorem mz_dux {R : Nat → Int32} {k r a b w : Int32} (h : mz_dl R k.toNatClampNeg a b w) (hk : k.toInt ≤ r.toInt) (c : r ≤ k) (ea : a = R (5 + r.toNatClampNeg)) (eb : b = R (14 + r.toNatClampNeg)) : (w = 0 → mz_du R r.toNatClampNeg (R (5 + r.toNatClampNeg)) (R (14 + r.toNatClampNeg))) ∧ (¬ w = 0 → ¬ mz_du R r.toNatClampNeg (R (5 + r.toNatClampNeg)) (R (14 + r.toNatClampNeg))) := by
  have q := Int32.le_iff_toInt_le.mp c
  have e : k.toNatClampNeg = r.toNatClampNeg := by
    show k.toInt.toNat = r.toInt.toNat
    omega
  rw [← ea, ← eb, ← e]
  rcases h with ⟨h1, h2⟩ | ⟨h1, h2⟩
  · exact ⟨fun g => absurd (h1.symm.trans g) (by decide), fun _ => h2⟩
  · exact ⟨fun _ => h2, fun g => absurd h1 g⟩
theorem mz_RD0 {f : Nat → Int32} {n b p v3 w : Int32} {R : Nat → Int32} (e3 : v3 = R (3 : Int32).toNatClampNeg) (c : v3 = 9) (hw : w = 3) : mz_RD f n b (p, R) (.inl (w, b)) := by
  rw [show (3 : Int32).toNatClampNeg = 3 by decide] at e3
  exact Or.inl ⟨e3.symm.trans c, by rw [hw]⟩
theorem mz_RDi {f : Nat → Int32} {n b p v3 x0 last : Int32} {R : Nat → Int32} {o : mz_O} (e3 : v3 = R (3 : Int32).toNatClampNeg) (e0 : x0 = R (0 : Int32).toNatClampNeg) (hl : last = x0 - 1) (hne : ¬ v3 = 9) (h : mz_BI (mz_NU f n (5 + v3.toNatClampNeg) 0 last) (mz_R2 f n v3.toNatClampNeg last) (p, R) o) : mz_RD f n b (p, R) o := by
  rw [show (3 : Int32).toNatClampNeg = 3 by decide] at e3
  rw [show (0 : Int32).toNatClampNeg = 0 by decide] at e0
  subst e3 e0 hl
  exact Or.inr ⟨hne, h⟩
theorem mz_R2a {f : Nat → Int32} {n last b2 w : Int32} {r : Nat} {s s2 : mz_S} (h2 : mz_NU f n (14 + r) 0 last s (.inr s2)) (hs : mz_SK f n s.1 b2) (du : mz_du s2.2 r (s2.2 (5 + r)) (s2.2 (14 + r))) (hw : w = 4) : mz_R2 f n r last s (.inl (w, b2)) := Or.inr ⟨s2, b2, h2, hs, Or.inl ⟨du, by rw [hw]⟩⟩
theorem mz_R2b {f : Nat → Int32} {n last b2 : Int32} {r : Nat} {s s2 : mz_S} {R3 : Nat → Int32} {o : mz_O} (h2 : mz_NU f n (14 + r) 0 last s (.inr s2)) (hs : mz_SK f n s.1 b2) (du : ¬ mz_du s2.2 r (s2.2 (5 + r)) (s2.2 (14 + r))) (e : upd s2.2 3 (s2.2 3 + 1) = R3) (h3 : mz_R3 f n r (s2.1, R3) o) : mz_R2 f n r last s o := Or.inr ⟨s2, b2, h2, hs, Or.inr ⟨du, by rw [e]; exact h3⟩⟩
theorem mz_r3e {R2 R3 : Nat → Int32} {x y : Int32} (e : R3 = upd R2 (3 : Int32).toNatClampNeg y) (ex : x = R2 (3 : Int32).toNatClampNeg) (ey : y.toInt = x.toInt + (1 : Int32).toInt) : upd R2 3 (R2 3 + 1) = R3 := by
  rw [show (3 : Int32).toNatClampNeg = 3 by decide] at e ex
  rw [e, ← ex, mz_aI ey]
/-! a treaty and a clause: the reference's steps -/
theorem mz_lei {x y l : Int32} (E : x = y) (c : x ≤ l) : y.toInt ≤ l.toInt := by
  subst E
  exact Int32.le_iff_toInt_le.mp c
theorem mz_lti {x y l : Int32} (E : x = y) (c : l < x) : l.toInt < y.toInt := by
  subst E
  exact Int32.lt_iff_toInt_lt.mp c
theorem mz_ltk {x y l : Int32} {A B : Int} (E : x = y) (h1 : l.toInt ≤ A) (h2 : B ≤ x.toInt) (g : decide (A < B) = true) : l.toInt < y.toInt := by
  subst E
  have q := of_decide_eq_true g
  omega
theorem mz_t2e {R1 R2 : Nat → Int32} {i j T : Nat} {z old sh x : Int32} (e : R2 = upd R1 i z) (k56 : i = 56 + T) (ez : z = old ||| sh) (es : sh = (1 : Int32) <<< (x &&& 31)) (eo : old = R1 i) (exx : x = R1 j) (k62 : j = 62 + T) : upd R1 (56 + T) (mz_sb (R1 (56 + T)) (R1 (62 + T))) = R2 := by
  subst exx eo es ez e k56 k62
  rfl
theorem mz_BL2w {f : Nat → Int32} {n last b1 w : Int32} {t : Nat} {s s1 : mz_S} (h : mz_NU f n (62 + t) 0 (s.2 3 - 1) s (.inr s1)) (h2 : mz_SK f n s.1 b1) (h3 : (s1.2 (62 + t)).toInt ≤ last.toInt) (hw : w = 4) : mz_BL f n t last s (.inl (w, b1)) := by
  subst hw
  exact mz_BL2 h h2 h3
theorem mz_tkn {f : Nat → Int32} {n p sg b c v e : Int32} (tk : mz_TK f n p sg b c v e) (hs : ¬ sg = 44) : ¬ ms_hr f b n = 44 := by
  intro q
  rcases tk.2 with ⟨-, h, -⟩ | ⟨h, -⟩
  · exact hs (h.trans q)
  · rw [q] at h
    exact absurd h (by decide)
theorem mz_tk44 {f : Nat → Int32} {n p sg b c v e : Int32} (tk : mz_TK f n p sg b c v e) (hs : sg = 44) : ms_hr f b n = 44 ∧ e = b + 1 := by
  rcases tk.2 with ⟨-, h, -, -, h2⟩ | ⟨-, h, -⟩
  · have q : ms_hr f b n = 44 := h.symm.trans hs
    rw [q, if_neg (by decide)] at h2
    exact ⟨q, h2⟩
  · exact absurd (hs.symm.trans h) (by decide)
theorem mz_BL3w {f : Nat → Int32} {n last b1 b2 sg c v e : Int32} {t : Nat} {s s1 : mz_S} {R2 : Nat → Int32} (h : mz_NU f n (62 + t) 0 (s.2 3 - 1) s (.inr s1)) (h2 : mz_SK f n s.1 b1) (h3 : last.toInt < (s1.2 (62 + t)).toInt) (tk : mz_TK f n s1.1 sg b2 c v e) (hs : ¬ sg = 44) (eR : upd s1.2 (56 + t) (mz_sb (s1.2 (56 + t)) (s1.2 (62 + t))) = R2) : mz_BL f n t last s (.inr (s1.1, R2)) := by
  rw [← eR]
  exact mz_BL3 h h2 h3 tk.1 (mz_tkn tk hs)
theorem mz_BL4w {f : Nat → Int32} {n last b1 b2 sg c v e x : Int32} {t : Nat} {s s1 : mz_S} {R2 : Nat → Int32} {o : mz_O} (h : mz_NU f n (62 + t) 0 (s.2 3 - 1) s (.inr s1)) (h2 : mz_SK f n s.1 b1) (h3 : last.toInt < (s1.2 (62 + t)).toInt) (tk : mz_TK f n s1.1 sg b2 c v e) (hs : sg = 44) (eR : upd s1.2 (56 + t) (mz_sb (s1.2 (56 + t)) (s1.2 (62 + t))) = R2) (ex : x = s1.2 (62 + t)) (g : mz_BL f n t x (e, R2) o) : mz_BL f n t last s o := by
  obtain ⟨q1, q2⟩ := mz_tk44 tk hs
  rw [q2, ← eR, ex] at g
  exact mz_BL4 h h2 h3 tk.1 q1 g
theorem mz_T3w {f : Nat → Int32} {n : Int32} {t : Nat} {s : mz_S} {R3 : Nat → Int32} {o : mz_O} (e : upd s.2 4 (s.2 4 + 1) = R3) (h : mz_BI (mz_NU f n (62 + t) 0 999) (mz_EN f n) (s.1, R3) o) : mz_T3 f n t s o := by
  unfold mz_T3
  rw [e]
  exact h
theorem mz_t4e {R2 R3 : Nat → Int32} {x y : Int32} (e : R3 = upd R2 (4 : Int32).toNatClampNeg y) (ex : x = R2 (4 : Int32).toNatClampNeg) (ey : y.toInt = x.toInt + (1 : Int32).toInt) : upd R2 4 (R2 4 + 1) = R3 := by
  rw [show (4 : Int32).toNatClampNeg = 4 by decide] at e ex
  rw [e, ← ex, mz_aI ey]
theorem mz_TR0 {f : Nat → Int32} {n b p v3 w : Int32} {R : Nat → Int32} (e3 : v3 = R (4 : Int32).toNatClampNeg) (c : v3 = 6) (hw : w = 3) : mz_TR f n b (p, R) (.inl (w, b)) := by
  rw [show (4 : Int32).toNatClampNeg = 4 by decide] at e3
  exact Or.inl ⟨e3.symm.trans c, by rw [hw]⟩
theorem mz_TRi {f : Nat → Int32} {n b p v3 : Int32} {R : Nat → Int32} {o : mz_O} (e3 : v3 = R (4 : Int32).toNatClampNeg) (hne : ¬ v3 = 6) (h : mz_BI (mz_NU f n (50 + v3.toNatClampNeg) 0 2) (mz_BI (mz_BL f n v3.toNatClampNeg (-1)) (mz_T3 f n v3.toNatClampNeg)) (p, R) o) : mz_TR f n b (p, R) o := by
  rw [show (4 : Int32).toNatClampNeg = 4 by decide] at e3
  subst e3
  exact Or.inr ⟨hne, h⟩
theorem mz_r0 {R : Nat → Int32} {x : Int32} (e : x = R (0 : Int32).toNatClampNeg) : R 0 = x := by
  rw [show (0 : Int32).toNatClampNeg = 0 by decide] at e
  exact e.symm
theorem mz_CL1 {f : Nat → Int32} {n sg b p x : Int32} {R : Nat → Int32} {o : mz_O} (c : sg = 109) (e : x = R (0 : Int32).toNatClampNeg) (z : x = 0) (h : mz_HD f n (p, R) o) : mz_CL f n sg b (p, R) o := Or.inl ⟨c, (mz_r0 e).trans z, h⟩
theorem mz_CL2 {f : Nat → Int32} {n sg b p x w : Int32} {R : Nat → Int32} (c : sg = 109) (e : x = R (0 : Int32).toNatClampNeg) (z : ¬ x = 0) (hw : w = 3) : mz_CL f n sg b (p, R) (.inl (w, b)) := Or.inr (Or.inl ⟨c, fun q => z ((mz_r0 e).symm.trans q), by rw [hw]⟩)
theorem mz_CL3 {f : Nat → Int32} {n sg b p x w : Int32} {R : Nat → Int32} (c : sg = 114) (e : x = R (0 : Int32).toNatClampNeg) (z : x = 0) (hw : w = 1) : mz_CL f n sg b (p, R) (.inl (w, b)) := Or.inr (Or.inr (Or.inl ⟨c, (mz_r0 e).trans z, by rw [hw]⟩))
theorem mz_CL4 {f : Nat → Int32} {n sg b p x : Int32} {R : Nat → Int32} {o : mz_O} (c : sg = 114) (e : x = R (0 : Int32).toNatClampNeg) (z : ¬ x = 0) (h : mz_RD f n b (p, R) o) : mz_CL f n sg b (p, R) o := Or.inr (Or.inr (Or.inr (Or.inl ⟨c, fun q => z ((mz_r0 e).symm.trans q), h⟩)))
theorem mz_CL5 {f : Nat → Int32} {n sg b p x w : Int32} {R : Nat → Int32} (c : sg = 116) (e : x = R (0 : Int32).toNatClampNeg) (z : x = 0) (hw : w = 1) : mz_CL f n sg b (p, R) (.inl (w, b)) := Or.inr (Or.inr (Or.inr (Or.inr (Or.inl ⟨c, (mz_r0 e).trans z, by rw [hw]⟩))))
theorem mz_CL6 {f : Nat → Int32} {n sg b p x : Int32} {R : Nat → Int32} {o : mz_O} (c : sg = 116) (e : x = R (0 : Int32).toNatClampNeg) (z : ¬ x = 0) (h : mz_TR f n b (p, R) o) : mz_CL f n sg b (p, R) o := Or.inr (Or.inr (Or.inr (Or.inr (Or.inr (Or.inl ⟨c, fun q => z ((mz_r0 e).symm.trans q), h⟩)))))
theorem mz_CL7 {f : Nat → Int32} {n sg b w : Int32} {s : mz_S} (c1 : ¬ sg = 109) (c2 : ¬ sg = 114) (c3 : ¬ sg = 116) (hw : w = 1) : mz_CL f n sg b s (.inl (w, b)) := Or.inr (Or.inr (Or.inr (Or.inr (Or.inr (Or.inr ⟨⟨c1, c2, c3⟩, by rw [hw]⟩)))))
/-! the reference's march -/
theorem mz_zp9 {w : Nat → Int32} {k : Int} (h : ms_zp w k) (g : 9 ≤ k) : ms_zp w 9 := fun i hi => h i (by omega)
theorem mz_kp0 {K K1 K2 : Nat → Int32} (e0 : K1 = upd K (0 : Int32).toNatClampNeg (vp_nar .boolean 0)) (e1 : K2 = upd K1 (1 : Int32).toNatClampNeg (vp_nar .boolean 0)) : K2 0 = 0 := by
  subst e0 e1
  unfold upd
  rw [if_neg (by decide), if_pos (by decide)]
  decide
theorem mz_kp1 {K1 K2 : Nat → Int32} (e1 : K2 = upd K1 (1 : Int32).toNatClampNeg (vp_nar .boolean 0)) : K2 1 = 0 := by
  subst e1
  unfold upd
  rw [if_pos (by decide)]
  decide
def mz_z68 (R : Nat → Int32) : Nat → Int32 := fun k => if k < 68 then 0 else R k
theorem mz_z68e {R R1 : Nat → Int32} {k : Int} (h : ms_zp R1 k) (hk : 68 ≤ k) (hF : rg_F R1 R 0 67) : R1 = mz_z68 R := by
  funext j
  unfold mz_z68
  by_cases hj : j < 68
  · rw [if_pos hj]
    exact h j (by omega)
  · rw [if_neg hj]
    exact hF j (Or.inr (by omega))
theorem mz_mr0 {f : Nat → Int32} {n p : Int32} {R1 R0 : Nat → Int32} (e : R1 = R0) : ∀ o : mz_Q, mz_MR f n (p, R1) o → mz_MR f n (p, R0) o := by
  subst e
  exact fun _ g => g
theorem mz_mrs {f : Nat → Int32} {n sg b c v e e2 sg' b' c' v' e' : Int32} {R R2 : Nat → Int32} {s0 : mz_S} (h : ∃ p0 : Int32, mz_TK f n p0 sg b c v e ∧ ∀ o : mz_Q, mz_MR f n (p0, R) o → mz_MR f n s0 o) (h0 : 0 ≤ sg.toInt) (cl : mz_CL f n sg b (e, R) (.inr (e2, R2))) (tk : mz_TK f n e2 sg' b' c' v' e') : ∃ p0 : Int32, mz_TK f n p0 sg' b' c' v' e' ∧ ∀ o : mz_Q, mz_MR f n (p0, R2) o → mz_MR f n s0 o := by
  obtain ⟨p0, h1, h2⟩ := h
  exact ⟨e2, tk, fun o g => h2 o (mz_MRs h1 h0 cl g)⟩
theorem mz_mrf {f : Nat → Int32} {n sg b c v e : Int32} {R : Nat → Int32} {s0 : mz_S} {q : Int32 × Int32} (h : ∃ p0 : Int32, mz_TK f n p0 sg b c v e ∧ ∀ o : mz_Q, mz_MR f n (p0, R) o → mz_MR f n s0 o) (h0 : 0 ≤ sg.toInt) (cl : mz_CL f n sg b (e, R) (.inl q)) : mz_MR f n s0 (.inl q) := by
  obtain ⟨p0, h1, h2⟩ := h
  exact h2 _ (mz_MRf h1 h0 cl)
theorem mz_mre {f : Nat → Int32} {n sg b c v e : Int32} {R : Nat → Int32} {s0 : mz_S} (h : ∃ p0 : Int32, mz_TK f n p0 sg b c v e ∧ ∀ o : mz_Q, mz_MR f n (p0, R) o → mz_MR f n s0 o) (h0 : sg.toInt ≤ -1) : mz_MR f n s0 (.inr R) := by
  obtain ⟨p0, h1, h2⟩ := h
  exact h2 _ (mz_MRe h1 (by omega))
theorem mz_eq68 {w g : Nat → Int32} {k : Int} (h : ms_eqp w g 0 k) (hk : 68 ≤ k) : ∀ i : Nat, i < 68 → w i = g i := fun i hi => by
  have q := h i (by omega)
  rw [Nat.zero_add] at q
  exact q
