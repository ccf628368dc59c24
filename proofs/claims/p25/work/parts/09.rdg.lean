/-! clash, exactly -/
def mz_lo (K B : Int32) (n : Int) : Int := if K = 1 then n else if n < B.toInt then B.toInt else n
def mz_hi (K B : Int32) : Int := if K = 2 then 1000000 else B.toInt
/-- t and u bind the same ROADS and can't both hold -/
def mz_cp (K S B : Nat → Int32) (t u : Nat) : Prop := S t = S u ∧ (mz_hi (K t) (B t) < mz_lo (K t) (B t) (ms_pc (S t)) ∨ mz_hi (K t) (B t) < mz_lo (K u) (B u) (ms_pc (S u)) ∨ mz_hi (K u) (B u) < mz_lo (K t) (B t) (ms_pc (S t)) ∨ mz_hi (K u) (B u) < mz_lo (K u) (B u) (ms_pc (S u)))
/-- nothing before (t, u) -/
def mz_cb (K S B : Nat → Int32) (n t u : Nat) : Prop := (∀ x y : Nat, x < t → x < y → y < n → ¬ mz_cp K S B x y) ∧ (∀ y : Nat, t < y → y < u → ¬ mz_cp K S B t y)
def mz_cl (K S B : Nat → Int32) (n : Nat) (r : Int32) : Prop := (∃ t u : Nat, t < u ∧ u < n ∧ mz_cp K S B t u ∧ mz_cb K S B n t u ∧ r = nI (10 * t + u)) ∨ ((∀ x y : Nat, x < y → y < n → ¬ mz_cp K S B x y) ∧ r = -1)
theorem mz_cpc {K S B K' S' B' : Nat → Int32} {n : Nat} (h : ∀ t : Nat, t < n → K t = K' t ∧ S t = S' t ∧ B t = B' t) {t u : Nat} (ht : t < n) (hu : u < n) : mz_cp K S B t u ↔ mz_cp K' S' B' t u := by
  obtain ⟨a1, a2, a3⟩ := h t ht
  obtain ⟨b1, b2, b3⟩ := h u hu
  unfold mz_cp
  rw [a1, a2, a3, b1, b2, b3]
theorem mz_clc {K S B K' S' B' : Nat → Int32} {n : Nat} {r : Int32} (h : ∀ t : Nat, t < n → K t = K' t ∧ S t = S' t ∧ B t = B' t) (q : mz_cl K S B n r) : mz_cl K' S' B' n r := by
  rcases q with ⟨t, u, h1, h2, h3, ⟨h4, h5⟩, h6⟩ | ⟨h1, h2⟩
  · refine Or.inl ⟨t, u, h1, h2, (mz_cpc h (by omega) h2).mp h3, ⟨fun x y hx hy hn g => ?_, fun y hy hn g => ?_⟩, h6⟩
    · exact h4 x y hx hy hn ((mz_cpc h (by omega) hn).mpr g)
    · exact h5 y hy hn ((mz_cpc h (by omega) (by omega)).mpr g)
  · exact Or.inr ⟨fun x y hx hy g => h1 x y hx hy ((mz_cpc h (by omega) hy).mpr g), h2⟩
theorem mz_cld {K S B : Nat → Int32} {n : Nat} {r r' : Int32} (p : mz_cl K S B n r) (q : mz_cl K S B n r') : r = r' := by
  rcases p with ⟨t, u, h1, h2, h3, ⟨h4, h5⟩, h6⟩ | ⟨h1, h2⟩ <;> rcases q with ⟨x, y, g1, g2, g3, ⟨g4, g5⟩, g6⟩ | ⟨g1, g2⟩
  · have e1 : t = x := by
      rcases Nat.lt_trichotomy t x with c | c | c
      · exact absurd h3 (g4 t u c h1 h2)
      · exact c
      · exact absurd g3 (h4 x y c g1 g2)
    subst e1
    have e2 : u = y := by
      rcases Nat.lt_trichotomy u y with c | c | c
      · exact absurd h3 (g5 u h1 c)
      · exact c
      · exact absurd g3 (h5 y g1 c)
    subst e2
    rw [h6, g6]
  · exact absurd h3 (g1 t u h1 h2)
  · exact absurd g3 (h1 x y g1 g2)
  · rw [h2, g2]
/-! the class: lowest, highest, canBothHold -/
def mz_s9 (x : Int32) : Prop := 0 ≤ x.toInt ∧ x.toInt ≤ 511
theorem mz_loA {K S B : Nat → Int32} {k : Nat} {s c r : Int32} (es : s = S k) (ec : c = K k) (hc : c = 1) (hr : 0 ≤ s.toInt → s.toInt ≤ 511 → r = nI (ms_pc s)) : mz_s9 (S k) → r.toInt = mz_lo (K k) (B k) (ms_pc (S k)) := by
  subst es ec
  intro h
  unfold mz_lo
  rw [if_pos hc]
  exact mz_nI5 (hr h.1 h.2)
theorem mz_loB {K S B : Nat → Int32} {k : Nat} {s c r b z : Int32} (es : s = S k) (ec : c = K k) (eb : b = B k) (hc : ¬ c = 1) (hr : 0 ≤ s.toInt → s.toInt ≤ 511 → r = nI (ms_pc s)) (ez : z = if r < b then b else r) : mz_s9 (S k) → z.toInt = mz_lo (K k) (B k) (ms_pc (S k)) := by
  subst es ec eb
  intro h
  have e := mz_nI5 (hr h.1 h.2)
  unfold mz_lo
  rw [if_neg hc, ez]
  by_cases q : r < B k
  · have q2 := Int32.lt_iff_toInt_lt.mp q
    rw [if_pos q, if_pos (by omega)]
  · rw [if_neg q, if_neg (fun g => q (Int32.lt_iff_toInt_lt.mpr (by omega)))]
    exact e
theorem mz_hiA {K B : Nat → Int32} {k : Nat} {c : Int32} (ec : c = K k) (hc : c = 2) : (1000000 : Int32).toInt = mz_hi (K k) (B k) := by
  subst ec
  unfold mz_hi
  rw [if_pos hc]
  decide
theorem mz_hiB {K B : Nat → Int32} {k : Nat} {c b : Int32} (ec : c = K k) (eb : b = B k) (hc : ¬ c = 2) : b.toInt = mz_hi (K k) (B k) := by
  subst ec eb
  unfold mz_hi
  rw [if_neg hc]
def mz_ct (K S B : Nat → Int32) (t u : Nat) : Prop := mz_hi (K t) (B t) < mz_lo (K t) (B t) (ms_pc (S t)) ∨ mz_hi (K t) (B t) < mz_lo (K u) (B u) (ms_pc (S u)) ∨ mz_hi (K u) (B u) < mz_lo (K t) (B t) (ms_pc (S t)) ∨ mz_hi (K u) (B u) < mz_lo (K u) (B u) (ms_pc (S u))
theorem mz_mx {x y z : Int32} (e : z = if x < y then y else x) : (x.toInt < y.toInt ∧ z.toInt = y.toInt) ∨ (y.toInt ≤ x.toInt ∧ z.toInt = x.toInt) := by
  by_cases q : x < y
  · rw [if_pos q] at e
    exact Or.inl ⟨Int32.lt_iff_toInt_lt.mp q, by rw [e]⟩
  · rw [if_neg q] at e
    exact Or.inr ⟨Int32.le_iff_toInt_le.mp (Int32.not_lt.mp q), by rw [e]⟩
theorem mz_mn {x y z : Int32} (e : z = if y < x then y else x) : (y.toInt < x.toInt ∧ z.toInt = y.toInt) ∨ (x.toInt ≤ y.toInt ∧ z.toInt = x.toInt) := by
  by_cases q : y < x
  · rw [if_pos q] at e
    exact Or.inl ⟨Int32.lt_iff_toInt_lt.mp q, by rw [e]⟩
  · rw [if_neg q] at e
    exact Or.inr ⟨Int32.le_iff_toInt_le.mp (Int32.not_lt.mp q), by rw [e]⟩
theorem mz_cby {K S B : Nat → Int32} {t u : Nat} {l1 l2 h1 h2 x y : Int32} (e1 : mz_s9 (S t) → l1.toInt = mz_lo (K t) (B t) (ms_pc (S t))) (e2 : mz_s9 (S u) → l2.toInt = mz_lo (K u) (B u) (ms_pc (S u))) (e3 : h1.toInt = mz_hi (K t) (B t)) (e4 : h2.toInt = mz_hi (K u) (B u)) (ex : x = if l1 < l2 then l2 else l1) (ey : y = if h2 < h1 then h2 else h1) (c : x ≤ y) : mz_s9 (S t) → mz_s9 (S u) → ¬ mz_ct K S B t u := by
  intro s1 s2 q
  have a1 := e1 s1
  have a2 := e2 s2
  have a3 := mz_mx ex
  have a4 := mz_mn ey
  have a5 := Int32.le_iff_toInt_le.mp c
  unfold mz_ct at q
  omega
theorem mz_cbn {K S B : Nat → Int32} {t u : Nat} {l1 l2 h1 h2 x y : Int32} (e1 : mz_s9 (S t) → l1.toInt = mz_lo (K t) (B t) (ms_pc (S t))) (e2 : mz_s9 (S u) → l2.toInt = mz_lo (K u) (B u) (ms_pc (S u))) (e3 : h1.toInt = mz_hi (K t) (B t)) (e4 : h2.toInt = mz_hi (K u) (B u)) (ex : x = if l1 < l2 then l2 else l1) (ey : y = if h2 < h1 then h2 else h1) (c : y < x) : mz_s9 (S t) → mz_s9 (S u) → mz_ct K S B t u := by
  intro s1 s2
  have a1 := e1 s1
  have a2 := e2 s2
  have a3 := mz_mx ex
  have a4 := mz_mn ey
  have a5 := Int32.lt_iff_toInt_lt.mp c
  unfold mz_ct
  omega
/-! the pairs in order -/
theorem mz_cb0 (K S B : Nat → Int32) (n : Nat) : mz_cb K S B n 0 1 := ⟨fun x y h => absurd h (Nat.not_lt_zero _), fun y h1 h2 => absurd h1 (by omega)⟩
theorem mz_cbi {K S B : Nat → Int32} {n t u : Nat} (h : mz_cb K S B n t u) (q : ¬ mz_cp K S B t u) : mz_cb K S B n t (u + 1) := by
  refine ⟨h.1, fun y h1 h2 => ?_⟩
  by_cases e : y = u
  · rw [e]; exact q
  · exact h.2 y h1 (by omega)
theorem mz_cbo {K S B : Nat → Int32} {n t u : Nat} (h : mz_cb K S B n t u) (q : n ≤ u) : mz_cb K S B n (t + 1) (t + 2) := by
  refine ⟨fun x y h1 h2 h3 => ?_, fun y h1 h2 => absurd h1 (by omega)⟩
  by_cases e : x = t
  · subst e; exact h.2 y h2 (by omega)
  · exact h.1 x y (by omega) h2 h3
theorem mz_cln {K S B : Nat → Int32} {n t u : Nat} (h : mz_cb K S B n t u) (q : n ≤ t) : mz_cl K S B n (-1) := Or.inr ⟨fun x y h1 h2 => h.1 x y (by omega) h1 h2, rfl⟩
/-! the reference: two rounds over low and high -/
theorem mz_loE (K B : Int32) (n : Int) : (K = 1 ∧ mz_lo K B n = n) ∨ (¬ K = 1 ∧ n < B.toInt ∧ mz_lo K B n = B.toInt) ∨ (¬ K = 1 ∧ B.toInt ≤ n ∧ mz_lo K B n = n) := by
  unfold mz_lo
  by_cases c : K = 1
  · exact Or.inl ⟨c, by rw [if_pos c]⟩
  · rw [if_neg c]
    by_cases d : n < B.toInt
    · exact Or.inr (Or.inl ⟨c, d, by rw [if_pos d]⟩)
    · exact Or.inr (Or.inr ⟨c, by omega, by rw [if_neg d]⟩)
theorem mz_ifE {a b z : Int} (e : z = if a < b then a else b) : (a < b ∧ z = a) ∨ (b ≤ a ∧ z = b) := by
  by_cases c : a < b
  · rw [if_pos c] at e; exact Or.inl ⟨c, e⟩
  · rw [if_neg c] at e; exact Or.inr ⟨by omega, e⟩
theorem mz_hiE {K B : Int32} (h : B.toInt ≤ 1000000) : mz_hi K B ≤ 1000000 := by
  unfold mz_hi
  by_cases c : K = 2
  · rw [if_pos c]; decide
  · rw [if_neg c]; exact h
theorem mz_two {K S B : Nat → Int32} {t u : Nat} {n l1 l2 h1 h2 : Int} (en : n = (ms_pc (S t) : Int)) (es : S t = S u) (b1 : (B t).toInt ≤ 1000000) (b2 : (B u).toInt ≤ 1000000) (a1 : l1 = mz_lo (K t) (B t) n) (a2 : l2 = mz_lo (K u) (B u) l1) (c1 : h1 = if mz_hi (K t) (B t) < 1000000 then mz_hi (K t) (B t) else 1000000) (c2 : h2 = if mz_hi (K u) (B u) < h1 then mz_hi (K u) (B u) else h1) : h2 < l2 ↔ mz_ct K S B t u := by
  subst en
  unfold mz_ct
  rw [← es]
  have p1 := mz_loE (K t) (B t) (ms_pc (S t))
  have p2 := mz_loE (K u) (B u) l1
  have p3 := mz_loE (K u) (B u) (ms_pc (S t))
  have p4 := mz_ifE c1
  have p5 := mz_ifE c2
  have p6 := mz_hiE (K := K t) b1
  have p7 := mz_hiE (K := K u) b2
  rw [← a1] at p1 ⊢
  rw [← a2] at p2
  clear c1 c2 a1 a2
  generalize mz_lo (K u) (B u) (ms_pc (S t)) = w at *
  generalize mz_hi (K t) (B t) = v1 at *
  generalize mz_hi (K u) (B u) = v2 at *
  by_cases q1 : K t = 1 <;> by_cases q2 : K u = 1 <;> simp only [q1, q2, true_and, false_and, not_true, not_false_iff, or_false, false_or] at p1 p2 p3 <;> omega
/-! the class's loops -/
def mz_pr9 (S : Nat → Int32) (n : Int32) : Prop := ∀ k : Nat, (k : Int) < n.toInt → mz_s9 (S k)
theorem mz_cbI {K S B : Nat → Int32} {n t u : Int32} (h : mz_pr9 S n → mz_cb K S B n.toNatClampNeg t.toNatClampNeg (t.toNatClampNeg + 1)) (e : u.toInt = t.toInt + 1) (h0 : 0 ≤ t.toInt) : mz_pr9 S n → mz_cb K S B n.toNatClampNeg t.toNatClampNeg u.toNatClampNeg := by
  have a := ms_clv h0
  have b := ms_clv (x := u) (by omega)
  rw [show u.toNatClampNeg = t.toNatClampNeg + 1 by omega]
  exact h
theorem mz_cbS1 {K S B : Nat → Int32} {n t u u' a b : Int32} (h : mz_pr9 S n → mz_cb K S B n.toNatClampNeg t.toNatClampNeg u.toNatClampNeg) (et : a = S t.toNatClampNeg) (eu : b = S u.toNatClampNeg) (c : ¬ a = b) (e : u'.toInt = u.toInt + 1) (h0 : 0 ≤ u.toInt) : mz_pr9 S n → mz_cb K S B n.toNatClampNeg t.toNatClampNeg u'.toNatClampNeg := by
  have p := ms_clv h0
  have q := ms_clv (x := u') (by omega)
  rw [show u'.toNatClampNeg = u.toNatClampNeg + 1 by omega]
  exact fun g => mz_cbi (h g) (fun w => c (by rw [et, eu]; exact w.1))
theorem mz_in9 {S : Nat → Int32} {n t : Int32} (g : mz_pr9 S n) (c : t < n) (h0 : 0 ≤ t.toInt) : mz_s9 (S t.toNatClampNeg) := by
  have p := ms_clv h0
  have q := Int32.lt_iff_toInt_lt.mp c
  exact g _ (by omega)
theorem mz_cbS2 {K S B : Nat → Int32} {n t u u' : Int32} (h : mz_pr9 S n → mz_cb K S B n.toNatClampNeg t.toNatClampNeg u.toNatClampNeg) (x : mz_s9 (S t.toNatClampNeg) → mz_s9 (S u.toNatClampNeg) → ¬ mz_ct K S B t.toNatClampNeg u.toNatClampNeg) (ct : t < n) (cu : u < n) (e : u'.toInt = u.toInt + 1) (h1 : 0 ≤ t.toInt) (h0 : 0 ≤ u.toInt) : mz_pr9 S n → mz_cb K S B n.toNatClampNeg t.toNatClampNeg u'.toNatClampNeg := by
  have p := ms_clv h0
  have q := ms_clv (x := u') (by omega)
  rw [show u'.toNatClampNeg = u.toNatClampNeg + 1 by omega]
  exact fun g => mz_cbi (h g) (fun w => x (mz_in9 g ct h1) (mz_in9 g cu h0) w.2)
theorem mz_cbT {K S B : Nat → Int32} {n t u t' : Int32} (h : mz_pr9 S n → mz_cb K S B n.toNatClampNeg t.toNatClampNeg u.toNatClampNeg) (c : n ≤ u) (e : t'.toInt = t.toInt + 1) (h1 : 0 ≤ t.toInt) (h0 : 0 ≤ u.toInt) (hn : 0 ≤ n.toInt) : mz_pr9 S n → mz_cb K S B n.toNatClampNeg t'.toNatClampNeg (t'.toNatClampNeg + 1) := by
  have a := ms_clv h0
  have b := ms_clv h1
  have d := ms_clv hn
  have q := ms_clv (x := t') (by omega)
  have w := Int32.le_iff_toInt_le.mp c
  rw [show t'.toNatClampNeg = t.toNatClampNeg + 1 by omega]
  exact fun g => mz_cbo (h g) (by omega)
theorem mz_clN {K S B : Nat → Int32} {n t : Int32} (h : mz_pr9 S n → mz_cb K S B n.toNatClampNeg t.toNatClampNeg (t.toNatClampNeg + 1)) (c : n ≤ t) (h1 : 0 ≤ t.toInt) (hn : 0 ≤ n.toInt) : mz_pr9 S n → mz_cl K S B n.toNatClampNeg (-1) := by
  have b := ms_clv h1
  have d := ms_clv hn
  have w := Int32.le_iff_toInt_le.mp c
  exact fun g => mz_cln (h g) (by omega)
theorem mz_clY {K S B : Nat → Int32} {n t u r a b : Int32} (h : mz_pr9 S n → mz_cb K S B n.toNatClampNeg t.toNatClampNeg u.toNatClampNeg) (et : a = S t.toNatClampNeg) (eu : b = S u.toNatClampNeg) (c : a = b) (x : mz_s9 (S t.toNatClampNeg) → mz_s9 (S u.toNatClampNeg) → mz_ct K S B t.toNatClampNeg u.toNatClampNeg) (ct : t < n) (cu : u < n) (tu : t.toInt + 1 ≤ u.toInt) (h1 : 0 ≤ t.toInt) (u6 : u.toInt ≤ 6) (er : r.toInt = 10 * t.toInt + u.toInt) : mz_pr9 S n → mz_cl K S B n.toNatClampNeg r := by
  have p := ms_clv h1
  have q := ms_clv (x := u) (by omega)
  have w := Int32.lt_iff_toInt_lt.mp cu
  have d := ms_clv (x := n) (by omega)
  exact fun g => Or.inl ⟨_, _, by omega, by omega, ⟨by rw [← et, ← eu]; exact c, x (mz_in9 g ct h1) (mz_in9 g cu (by omega))⟩, h g, by rw [← Int32.toInt_inj, nI_toInt (by omega)]; omega⟩
