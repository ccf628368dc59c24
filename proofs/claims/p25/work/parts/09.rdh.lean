/-! the reference's clash -/
abbrev mz_rw (M : Nat → Int32) (k : Nat) : Nat → Int32 := fun t => M (k + t)
theorem mz_NUb {f : Nat → Int32} {n lo hi a x : Int32} {k : Nat} {s : mz_S} {R' : Nat → Int32} (h : mz_NU f n k lo hi s (.inr (a, R'))) (e : x = R' k) : lo.toInt ≤ x.toInt ∧ x.toInt ≤ hi.toInt := by
  rcases h with ⟨q, h1, h2⟩ | ⟨v, e1, h1, h2⟩
  · cases h2
  · cases h2
    have ex : x = v := by rw [e, mz_up, if_pos rfl]
    obtain ⟨sg, b, c, v2, e2, -, ⟨-, k1⟩ | ⟨-, -, k1⟩ | ⟨-, k2, k1⟩⟩ := h1
    · cases k1
    · cases k1
    · cases k1
      rw [ex]
      omega
theorem mz_NU8 {f : Nat → Int32} {n hi a x : Int32} {k : Nat} {s : mz_S} {R' : Nat → Int32} (h : mz_NU f n k 0 hi s (.inr (a, R'))) (e : x = R' k) (g : hi.toInt ≤ 8) : 0 ≤ x.toInt ∧ x.toInt ≤ 8 := by
  have q := mz_NUb h e
  rw [show (0 : Int32).toInt = 0 by decide] at q
  omega
theorem mz_n4 {M : Nat → Int32} {x t : Int32} (ex : x = M (4 : Int32).toNatClampNeg) (c : t < x) : t < M 4 := by
  rw [show (4 : Int32).toNatClampNeg = 4 by decide] at ex
  rw [← ex]
  exact c
theorem mz_n4e {M : Nat → Int32} {x t : Int32} (ex : x = M (4 : Int32).toNatClampNeg) (c : x ≤ t) : M 4 ≤ t := by
  rw [show (4 : Int32).toNatClampNeg = 4 by decide] at ex
  rw [← ex]
  exact c
theorem mz_jlA {c x K B : Int32} (ec : c = K) (h : c = 1) : x.toInt = mz_lo K B x.toInt := by
  unfold mz_lo
  rw [if_pos (ec.symm.trans h)]
theorem mz_jlB {c b x K B : Int32} (ec : c = K) (eb : b = B) (n : ¬ c = 1) (q : b ≤ x) : x.toInt = mz_lo K B x.toInt := by
  subst ec eb
  have q2 := Int32.le_iff_toInt_le.mp q
  unfold mz_lo
  rw [if_neg n, if_neg (by omega)]
theorem mz_jlC {c b x K B : Int32} (ec : c = K) (eb : b = B) (n : ¬ c = 1) (q : x < b) : b.toInt = mz_lo K B x.toInt := by
  subst ec eb
  have q2 := Int32.lt_iff_toInt_lt.mp q
  unfold mz_lo
  rw [if_neg n, if_pos q2]
theorem mz_jhA {c g K B : Int32} (ec : c = K) (h : c = 2) (hg : g.toInt ≤ 1000000) : g.toInt = if mz_hi K B < g.toInt then mz_hi K B else g.toInt := by
  have e : mz_hi K B = 1000000 := by
    unfold mz_hi
    rw [if_pos (ec.symm.trans h)]
  rw [e, if_neg (by omega)]
theorem mz_jhB {c b g K B : Int32} (ec : c = K) (eb : b = B) (n : ¬ c = 2) (q : g ≤ b) : g.toInt = if mz_hi K B < g.toInt then mz_hi K B else g.toInt := by
  subst ec eb
  have q2 := Int32.le_iff_toInt_le.mp q
  have e : mz_hi c b = b.toInt := by
    unfold mz_hi
    rw [if_neg n]
  rw [e, if_neg (by omega)]
theorem mz_jhC {c b g K B : Int32} (ec : c = K) (eb : b = B) (n : ¬ c = 2) (q : b < g) : b.toInt = if mz_hi K B < g.toInt then mz_hi K B else g.toInt := by
  subst ec eb
  have q2 := Int32.lt_iff_toInt_lt.mp q
  have e : mz_hi c b = b.toInt := by
    unfold mz_hi
    rw [if_neg n]
  rw [e, if_pos q2]
theorem mz_rct {M : Nat → Int32} {t u s low l1 l2 h1 h2 : Int32} (es : s = M (56 + t.toNatClampNeg)) (e0 : low = nI (ms_pc s)) (a1 : l1.toInt = mz_lo (M (50 + t.toNatClampNeg)) (M (62 + t.toNatClampNeg)) low.toInt) (a2 : l2.toInt = mz_lo (M (50 + u.toNatClampNeg)) (M (62 + u.toNatClampNeg)) l1.toInt) (c1 : h1.toInt = if mz_hi (M (50 + t.toNatClampNeg)) (M (62 + t.toNatClampNeg)) < (1000000 : Int32).toInt then mz_hi (M (50 + t.toNatClampNeg)) (M (62 + t.toNatClampNeg)) else (1000000 : Int32).toInt) (c2 : h2.toInt = if mz_hi (M (50 + u.toNatClampNeg)) (M (62 + u.toNatClampNeg)) < h1.toInt then mz_hi (M (50 + u.toNatClampNeg)) (M (62 + u.toNatClampNeg)) else h1.toInt) (hB : rg_S M 62 68 0 999) (t0 : 0 ≤ t.toInt) (t5 : t.toInt ≤ 5) (u0 : 0 ≤ u.toInt) (u5 : u.toInt ≤ 5) (eq : M (56 + t.toNatClampNeg) = M (56 + u.toNatClampNeg)) : h2.toInt < l2.toInt ↔ mz_ct (mz_rw M 50) (mz_rw M 56) (mz_rw M 62) t.toNatClampNeg u.toNatClampNeg := by
  have a := ms_clv t0
  have b := ms_clv u0
  have b1 := (hB (62 + t.toNatClampNeg) (by omega) (by omega)).2
  have b2 := (hB (62 + u.toNatClampNeg) (by omega) (by omega)).2
  rw [show (1000000 : Int32).toInt = 1000000 by decide] at c1
  have en := mz_nI5 e0
  rw [es] at en
  exact mz_two (K := mz_rw M 50) (S := mz_rw M 56) (B := mz_rw M 62) (t := t.toNatClampNeg) (u := u.toNatClampNeg) (n := low.toInt) (l1 := l1.toInt) (l2 := l2.toInt) (h1 := h1.toInt) (h2 := h2.toInt) en eq (Int.le_trans b1 (by decide)) (Int.le_trans b2 (by decide)) a1 a2 c1 c2
theorem mz_rcn {X : Prop} {h2 l2 : Int32} (e : h2.toInt < l2.toInt ↔ X) (c : l2 ≤ h2) : ¬ X := fun x => by
  have p := e.mpr x
  have q := Int32.le_iff_toInt_le.mp c
  omega
theorem mz_rcy {X : Prop} {h2 l2 : Int32} (e : h2.toInt < l2.toInt ↔ X) (c : h2 < l2) : X := e.mp (Int32.lt_iff_toInt_lt.mp c)
/-- the class's answer and the reference's -/
theorem mz_clrel {Tr Q r r' : Int32} {K S B M : Nat → Int32} (hR : Tr = Q) (hQ : Q = M 4) (h0 : 0 ≤ Tr.toInt) (h6 : Tr.toInt ≤ 6) (hs : rg_S M 56 62 0 511) (he : ∀ t : Nat, (t : Int) < Tr.toInt → K t = M (50 + t) ∧ S t = M (56 + t) ∧ B t = M (62 + t)) (h : mz_pr9 S Tr → mz_cl K S B Tr.toNatClampNeg r) (g : mz_pr9 (mz_rw M 56) (M 4) → mz_cl (mz_rw M 50) (mz_rw M 56) (mz_rw M 62) (M 4).toNatClampNeg r') : r = r' := by
  subst hR
  have a := ms_clv h0
  have p : mz_pr9 (mz_rw M 56) Tr := fun k hk => hs (56 + k) (by omega) (by omega)
  have q : mz_pr9 S Tr := fun k hk => by
    rw [(he k hk).2.1]
    exact p k hk
  rw [← hQ] at g
  exact mz_cld (mz_clc (fun t ht => he t (by omega)) (h q)) (g p)
