/-! images and papers: answers and what changes, exactly -/
def mz_kq (a k0 k1 x y : Int32) : Prop := (a = 0 ∧ x = 1 ∧ y = k1) ∨ (a = 1 ∧ x = k0 ∧ y = 1) ∨ ((¬ a = 0 ∧ ¬ a = 1) ∧ x = k0 ∧ y = k1)
theorem mz_kqd {a k0 k1 x y x' y' : Int32} (h : mz_kq a k0 k1 x y) (g : mz_kq a k0 k1 x' y') : x = x' ∧ y = y' := by
  rcases h with ⟨h1, rfl, rfl⟩ | ⟨h1, rfl, rfl⟩ | ⟨h1, rfl, rfl⟩ <;> rcases g with ⟨g1, rfl, rfl⟩ | ⟨g1, rfl, rfl⟩ | ⟨g1, rfl, rfl⟩ <;> first | exact ⟨rfl, rfl⟩ | exact absurd (h1.symm.trans g1) (by decide) | exact absurd h1 g1.1 | exact absurd h1 g1.2 | exact absurd g1 h1.1 | exact absurd g1 h1.2
def mz_g1 (r k : Int32) : Prop := (k = 0 ∧ r = -1000000003) ∨ (¬ k = 0 ∧ r = 1)
def mz_gb (a k0 k1 r : Int32) : Prop := (a = 0 ∧ mz_g1 r k0) ∨ (a = 1 ∧ mz_g1 r k1) ∨ ((¬ a = 0 ∧ ¬ a = 1) ∧ r = -1000000001)
theorem mz_g1d {r r' k : Int32} (h : mz_g1 r k) (g : mz_g1 r' k) : r = r' := by
  rcases h with ⟨h1, rfl⟩ | ⟨h1, rfl⟩ <;> rcases g with ⟨g1, rfl⟩ | ⟨g1, rfl⟩ <;> first | rfl | exact absurd h1 g1 | exact absurd g1 h1
theorem mz_gbd {a k0 k1 r r' : Int32} (h : mz_gb a k0 k1 r) (g : mz_gb a k0 k1 r') : r = r' := by
  rcases h with ⟨h1, h2⟩ | ⟨h1, h2⟩ | ⟨h1, rfl⟩ <;> rcases g with ⟨g1, g2⟩ | ⟨g1, g2⟩ | ⟨g1, rfl⟩ <;> first | rfl | exact mz_g1d h2 g2 | exact absurd (h1.symm.trans g1) (by decide) | exact absurd h1 g1.1 | exact absurd h1 g1.2 | exact absurd g1 h1.1 | exact absurd g1 h1.2
theorem mz_ni0 {a : Int32} (h : ¬ ((0 : Int64).toInt ≤ (a.toInt64).toInt ∧ (a.toInt64).toInt ≤ (1 : Int64).toInt)) : ¬ a = 0 ∧ ¬ a = 1 := by
  constructor
  · rintro rfl
    exact h (by decide)
  · rintro rfl
    exact h (by decide)
theorem mz_kqr0 {a : Int32} {K K' : Nat → Int32} (h : a = 0) (e : K' = upd K (0 : Int32).toNatClampNeg (vp_nar .boolean 1)) : mz_kq a (K 0) (K 1) (K' 0) (K' 1) := by
  subst e
  refine Or.inl ⟨h, ?_, ?_⟩
  · rw [mz_up, if_pos (by decide)]
    decide
  · rw [mz_up, if_neg (by decide)]
theorem mz_kqr1 {a : Int32} {K K' : Nat → Int32} (h : a = 1) (e : K' = upd K (1 : Int32).toNatClampNeg (vp_nar .boolean 1)) : mz_kq a (K 0) (K 1) (K' 0) (K' 1) := by
  subst e
  refine Or.inr (Or.inl ⟨h, ?_, ?_⟩)
  · rw [mz_up, if_neg (by decide)]
  · rw [mz_up, if_pos (by decide)]
    decide
/-- an entry in the book: its answer, and how many there are -/
def mz_wt (Rd a b e r e' : Int32) : Prop := (¬ (0 ≤ a.toInt ∧ a.toInt < Rd.toInt) ∧ r = -1000000001 ∧ e' = e) ∨ ((0 ≤ a.toInt ∧ a.toInt < Rd.toInt) ∧ ((¬ (1 ≤ b.toInt ∧ b.toInt ≤ 999) ∧ r = -1000000002 ∧ e' = e) ∨ ((1 ≤ b.toInt ∧ b.toInt ≤ 999) ∧ ((15 ≤ e.toInt ∧ r = -1000000004 ∧ e' = e) ∨ (e.toInt < 15 ∧ r = e' ∧ e'.toInt = e.toInt + 1)))))
theorem mz_wtd {Rd a b e r x r' x' : Int32} (h : mz_wt Rd a b e r x) (g : mz_wt Rd a b e r' x') : r = r' ∧ x = x' := by
  rcases h with ⟨h1, rfl, rfl⟩ | ⟨h1, ⟨h2, rfl, rfl⟩ | ⟨h2, ⟨h3, rfl, rfl⟩ | ⟨h3, rfl, h4⟩⟩⟩ <;> rcases g with ⟨g1, rfl, rfl⟩ | ⟨g1, ⟨g2, rfl, rfl⟩ | ⟨g2, ⟨g3, rfl, rfl⟩ | ⟨g3, rfl, g4⟩⟩⟩ <;> first | exact ⟨rfl, rfl⟩ | exact absurd h1 g1 | exact absurd g1 h1 | exact absurd h2 g2 | exact absurd g2 h2 | (exfalso; omega) | exact ⟨Int32.toInt_inj.mp (by omega), Int32.toInt_inj.mp (by omega)⟩
theorem mz_nrA {a n : Int32} (h : a.toInt ≤ -1) : ¬ (0 ≤ a.toInt ∧ a.toInt < n.toInt) := by omega
theorem mz_nrB {a n : Int32} (h : n ≤ a) : ¬ (0 ≤ a.toInt ∧ a.toInt < n.toInt) := by
  have q := Int32.le_iff_toInt_le.mp h
  omega
theorem mz_nmA {a : Int32} (h : a.toInt ≤ 0) : ¬ (1 ≤ a.toInt ∧ a.toInt ≤ 999) := by omega
theorem mz_nmB {a : Int32} (h : 1000 ≤ a.toInt) : ¬ (1 ≤ a.toInt ∧ a.toInt ≤ 999) := by omega
theorem mz_nmC {a : Int32} (h : ¬ ((1 : Int64).toInt ≤ (a.toInt64).toInt ∧ (a.toInt64).toInt ≤ (999 : Int64).toInt)) : ¬ (1 ≤ a.toInt ∧ a.toInt ≤ 999) := by
  rw [show (1 : Int64).toInt = 1 by decide, show (999 : Int64).toInt = 999 by decide, Int32.toInt_toInt64] at h
  exact h
theorem mz_ltn {a : Int32} {n m : Int} (h : a.toInt ≤ n) (g : decide (n < m) = true) : a.toInt < m := by
  have q := of_decide_eq_true g
  omega
theorem mz_irA {a x z : Int32} {M : Nat → Int32} (h : (0 : Int64).toInt ≤ (a.toInt64).toInt ∧ (a.toInt64).toInt ≤ (z.toInt64).toInt) (ez : z.toInt = x.toInt - (1 : Int32).toInt) (e : x = M (3 : Int32).toNatClampNeg) : 0 ≤ a.toInt ∧ a.toInt < (M 3).toInt := by
  rw [show (0 : Int64).toInt = 0 by decide, Int32.toInt_toInt64, Int32.toInt_toInt64, ez, show (1 : Int32).toInt = 1 by decide] at h
  rw [show (3 : Int32).toNatClampNeg = 3 by decide] at e
  rw [← e]
  omega
theorem mz_irB {a x z : Int32} {M : Nat → Int32} (h : ¬ ((0 : Int64).toInt ≤ (a.toInt64).toInt ∧ (a.toInt64).toInt ≤ (z.toInt64).toInt)) (ez : z.toInt = x.toInt - (1 : Int32).toInt) (e : x = M (3 : Int32).toNatClampNeg) : ¬ (0 ≤ a.toInt ∧ a.toInt < (M 3).toInt) := by
  rw [show (0 : Int64).toInt = 0 by decide, Int32.toInt_toInt64, Int32.toInt_toInt64, ez, show (1 : Int32).toInt = 1 by decide] at h
  rw [show (3 : Int32).toNatClampNeg = 3 by decide] at e
  rw [← e]
  omega
/-! sets of roads -/
theorem mz_neg1 : (-1 : Int32).toBitVec = BitVec.allOnes 32 := by decide
theorem mz_asp (x m : Int32) : (x &&& m) ||| (x &&& (m ^^^ (-1))) = x := by
  apply Int32.toBitVec_inj.mp
  simp only [Int32.toBitVec_or, Int32.toBitVec_and, Int32.toBitVec_xor, mz_neg1, BitVec.xor_allOnes]
  apply BitVec.eq_of_getLsbD_eq
  intro i hi
  simp only [BitVec.getLsbD_or, BitVec.getLsbD_and, BitVec.getLsbD_not, hi, decide_true, Bool.true_and]
  cases x.toBitVec.getLsbD i <;> cases m.toBitVec.getLsbD i <;> rfl
theorem mz_azr (x m : Int32) : (x &&& m) &&& (m ^^^ (-1)) = 0 := by
  apply Int32.toBitVec_inj.mp
  simp only [Int32.toBitVec_and, Int32.toBitVec_xor, mz_neg1, BitVec.xor_allOnes]
  apply BitVec.eq_of_getLsbD_eq
  intro i hi
  simp only [BitVec.getLsbD_and, BitVec.getLsbD_not, hi, decide_true, Bool.true_and]
  cases x.toBitVec.getLsbD i <;> cases m.toBitVec.getLsbD i <;> simp
theorem mz_ins {x m : Int32} {k : Nat} (hk : 2 ^ k ≤ 512) (hm : m.toBitVec.toNat = 2 ^ k - 1) (hi : m.toInt = ((2 ^ k : Nat) : Int) - 1) : (x &&& (m ^^^ (-1))) = 0 ↔ 0 ≤ x.toInt ∧ x.toInt ≤ m.toInt := by
  have hp := Nat.two_pow_pos k
  constructor
  · intro h
    have e := mz_asp x m
    rw [h, Int32.or_zero] at e
    obtain ⟨j, hj, ej⟩ := pk_andE x k hm
    rw [ej] at e
    rw [← e, nI_toInt (by omega), hi]
    omega
  · rintro ⟨h0, h1⟩
    have hl : ¬ x < 0 := by
      rw [Int32.lt_iff_toInt_lt, show (0 : Int32).toInt = 0 by decide]
      omega
    obtain ⟨j, hj, e⟩ := nI_of hl
    have hj2 : j < 2 ^ k := by
      rw [e, nI_toInt hj, hi] at h1
      omega
    have ea : x &&& m = x := by
      rw [pk_and x k hm]
      have q : x.toBitVec.toNat = j := by
        rw [e]
        show (Int32.ofNat j).toBitVec.toNat = j
        rw [Int32.toBitVec_ofNat']
        simp only [BitVec.toNat_ofNat]
        omega
      rw [q, Nat.mod_eq_of_lt hj2]
      exact e.symm
    rw [← ea]
    exact mz_azr x m
theorem mz_insR {x Rd : Int32} (h0 : 0 ≤ Rd.toInt) (h9 : Rd.toInt ≤ 9) : (x &&& ((((1 : Int32) <<< (Rd &&& 31)) - 1) ^^^ (-1))) = 0 ↔ 0 ≤ x.toInt ∧ x.toInt ≤ (((1 : Int32) <<< (Rd &&& 31)) - 1).toInt := by
  rcases (show Rd.toInt = 0 ∨ Rd.toInt = 1 ∨ Rd.toInt = 2 ∨ Rd.toInt = 3 ∨ Rd.toInt = 4 ∨ Rd.toInt = 5 ∨ Rd.toInt = 6 ∨ Rd.toInt = 7 ∨ Rd.toInt = 8 ∨ Rd.toInt = 9 by omega) with h | h | h | h | h | h | h | h | h | h
  · obtain rfl : Rd = 0 := Int32.toInt_inj.mp (h.trans (by decide))
    exact mz_ins (k := 0) (by decide) (by decide) (by decide)
  · obtain rfl : Rd = 1 := Int32.toInt_inj.mp (h.trans (by decide))
    exact mz_ins (k := 1) (by decide) (by decide) (by decide)
  · obtain rfl : Rd = 2 := Int32.toInt_inj.mp (h.trans (by decide))
    exact mz_ins (k := 2) (by decide) (by decide) (by decide)
  · obtain rfl : Rd = 3 := Int32.toInt_inj.mp (h.trans (by decide))
    exact mz_ins (k := 3) (by decide) (by decide) (by decide)
  · obtain rfl : Rd = 4 := Int32.toInt_inj.mp (h.trans (by decide))
    exact mz_ins (k := 4) (by decide) (by decide) (by decide)
  · obtain rfl : Rd = 5 := Int32.toInt_inj.mp (h.trans (by decide))
    exact mz_ins (k := 5) (by decide) (by decide) (by decide)
  · obtain rfl : Rd = 6 := Int32.toInt_inj.mp (h.trans (by decide))
    exact mz_ins (k := 6) (by decide) (by decide) (by decide)
  · obtain rfl : Rd = 7 := Int32.toInt_inj.mp (h.trans (by decide))
    exact mz_ins (k := 7) (by decide) (by decide) (by decide)
  · obtain rfl : Rd = 8 := Int32.toInt_inj.mp (h.trans (by decide))
    exact mz_ins (k := 8) (by decide) (by decide) (by decide)
  · obtain rfl : Rd = 9 := Int32.toInt_inj.mp (h.trans (by decide))
    exact mz_ins (k := 9) (by decide) (by decide) (by decide)
/-- a journey: its answer, how many there are, and its two rows -/
def mz_in (Rd x : Int32) : Prop := 0 ≤ x.toInt ∧ x.toInt ≤ (((1 : Int32) <<< (Rd &&& 31)) - 1).toInt
def mz_jn (Rd x b e r e' : Int32) (P : Prop) (Q : Prop) : Prop := (¬ mz_in Rd x ∧ r = -1000000001 ∧ e' = e ∧ Q) ∨ (mz_in Rd x ∧ ((¬ (0 ≤ b.toInt ∧ b.toInt ≤ 999) ∧ r = -1000000002 ∧ e' = e ∧ Q) ∨ ((0 ≤ b.toInt ∧ b.toInt ≤ 999) ∧ ((8 ≤ e.toInt ∧ r = -1000000004 ∧ e' = e ∧ Q) ∨ (e.toInt < 8 ∧ r = e' ∧ e'.toInt = e.toInt + 1 ∧ P)))))
theorem mz_jnd {Rd x b e r y r' y' : Int32} {P Q P' Q' : Prop} (h : mz_jn Rd x b e r y P Q) (g : mz_jn Rd x b e r' y' P' Q') : r = r' ∧ y = y' ∧ ((P ∧ P' ∧ e.toInt < 8 ∧ y.toInt = e.toInt + 1) ∨ (Q ∧ Q' ∧ y = e)) := by
  rcases h with ⟨h1, rfl, rfl, q⟩ | ⟨h1, ⟨h2, rfl, rfl, q⟩ | ⟨h2, ⟨h3, rfl, rfl, q⟩ | ⟨h3, rfl, h4, p⟩⟩⟩ <;> rcases g with ⟨g1, rfl, rfl, q'⟩ | ⟨g1, ⟨g2, rfl, rfl, q'⟩ | ⟨g2, ⟨g3, rfl, rfl, q'⟩ | ⟨g3, rfl, g4, p'⟩⟩⟩ <;> first | exact ⟨rfl, rfl, Or.inr ⟨q, q', rfl⟩⟩ | exact absurd h1 g1 | exact absurd g1 h1 | exact absurd h2 g2 | exact absurd g2 h2 | (exfalso; omega) | exact ⟨Int32.toInt_inj.mp (by omega), Int32.toInt_inj.mp (by omega), Or.inl ⟨p, p', h3, h4⟩⟩
theorem mz_nfA {a : Int32} (h : a.toInt ≤ -1) : ¬ (0 ≤ a.toInt ∧ a.toInt ≤ 999) := by omega
theorem mz_nfB {a : Int32} (h : 1000 ≤ a.toInt) : ¬ (0 ≤ a.toInt ∧ a.toInt ≤ 999) := by omega
theorem mz_nfC {a : Int32} (h : ¬ ((0 : Int64).toInt ≤ (a.toInt64).toInt ∧ (a.toInt64).toInt ≤ (999 : Int64).toInt)) : ¬ (0 ≤ a.toInt ∧ a.toInt ≤ 999) := by
  rw [show (0 : Int64).toInt = 0 by decide, show (999 : Int64).toInt = 999 by decide, Int32.toInt_toInt64] at h
  exact h
theorem mz_jiA {a x s z : Int32} {M : Nat → Int32} (h : (0 : Int64).toInt ≤ (a.toInt64).toInt ∧ (a.toInt64).toInt ≤ (z.toInt64).toInt) (ez : z.toInt = s.toInt - (1 : Int32).toInt) (es : s = (1 : Int32) <<< (x &&& 31)) (e : x = M (3 : Int32).toNatClampNeg) : mz_in (M 3) a := by
  rw [show (3 : Int32).toNatClampNeg = 3 by decide] at e
  have q := mz_sI ez
  subst es e
  rw [show (0 : Int64).toInt = 0 by decide, Int32.toInt_toInt64, Int32.toInt_toInt64, q] at h
  exact h
theorem mz_jiB {a x s z : Int32} {M : Nat → Int32} (h : ¬ ((0 : Int64).toInt ≤ (a.toInt64).toInt ∧ (a.toInt64).toInt ≤ (z.toInt64).toInt)) (ez : z.toInt = s.toInt - (1 : Int32).toInt) (es : s = (1 : Int32) <<< (x &&& 31)) (e : x = M (3 : Int32).toNatClampNeg) : ¬ mz_in (M 3) a := by
  rw [show (3 : Int32).toNatClampNeg = 3 by decide] at e
  have q := mz_sI ez
  subst es e
  rw [show (0 : Int64).toInt = 0 by decide, Int32.toInt_toInt64, Int32.toInt_toInt64, q] at h
  exact h
theorem mz_jrow {J0 J1 J2 : Nat → Int32} {i1 i2 m2 k a b : Int32} (e1 : J1 = upd J0 i1.toNatClampNeg a) (e2 : J2 = upd J1 i2.toNatClampNeg b) (h1 : i1.toInt = (2 : Int32).toInt * k.toInt) (h2 : m2.toInt = (2 : Int32).toInt * k.toInt) (h3 : i2.toInt = m2.toInt + (1 : Int32).toInt) (h0 : 0 ≤ k.toInt) : J2 = upd (upd J0 (2 * k.toNatClampNeg) a) (2 * k.toNatClampNeg + 1) b := by
  rw [show (2 : Int32).toInt = 2 by decide] at h1 h2
  rw [show (1 : Int32).toInt = 1 by decide] at h3
  have q1 : i1.toNatClampNeg = 2 * k.toNatClampNeg := by
    show i1.toInt.toNat = 2 * k.toInt.toNat
    omega
  have q2 : i2.toNatClampNeg = 2 * k.toNatClampNeg + 1 := by
    show i2.toInt.toNat = 2 * k.toInt.toNat + 1
    omega
  rw [e2, e1, q1, q2]
