/-! want, exactly -/
theorem mz_wsg {W V : Nat → Int32} (h : ∀ k : Nat, k < 9 → W k = V k) : ∀ n : Nat, n ≤ 9 → ms_ws W n = ms_ws V n := by
  intro n
  induction n with
  | zero => intro _; rfl
  | succ n ih =>
    intro hn
    unfold ms_ws
    rw [ih (by omega), h n (by omega)]
theorem mz_wsn {f : Nat → Int32} {s r r' v : Int32} (h : s = ms_ws f r.toNatClampNeg) (e : v = f r.toNatClampNeg) (c : v = 0) (er : r'.toInt = r.toInt + 1) (hr : 0 ≤ r.toInt) : s = ms_ws f r'.toNatClampNeg :=
  ms_wsB h e (by rw [c]; decide) (by rw [Int32.or_zero]) er hr
theorem mz_wsp {f : Nat → Int32} {s r r' v q s' : Int32} (h : s = ms_ws f r.toNatClampNeg) (e : v = f r.toNatClampNeg) (c : 1 ≤ v.toInt) (eq : q = (1 : Int32) <<< (r &&& 31)) (es : s' = s ||| q) (er : r'.toInt = r.toInt + 1) (hr : 0 ≤ r.toInt) : s' = ms_ws f r'.toNatClampNeg :=
  ms_wsA h e (Int32.lt_iff_toInt_lt.mpr (by rw [show (0 : Int32).toInt = 0 by decide]; omega)) eq es er hr
abbrev mz_oth (W : Nat → Int32) (a : Int32) : Int32 := ms_ws W 9 &&& (((1 : Int32) <<< (a &&& 31)) ^^^ (-1))
def mz_wq (Rd a b : Int32) (W : Nat → Int32) (r : Int32) (W' : Nat → Int32) : Prop := (¬ (0 ≤ a.toInt ∧ a.toInt < Rd.toInt) ∧ r = -1000000001 ∧ W' = W) ∨ ((0 ≤ a.toInt ∧ a.toInt < Rd.toInt) ∧ ((¬ (0 ≤ b.toInt ∧ b.toInt ≤ 999) ∧ r = -1000000002 ∧ W' = W) ∨ ((0 ≤ b.toInt ∧ b.toInt ≤ 999) ∧ (((1 ≤ b.toInt ∧ 5 ≤ ms_pc (mz_oth W a)) ∧ r = -1000000004 ∧ W' = W) ∨ (¬ (1 ≤ b.toInt ∧ 5 ≤ ms_pc (mz_oth W a)) ∧ W' = upd W a.toNatClampNeg b ∧ r = nI (ms_pc (ms_ws W' 9)))))))
theorem mz_wqd {Rd Q a b r r' : Int32} {W V W' V' : Nat → Int32} (hR : Rd = Q) (h : ∀ k : Nat, k < 9 → W k = V k) (h1 : mz_wq Rd a b W r W') (h2 : mz_wq Q a b V r' V') : r = r' ∧ ∀ k : Nat, k < 9 → W' k = V' k := by
  subst hR
  have e : ms_ws W 9 = ms_ws V 9 := mz_wsg h 9 (Nat.le_refl _)
  have eo : mz_oth W a = mz_oth V a := by unfold mz_oth; rw [e]
  rcases h1 with ⟨p1, rfl, rfl⟩ | ⟨p1, ⟨p2, rfl, rfl⟩ | ⟨p2, ⟨p3, rfl, rfl⟩ | ⟨p3, p4, p5⟩⟩⟩ <;> rcases h2 with ⟨q1, rfl, rfl⟩ | ⟨q1, ⟨q2, rfl, rfl⟩ | ⟨q2, ⟨q3, rfl, rfl⟩ | ⟨q3, q4, q5⟩⟩⟩ <;> first | exact ⟨rfl, h⟩ | exact absurd p1 q1 | exact absurd q1 p1 | exact absurd p2 q2 | exact absurd q2 p2 | (rw [eo] at p3; exact absurd p3 q3) | (rw [eo] at p3; exact absurd q3 p3) | skip
  have g : ∀ k : Nat, k < 9 → W' k = V' k := fun k hk => by
    rw [p4, q4]
    show (if k = _ then b else W k) = (if k = _ then b else V k)
    rw [h k hk]
  exact ⟨by rw [p5, q5, mz_wsg g 9 (Nat.le_refl _)], g⟩
theorem mz_pc9 (x : Int32) : ms_pc x ≤ 9 := by
  unfold ms_pc
  exact Nat.le_trans (List.length_filter_le _ _) (by decide)
theorem mz_nI5 {x r : Int32} (e : r = nI (ms_pc x)) : r.toInt = (ms_pc x : Int) := by
  rw [e]
  exact nI_toInt (by have := mz_pc9 x; omega)
theorem mz_pge {x r : Int32} (e : r = nI (ms_pc x)) (c : 5 ≤ r) : 5 ≤ ms_pc x := by
  have q := Int32.le_iff_toInt_le.mp c
  rw [mz_nI5 e, show (5 : Int32).toInt = 5 by decide] at q
  omega
theorem mz_plt {x r : Int32} (e : r = nI (ms_pc x)) (c : r < 5) : ¬ 5 ≤ ms_pc x := by
  have q := Int32.lt_iff_toInt_lt.mp c
  rw [mz_nI5 e, show (5 : Int32).toInt = 5 by decide] at q
  omega
theorem mz_no0 {b : Int32} (n : ¬ b = 0) (h : ¬ (1 ≤ b.toInt ∧ b.toInt ≤ 999)) : ¬ (0 ≤ b.toInt ∧ b.toInt ≤ 999) := by
  rintro ⟨h0, h1⟩
  have q : ¬ b.toInt = 0 := fun e => n (Int32.toInt_inj.mp (e.trans (by decide)))
  exact h ⟨by omega, h1⟩
theorem mz_b0 {b : Int32} (e : b = 0) : (0 ≤ b.toInt ∧ b.toInt ≤ 999) ∧ ¬ 1 ≤ b.toInt := by
  subst e
  decide
theorem mz_b1 {b : Int32} (h : 1 ≤ b.toInt ∧ b.toInt ≤ 999) : 0 ≤ b.toInt ∧ b.toInt ≤ 999 := ⟨by omega, h.2⟩
theorem mz_oE {W : Nat → Int32} {s q y z a : Int32} (es : s = ms_ws W 9) (eq : q = (1 : Int32) <<< (a &&& 31)) (ey : y = q ^^^ (-1)) (ez : z = s &&& y) : z = mz_oth W a := by
  subst es eq ey ez
  rfl
theorem mz_p5 {x r : Int32} (e : r = nI (ms_pc x)) (c : r = 5) : 5 ≤ ms_pc x := mz_pge e (by rw [c]; decide)
theorem mz_pn5 {x r : Int32} (e : r = nI (ms_pc x)) (h : ms_pc x ≤ 5) (c : ¬ r = 5) : ¬ 5 ≤ ms_pc x := fun q => c (by rw [e, show ms_pc x = 5 by omega]; decide)
theorem mz_w5pc {f : Nat → Int32} {s q y z r : Int32} (h5 : ms_w5 f) (es : s = ms_ws f 9) (eq : q = (1 : Int32) <<< (r &&& 31)) (ey : y = q ^^^ (-1)) (ez : z = s &&& y) (h0 : 0 ≤ r.toInt) (h8 : r.toInt ≤ 8) : ms_pc z ≤ 5 ∧ 0 ≤ z.toInt ∧ z.toInt ≤ 511 := by
  have h1 := ms_clv h0
  have er' : r = nI r.toNatClampNeg := by rw [← Int32.toInt_inj, nI_toInt (by omega)]; omega
  have hk : r.toNatClampNeg < 9 := by omega
  rw [er'] at eq
  generalize r.toNatClampNeg = k at *
  have B := ms_wB2 (decide (0 < (f 0).toInt)) (decide (0 < (f 1).toInt)) (decide (0 < (f 2).toInt)) (decide (0 < (f 3).toInt)) (decide (0 < (f 4).toInt)) (decide (0 < (f 5).toInt)) (decide (0 < (f 6).toInt)) (decide (0 < (f 7).toInt)) (decide (0 < (f 8).toInt)) k hk
  have ez2 : z = ms_wb (ms_bl f) 9 &&& (((1 : Int32) <<< (nI k &&& 31)) ^^^ (-1)) := by rw [ez, ey, eq, es, ms_wsb f 9 (Nat.le_refl _)]
  have B : ms_wn ((ms_bl f).set k true) 9 ≤ ms_pc z + 1 ∧ ms_pc z ≤ ms_wn (ms_bl f) 9 ∧ ms_wn ((ms_bl f).set k false) 9 ≤ ms_wn (ms_bl f) 9 ∧ 0 ≤ z.toInt ∧ z.toInt ≤ 511 := by rw [ez2]; exact B
  obtain ⟨b1, b2, b3, b4, b5⟩ := B
  unfold ms_w5 at h5
  rw [ms_wcb f 9 (Nat.le_refl _)] at h5
  exact ⟨by omega, b4, b5⟩
