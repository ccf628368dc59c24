/-! what the reference keeps of roads: told miles and feet of a road are at least one -/
def ms_pr (n : Int32) (f : Nat → Int32) : Prop := ∀ i : Nat, (i : Int) < n.toInt → 1 ≤ (f i).toInt ∧ (f i).toInt ≤ 999
def ms_pf (f : Nat → Int32) : Prop := ∀ i : Nat, (i : Int) < (f 3).toInt → (1 ≤ (f (23 + i)).toInt ∧ (f (23 + i)).toInt ≤ 99) ∧ (1 ≤ (f (32 + i)).toInt ∧ (f (32 + i)).toInt ≤ 99)
def ms_pp (n u : Int32) (f : Nat → Int32) : Prop := ∀ k i : Nat, (k : Int) < u.toInt → (i : Int) < n.toInt → 1 ≤ (f (14 * k + i)).toInt ∧ (f (14 * k + i)).toInt ≤ 999
def ms_pi (n : Int32) (g f : Nat → Int32) : Prop := ∀ k : Nat, k < 2 → ¬ g k = 0 → ∀ i : Nat, (i : Int) < n.toInt → 1 ≤ (f (15 * k + i)).toInt ∧ (f (15 * k + i)).toInt ≤ 999
def ms_cpk (f : Nat → Int32) (i : Nat) (g : Nat → Int32) (j k : Nat) : Nat → Int32 := fun x => if j ≤ x ∧ x < j + k then f (i + (x - j)) else g x
theorem ms_cl0 {x : Int32} (h : x.toInt ≤ 0) : x.toNatClampNeg = 0 := by rw [Int32.toNatClampNeg]; omega
theorem ms_clv {x : Int32} (h : 0 ≤ x.toInt) : (x.toNatClampNeg : Int) = x.toInt := by rw [Int32.toNatClampNeg]; omega
theorem ms_cpi {f g : Nat → Int32} {i j : Nat} {k : Int32} (h : k.toInt ≤ 0) : g = ms_cpk f i g j k.toNatClampNeg := by
  funext x
  rw [ms_cl0 h, ms_cpk, if_neg (by omega)]
theorem ms_cps {f g w w' : Nat → Int32} {i j k k' y z t : Int32} (h : w = ms_cpk f i.toNatClampNeg g j.toNatClampNeg k.toNatClampNeg) (ew : w' = upd w y.toNatClampNeg z) (ey : y.toInt = j.toInt + k.toInt) (ez : z = f t.toNatClampNeg) (et : t.toInt = i.toInt + k.toInt) (ek : k'.toInt = k.toInt + 1) (hi : 0 ≤ i.toInt) (hj : 0 ≤ j.toInt) (hk : 0 ≤ k.toInt) : w' = ms_cpk f i.toNatClampNeg g j.toNatClampNeg k'.toNatClampNeg := by
  have h1 := ms_clv hi
  have h2 := ms_clv hj
  have h3 := ms_clv hk
  have h4 := ms_clv (x := k') (by omega)
  have h5 := ms_clv (x := y) (by omega)
  have h6 := ms_clv (x := t) (by omega)
  subst ew
  funext x
  by_cases hx : x = y.toNatClampNeg
  · subst hx
    rw [pk_us, ez, ms_cpk, if_pos (by omega)]
    congr 1
    omega
  · rw [pk_un hx, h, ms_cpk, ms_cpk]
    by_cases hc : j.toNatClampNeg ≤ x ∧ x < j.toNatClampNeg + k.toNatClampNeg
    · rw [if_pos hc, if_pos (by omega)]
    · rw [if_neg hc, if_neg (by omega)]
theorem ms_cpx {f g w : Nat → Int32} {i j : Nat} {k : Int32} (h : w = ms_cpk f i g j k.toNatClampNeg) (h1 : 14 ≤ k.toInt) (h2 : k.toInt ≤ 14) : w = ms_cpk f i g j 14 := by
  have h3 := ms_clv (x := k) (by omega)
  rw [show k.toNatClampNeg = 14 by omega] at h
  exact h
def ms_sh (f : Nat → Int32) (k : Nat) : Nat → Int32 := fun x => if x < k then f (x + 14) else f x
theorem ms_shi {f : Nat → Int32} {k : Int32} (h : k.toInt ≤ 0) : f = ms_sh f k.toNatClampNeg := by
  funext x
  rw [ms_cl0 h, ms_sh, if_neg (by omega)]
theorem ms_shs {f w w' : Nat → Int32} {k k' z t : Int32} (h : w = ms_sh f k.toNatClampNeg) (ew : w' = upd w k.toNatClampNeg z) (ez : z = w t.toNatClampNeg) (et : t.toInt = k.toInt + (14 : Int32).toInt) (ek : k'.toInt = k.toInt + 1) (hk : 0 ≤ k.toInt) : w' = ms_sh f k'.toNatClampNeg := by
  have h14 : (14 : Int32).toInt = 14 := by decide
  have h3 := ms_clv hk
  have h4 := ms_clv (x := k') (by omega)
  have h6 := ms_clv (x := t) (by omega)
  subst ew
  funext x
  by_cases hx : x = k.toNatClampNeg
  · subst hx
    rw [pk_us, ez, h, ms_sh, ms_sh, if_neg (by omega), if_pos (by omega)]
    congr 1
    omega
  · rw [pk_un hx, h, ms_sh, ms_sh]
    by_cases hc : x < k.toNatClampNeg
    · rw [if_pos hc, if_pos (by omega)]
    · rw [if_neg hc, if_neg (by omega)]
theorem ms_ppsh {n u u' k : Int32} {f w : Nat → Int32} (hn : n.toInt ≤ 9) (h : ms_pp n u f) (hw : w = ms_sh f k.toNatClampNeg) (h1 : 266 ≤ k.toInt) (eu : u'.toInt = u.toInt - (1 : Int32).toInt) (hu : u.toInt ≤ 20) : ms_pp n u' w := by
  intro a i ha hi
  have h14 : (1 : Int32).toInt = 1 := by decide
  have h3 := ms_clv (x := k) (by omega)
  rw [hw, ms_sh, if_pos (by omega), show 14 * a + i + 14 = 14 * (a + 1) + i by omega]
  exact h (a + 1) i (by omega) hi
theorem ms_ppcp {n u u' j : Int32} {f w now : Nat → Int32} (hn : n.toInt ≤ 9) (h1 : ms_pr n now) (h : ms_pp n u f) (hw : w = ms_cpk now (0 : Int32).toNatClampNeg f j.toNatClampNeg 14) (ej : j.toInt = (14 : Int32).toInt * u.toInt) (eu : u'.toInt = u.toInt + (1 : Int32).toInt) (hu : 0 ≤ u.toInt) : ms_pp n u' w := by
  intro a i ha hi
  have h14 : (14 : Int32).toInt = 14 := by decide
  have h15 : (1 : Int32).toInt = 1 := by decide
  have h16 : (0 : Int32).toNatClampNeg = 0 := by decide
  rw [h14] at ej
  have h3 := ms_clv (x := j) (by omega)
  rw [hw, ms_cpk]
  by_cases hc : (a : Int) = u.toInt
  · rw [if_pos (by omega), h16, show 0 + (14 * a + i - j.toNatClampNeg) = i by omega]
    exact h1 i hi
  · rw [if_neg (by omega)]
    exact h a i (by omega) hi
theorem ms_undo {n u u' j : Int32} {f w now : Nat → Int32} (hn : n.toInt ≤ 9) (h : ms_pp n u f) (hw : w = ms_cpk f j.toNatClampNeg now (0 : Int32).toNatClampNeg 14) (ej : j.toInt = (14 : Int32).toInt * u'.toInt) (eu : u'.toInt = u.toInt - (1 : Int32).toInt) (hu : 0 ≤ u'.toInt) : ms_pr n w ∧ ms_pp n u' f := by
  have h14 : (14 : Int32).toInt = 14 := by decide
  have h15 : (1 : Int32).toInt = 1 := by decide
  have h16 : (0 : Int32).toNatClampNeg = 0 := by decide
  rw [h14] at ej
  have h3 := ms_clv (x := j) (by omega)
  have h4 := ms_clv hu
  refine ⟨fun i hi => ?_, fun a i ha hi => h a i (by omega) hi⟩
  rw [hw, ms_cpk, h16, if_pos (by omega), show j.toNatClampNeg + (i - 0) = 14 * u'.toNatClampNeg + i by omega]
  exact h _ i (by omega) hi
theorem ms_pp0 {n u : Int32} {f : Nat → Int32} (h : u.toInt ≤ 0) : ms_pp n u f := fun _ _ ha _ => absurd ha (by omega)
theorem ms_prU {n i y : Int32} {w w' : Nat → Int32} (hn : n.toInt ≤ 9) (h : ms_pr n w) (ew : w' = upd w i.toNatClampNeg y) (g : decide (9 ≤ i.toInt) = true) : ms_pr n w' := by
  have g := of_decide_eq_true g
  have h3 := ms_clv (x := i) (by omega)
  subst ew
  intro k hk
  rw [pk_un (by omega)]
  exact h k hk
theorem ms_prF {n : Int32} {w w' : Nat → Int32} {lo hi : Int} (hn : n.toInt ≤ 9) (h : ms_pr n w) (hf : rg_F w' w lo hi) (g : decide (9 ≤ lo) = true) : ms_pr n w' := by
  have g := of_decide_eq_true g
  intro k hk
  rw [hf k (by omega)]
  exact h k hk
theorem ms_prsh {n r d x : Int32} {w w' : Nat → Int32} (hn : n.toInt ≤ 9) (h : ms_pr n w) (hw : ∃ y : Int32, w' = upd (upd w r.toNatClampNeg (w r.toNatClampNeg + d)) (9 : Int32).toNatClampNeg y) (ex : x = w r.toNatClampNeg + d) (h1 : 1 ≤ x.toInt) (h2 : x.toInt ≤ 999) : ms_pr n w' := by
  obtain ⟨y, rfl⟩ := hw
  have h16 : (9 : Int32).toNatClampNeg = 9 := by decide
  intro k hk
  rw [h16, pk_un (by omega)]
  by_cases hc : k = r.toNatClampNeg
  · subst hc
    rw [pk_us, ← ex]
    exact ⟨h1, h2⟩
  · rw [pk_un hc]
    exact h k hk
theorem ms_prst {k t v x : Int32} {M w w' : Nat → Int32} (hf : ms_pf M) (h : ms_pr (M 3) w) (ew : w' = upd w k.toNatClampNeg v) (ev : v = M t.toNatClampNeg) (et : t.toInt = (23 : Int32).toInt + k.toInt) (hc : k < x) (ex : x = M (3 : Int32).toNatClampNeg) (hk : 0 ≤ k.toInt) : ms_pr (M 3) w' := by
  have h16 : (3 : Int32).toNatClampNeg = 3 := by decide
  have h17 : (23 : Int32).toInt = 23 := by decide
  have h3 := ms_clv hk
  have h4 := ms_clv (x := t) (by omega)
  have h5 := Int32.lt_iff_toInt_lt.mp hc
  rw [ex, h16] at h5
  subst ew
  intro j hj
  by_cases hc : j = k.toNatClampNeg
  · subst hc
    rw [pk_us, ev, show t.toNatClampNeg = 23 + k.toNatClampNeg by omega]
    have := (hf k.toNatClampNeg hj).1
    omega
  · rw [pk_un hc]
    exact h j hj
theorem ms_keep {n s y j j2 : Int32} {f w w1 K K' now : Nat → Int32} (k : Nat) (hk : decide (k < 2) = true) (hn : n.toInt ≤ 9) (h1 : ms_pr n now) (h : ms_pi n K f) (hw1 : w1 = ms_cpk now (0 : Int32).toNatClampNeg f j.toNatClampNeg 14) (hw : w = upd w1 j2.toNatClampNeg s) (hK : K' = upd K k y) (ej : decide (j.toNatClampNeg = 15 * k) = true) (ej2 : decide (j2.toNatClampNeg = 15 * k + 14) = true) : ms_pi n K' w := by
  have hk := of_decide_eq_true hk
  have ej := of_decide_eq_true ej
  have ej2 := of_decide_eq_true ej2
  have h16 : (0 : Int32).toNatClampNeg = 0 := by decide
  intro a ha hz i hi
  rw [hw, pk_un (by omega), hw1, ms_cpk]
  by_cases hc : a = k
  · subst hc
    rw [if_pos (by omega), h16, show 0 + (15 * a + i - j.toNatClampNeg) = i by omega]
    exact h1 i hi
  · rw [if_neg (by omega)]
    rw [hK, pk_un hc] at hz
    exact h a ha hz i hi
theorem ms_goB {n v j : Int32} {f w K now : Nat → Int32} (k : Nat) (hk : decide (k < 2) = true) (hn : n.toInt ≤ 9) (h : ms_pi n K f) (ev : v = K k) (hc : ¬ v = 0) (hw : w = ms_cpk f j.toNatClampNeg now (0 : Int32).toNatClampNeg 14) (ej : decide (j.toNatClampNeg = 15 * k) = true) : ms_pr n w := by
  have hk := of_decide_eq_true hk
  have ej := of_decide_eq_true ej
  have h16 : (0 : Int32).toNatClampNeg = 0 := by decide
  intro i hi
  rw [hw, ms_cpk, h16, if_pos (by omega), show j.toNatClampNeg + (i - 0) = 15 * k + i by omega]
  exact h k hk (fun q => hc (ev.trans q)) i hi
theorem ms_piz {n : Int32} {K f : Nat → Int32} (h0 : K 0 = 0) (h1 : K 1 = 0) : ms_pi n K f := by
  intro k hk hz
  have : k = 0 ∨ k = 1 := by omega
  rcases this with rfl | rfl
  · exact absurd h0 hz
  · exact absurd h1 hz
/-- the first places, alike -/
def ms_eqp (w g : Nat → Int32) (d : Nat) (k : Int) : Prop := ∀ i : Nat, (i : Int) < k → w i = g (d + i)
theorem ms_eqpi {w g : Nat → Int32} {d : Nat} {k : Int32} (h : k.toInt ≤ 0) : ms_eqp w g d k.toInt := fun i hi => absurd hi (by omega)
theorem ms_eqps {w w' g : Nat → Int32} {d : Nat} {k k' t z : Int32} (h : ms_eqp w g d k.toInt) (ew : w' = upd w k.toNatClampNeg z) (ez : z = g t.toNatClampNeg) (et : t.toInt = (d : Int) + k.toInt) (ek : k'.toInt = k.toInt + 1) (hk : 0 ≤ k.toInt) : ms_eqp w' g d k'.toInt := by
  have h3 := ms_clv hk
  have h4 := ms_clv (x := t) (by omega)
  subst ew
  intro i hi
  by_cases hc : i = k.toNatClampNeg
  · subst hc
    rw [pk_us, ez]
    congr 1
    omega
  · rw [pk_un hc]
    exact h i (by omega)
def ms_zp (w : Nat → Int32) (k : Int) : Prop := ∀ i : Nat, (i : Int) < k → w i = 0
theorem ms_zpi {w : Nat → Int32} {k : Int32} (h : k.toInt ≤ 0) : ms_zp w k.toInt := fun i hi => absurd hi (by omega)
theorem ms_zps {w w' : Nat → Int32} {k k' : Int32} (h : ms_zp w k.toInt) (ew : w' = upd w k.toNatClampNeg 0) (ek : k'.toInt = k.toInt + 1) (hk : 0 ≤ k.toInt) : ms_zp w' k'.toInt := by
  have h3 := ms_clv hk
  subst ew
  intro i hi
  by_cases hc : i = k.toNatClampNeg
  · subst hc
    rw [pk_us]
  · rw [pk_un hc]
    exact h i (by omega)
theorem ms_prb {k : Int32} {M w : Nat → Int32} (hf : ms_pf M) (h : ms_eqp w M 32 k.toInt) (h1 : 9 ≤ k.toInt) (hn : (M 3).toInt ≤ 9) : ms_pr (M 3) w := by
  intro i hi
  rw [h i (by omega)]
  have := (hf i hi).2
  omega
theorem ms_pfF {f g : Nat → Int32} {lo hi : Int} (h : ms_pf f) (hF : rg_F g f lo hi) (gd : (decide (hi < 3) || decide (41 ≤ lo) || (decide (3 < lo) && decide (hi < 23))) = true) (hn : (g 3).toInt ≤ 9) : ms_pf g := by
  simp only [Bool.and_eq_true, Bool.or_eq_true, decide_eq_true_eq] at gd
  have e3 : g 3 = f 3 := hF 3 (by omega)
  intro i hi
  rw [hF (23 + i) (by omega), hF (32 + i) (by omega)]
  rw [e3] at hi
  exact h i hi
theorem ms_pfz {f : Nat → Int32} {k : Int32} (h : ms_zp f k.toInt) (h1 : 4 ≤ k.toInt) : ms_pf f := by
  intro i hi
  rw [h 3 (by omega)] at hi
  have : (0 : Int32).toInt = 0 := by decide
  omega
theorem ms_pfc {f g : Nat → Int32} {k : Int32} (h : ms_pf f) (he : ms_eqp g f 0 k.toInt) (h1 : 68 ≤ k.toInt) (hn : (g 3).toInt ≤ 9) : ms_pf g := by
  intro i hi
  have e3 := he 3 (by omega)
  rw [he (23 + i) (by omega), he (32 + i) (by omega), Nat.zero_add, Nat.zero_add]
  rw [e3, Nat.zero_add] at hi
  exact h i hi
theorem ms_pfroad {R2 R3 R4 R5 : Nat → Int32} {x y t1 t2 : Int32} (h : ms_pf R2) (ex : x = R2 (3 : Int32).toNatClampNeg) (ey : y.toInt = x.toInt + (1 : Int32).toInt) (e3 : R3 = upd R2 (3 : Int32).toNatClampNeg y) (e4 : ∃ v : Int32, (1 ≤ v.toInt ∧ v.toInt ≤ 99) ∧ R4 = upd R3 t1.toNatClampNeg v) (e5 : ∃ v : Int32, (1 ≤ v.toInt ∧ v.toInt ≤ 99) ∧ R5 = upd R4 t2.toNatClampNeg v) (et1 : t1.toInt = (23 : Int32).toInt + x.toInt) (et2 : t2.toInt = (32 : Int32).toInt + x.toInt) (hx : 0 ≤ x.toInt) (hx9 : x.toInt ≤ 8) : ms_pf R5 := by
  obtain ⟨v, hv, e4⟩ := e4
  obtain ⟨v2, hv2, e5⟩ := e5
  have c3 : (3 : Int32).toNatClampNeg = 3 := by decide
  have c1 : (1 : Int32).toInt = 1 := by decide
  have c23 : (23 : Int32).toInt = 23 := by decide
  have c32 : (32 : Int32).toInt = 32 := by decide
  rw [c3] at ex e3
  have h1 := ms_clv (x := t1) (by omega)
  have h2 := ms_clv (x := t2) (by omega)
  have q3 : R5 3 = y := by rw [e5, pk_un (by omega), e4, pk_un (by omega), e3, pk_us]
  intro i hi
  rw [q3] at hi
  by_cases hc : (i : Int) = x.toInt
  · constructor
    · rw [e5, pk_un (by omega), e4, show 23 + i = t1.toNatClampNeg by omega, pk_us]; exact hv
    · rw [e5, show 32 + i = t2.toNatClampNeg by omega, pk_us]; exact hv2
  · have hh := h i (by rw [← ex]; omega)
    constructor
    · rw [e5, pk_un (by omega), e4, pk_un (by omega), e3, pk_un (by omega)]; exact hh.1
    · rw [e5, pk_un (by omega), e4, pk_un (by omega), e3, pk_un (by omega)]; exact hh.2
