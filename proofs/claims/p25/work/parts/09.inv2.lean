/-! what else the reference keeps, and how its loops end -/
theorem rg_sl {f h : Nat → Int32} {k : Nat} {x z : Int32} (e : h = upd f k x) (ez : z = h k) : x = z := by subst e; rw [ez, pk_us]
theorem ms_pib {n : Int32} {K K1 K2 f : Nat → Int32} (e0 : K1 = upd K (0 : Int32).toNatClampNeg (vp_nar .boolean 0)) (e1 : K2 = upd K1 (1 : Int32).toNatClampNeg (vp_nar .boolean 0)) : ms_pi n K2 f := by
  have c0 : (0 : Int32).toNatClampNeg = 0 := by decide
  have c1 : (1 : Int32).toNatClampNeg = 1 := by decide
  have cb : vp_nar .boolean 0 = 0 := by decide
  rw [c0, cb] at e0
  rw [c1, cb] at e1
  refine ms_piz ?_ ?_
  · rw [e1, pk_un (by decide), e0, pk_us]
  · rw [e1, pk_us]
/-- of how many of the first n miles are wanted -/
def ms_wc (f : Nat → Int32) : Nat → Nat
  | 0 => 0
  | n + 1 => ms_wc f n + (if 0 < (f n).toInt then 1 else 0)
theorem ms_wcm (f : Nat → Int32) (n : Nat) : ∀ j : Nat, ms_wc f n ≤ ms_wc f (n + j)
  | 0 => Nat.le_refl _
  | j + 1 => Nat.le_trans (ms_wcm f n j) (Nat.le_add_right _ _)
def ms_w5 (f : Nat → Int32) : Prop := ms_wc f 9 ≤ 5
def ms_ws (f : Nat → Int32) : Nat → Int32
  | 0 => 0
  | n + 1 => ms_ws f n ||| (if 0 < (f n).toInt then (1 : Int32) <<< (nI n &&& 31) else 0)
def ms_wb (b : List Bool) : Nat → Int32
  | 0 => 0
  | n + 1 => ms_wb b n ||| (if b.getD n false = true then (1 : Int32) <<< (nI n &&& 31) else 0)
def ms_wn (b : List Bool) : Nat → Nat
  | 0 => 0
  | n + 1 => ms_wn b n + (if b.getD n false = true then 1 else 0)
def ms_bl (f : Nat → Int32) : List Bool := [decide (0 < (f 0).toInt), decide (0 < (f 1).toInt), decide (0 < (f 2).toInt), decide (0 < (f 3).toInt), decide (0 < (f 4).toInt), decide (0 < (f 5).toInt), decide (0 < (f 6).toInt), decide (0 < (f 7).toInt), decide (0 < (f 8).toInt)]
theorem ms_blg (f : Nat → Int32) (k : Nat) (hk : k < 9) : (ms_bl f).getD k false = decide (0 < (f k).toInt) := by
  have : k = 0 ∨ k = 1 ∨ k = 2 ∨ k = 3 ∨ k = 4 ∨ k = 5 ∨ k = 6 ∨ k = 7 ∨ k = 8 := by omega
  rcases this with rfl | rfl | rfl | rfl | rfl | rfl | rfl | rfl | rfl <;> rfl
theorem ms_wsb (f : Nat → Int32) : ∀ n : Nat, n ≤ 9 → ms_ws f n = ms_wb (ms_bl f) n
  | 0, _ => rfl
  | n + 1, h => by
    rw [ms_ws, ms_wb, ms_wsb f n (by omega), ms_blg f n (by omega)]
    simp only [decide_eq_true_eq]
theorem ms_wcb (f : Nat → Int32) : ∀ n : Nat, n ≤ 9 → ms_wc f n = ms_wn (ms_bl f) n
  | 0, _ => rfl
  | n + 1, h => by
    rw [ms_wc, ms_wn, ms_wcb f n (by omega), ms_blg f n (by omega)]
    simp only [decide_eq_true_eq]

theorem ms_wB2 : ∀ b0 b1 b2 b3 b4 b5 b6 b7 b8 : Bool, ∀ k : Nat, k < 9 → ms_wn ([b0, b1, b2, b3, b4, b5, b6, b7, b8].set k true) 9 ≤ ms_pc (ms_wb [b0, b1, b2, b3, b4, b5, b6, b7, b8] 9 &&& (((1 : Int32) <<< (nI k &&& 31)) ^^^ (-1))) + 1 ∧ ms_pc (ms_wb [b0, b1, b2, b3, b4, b5, b6, b7, b8] 9 &&& (((1 : Int32) <<< (nI k &&& 31)) ^^^ (-1))) ≤ ms_wn [b0, b1, b2, b3, b4, b5, b6, b7, b8] 9 ∧ ms_wn ([b0, b1, b2, b3, b4, b5, b6, b7, b8].set k false) 9 ≤ ms_wn [b0, b1, b2, b3, b4, b5, b6, b7, b8] 9 ∧ 0 ≤ (ms_wb [b0, b1, b2, b3, b4, b5, b6, b7, b8] 9 &&& (((1 : Int32) <<< (nI k &&& 31)) ^^^ (-1))).toInt ∧ (ms_wb [b0, b1, b2, b3, b4, b5, b6, b7, b8] 9 &&& (((1 : Int32) <<< (nI k &&& 31)) ^^^ (-1))).toInt ≤ 511 := by decide +kernel
theorem ms_blu (f : Nat → Int32) (k : Nat) (v : Int32) (hk : k < 9) : ms_bl (upd f k v) = (ms_bl f).set k (decide (0 < v.toInt)) := by
  have : k = 0 ∨ k = 1 ∨ k = 2 ∨ k = 3 ∨ k = 4 ∨ k = 5 ∨ k = 6 ∨ k = 7 ∨ k = 8 := by omega
  unfold ms_bl
  rcases this with rfl | rfl | rfl | rfl | rfl | rfl | rfl | rfl | rfl <;> rfl
theorem ms_w5z {w : Nat → Int32} {k : Int32} (h : ms_zp w k.toInt) (h1 : 9 ≤ k.toInt) : ms_w5 w := by
  have z : ∀ n : Nat, n ≤ 9 → ms_wc w n = 0 := by
    intro n
    induction n with
    | zero => intro _; rfl
    | succ n ih =>
      intro hn
      have c0 : (0 : Int32).toInt = 0 := by decide
      rw [ms_wc, ih (by omega), h n (by omega), if_neg (by omega)]
  unfold ms_w5
  rw [z 9 (Nat.le_refl _)]
  exact Nat.zero_le _
theorem ms_wsA {f : Nat → Int32} {s r r' v q s' : Int32} (h : s = ms_ws f r.toNatClampNeg) (e : v = f r.toNatClampNeg) (c : 0 < v) (eq : q = (1 : Int32) <<< (r &&& 31)) (es : s' = s ||| q) (er : r'.toInt = r.toInt + 1) (hr : 0 ≤ r.toInt) : s' = ms_ws f r'.toNatClampNeg := by
  have h1 := ms_clv hr
  have h2 := ms_clv (x := r') (by omega)
  have c0 : (0 : Int32).toInt = 0 := by decide
  have hc := Int32.lt_iff_toInt_lt.mp c
  have er' : r = nI r.toNatClampNeg := by rw [← Int32.toInt_inj, nI_toInt (by have := rg_max r; omega)]; omega
  rw [show r'.toNatClampNeg = r.toNatClampNeg + 1 by omega, ms_ws, ← e, if_pos (by omega), ← er', ← eq, ← h]
  exact es
theorem ms_wsB {f : Nat → Int32} {s r r' v s' : Int32} (h : s = ms_ws f r.toNatClampNeg) (e : v = f r.toNatClampNeg) (c : v ≤ 0) (es : s' = s ||| 0) (er : r'.toInt = r.toInt + 1) (hr : 0 ≤ r.toInt) : s' = ms_ws f r'.toNatClampNeg := by
  have h1 := ms_clv hr
  have h2 := ms_clv (x := r') (by omega)
  have c0 : (0 : Int32).toInt = 0 := by decide
  have hc := Int32.le_iff_toInt_le.mp c
  rw [show r'.toNatClampNeg = r.toNatClampNeg + 1 by omega, ms_ws, ← e, if_neg (by omega), ← h]
  exact es
theorem ms_wsZ {f : Nat → Int32} {s r : Int32} (h : s = ms_ws f r.toNatClampNeg) (h1 : 9 ≤ r.toInt) (h2 : r.toInt ≤ 9) : s = ms_ws f 9 := by
  have h3 := ms_clv (x := r) (by omega)
  rw [show r.toNatClampNeg = 9 by omega] at h
  exact h
theorem ms_wnA {f f' : Nat → Int32} {s q y z r v rb : Int32} (h5 : ms_w5 f) (es : s = ms_ws f 9) (eq : q = (1 : Int32) <<< (r &&& 31)) (ey : y = q ^^^ (-1)) (ez : z = s &&& y) (eb : 0 ≤ z.toInt → z.toInt ≤ 511 → rb = nI (ms_pc z)) (c : ¬ rb = 5) (e : f' = upd f r.toNatClampNeg v) (h0 : 0 ≤ r.toInt) (h8 : r.toInt ≤ 8) : ms_w5 f' := by
  have h1 := ms_clv h0
  have er' : r = nI r.toNatClampNeg := by rw [← Int32.toInt_inj, nI_toInt (by omega)]; omega
  have hk : r.toNatClampNeg < 9 := by omega
  rw [er'] at eq
  generalize r.toNatClampNeg = k at *
  have B := ms_wB2 (decide (0 < (f 0).toInt)) (decide (0 < (f 1).toInt)) (decide (0 < (f 2).toInt)) (decide (0 < (f 3).toInt)) (decide (0 < (f 4).toInt)) (decide (0 < (f 5).toInt)) (decide (0 < (f 6).toInt)) (decide (0 < (f 7).toInt)) (decide (0 < (f 8).toInt)) k hk
  have ez2 : z = ms_wb (ms_bl f) 9 &&& (((1 : Int32) <<< (nI k &&& 31)) ^^^ (-1)) := by rw [ez, ey, eq, es, ms_wsb f 9 (Nat.le_refl _)]
  have B : ms_wn ((ms_bl f).set k true) 9 ≤ ms_pc z + 1 ∧ ms_pc z ≤ ms_wn (ms_bl f) 9 ∧ ms_wn ((ms_bl f).set k false) 9 ≤ ms_wn (ms_bl f) 9 ∧ 0 ≤ z.toInt ∧ z.toInt ≤ 511 := by rw [ez2]; exact B
  obtain ⟨b1, b2, b3, b4, b5⟩ := B
  have hrb := eb b4 b5
  unfold ms_w5 at h5 ⊢
  rw [ms_wcb f 9 (Nat.le_refl _)] at h5
  rw [ms_wcb f' 9 (Nat.le_refl _), e, ms_blu f k v hk]
  have hne : ¬ ms_pc z = 5 := fun q5 => c (by rw [hrb, q5]; decide)
  cases decide (0 < v.toInt) with
  | true => omega
  | false => omega
theorem ms_wnB {f f' : Nat → Int32} {r v : Int32} (h5 : ms_w5 f) (e : f' = upd f r.toNatClampNeg v) (c : v ≤ 0) (h0 : 0 ≤ r.toInt) (h8 : r.toInt ≤ 8) : ms_w5 f' := by
  have h1 := ms_clv h0
  have hk : r.toNatClampNeg < 9 := by omega
  have c0 : (0 : Int32).toInt = 0 := by decide
  have hc := Int32.le_iff_toInt_le.mp c
  generalize r.toNatClampNeg = k at *
  have B := ms_wB2 (decide (0 < (f 0).toInt)) (decide (0 < (f 1).toInt)) (decide (0 < (f 2).toInt)) (decide (0 < (f 3).toInt)) (decide (0 < (f 4).toInt)) (decide (0 < (f 5).toInt)) (decide (0 < (f 6).toInt)) (decide (0 < (f 7).toInt)) (decide (0 < (f 8).toInt)) k hk
  have b3 : ms_wn ((ms_bl f).set k false) 9 ≤ ms_wn (ms_bl f) 9 := B.2.2.1
  unfold ms_w5 at h5 ⊢
  rw [ms_wcb f 9 (Nat.le_refl _)] at h5
  rw [ms_wcb f' 9 (Nat.le_refl _), e, ms_blu f k v hk, show decide (0 < v.toInt) = false from decide_eq_false (by omega)]
  omega
theorem ms_dwB {f : Nat → Int32} {m r r' : Int32} (h : m.toInt ≤ (ms_wc f r.toNatClampNeg : Int)) (er : r'.toInt = r.toInt + 1) (hr : 0 ≤ r.toInt) : m.toInt ≤ (ms_wc f r'.toNatClampNeg : Int) := by
  have h1 := ms_clv hr
  have h2 := ms_clv (x := r') (by omega)
  have h3 := ms_wcm f r.toNatClampNeg 1
  rw [show r'.toNatClampNeg = r.toNatClampNeg + 1 by omega]
  omega
theorem ms_dwA {f : Nat → Int32} {m m' r r' v : Int32} (h : m.toInt ≤ (ms_wc f r.toNatClampNeg : Int)) (e : v = f r.toNatClampNeg) (c : 0 < v) (em : m'.toInt = m.toInt + 1) (er : r'.toInt = r.toInt + 1) (hr : 0 ≤ r.toInt) : m'.toInt ≤ (ms_wc f r'.toNatClampNeg : Int) := by
  have h1 := ms_clv hr
  have h2 := ms_clv (x := r') (by omega)
  have c0 : (0 : Int32).toInt = 0 := by decide
  have hc := Int32.lt_iff_toInt_lt.mp c
  rw [show r'.toNatClampNeg = r.toNatClampNeg + 1 by omega, ms_wc, ← e, if_pos (by omega)]
  omega
theorem ms_dw4 {f : Nat → Int32} {m r v : Int32} (h : m.toInt ≤ (ms_wc f r.toNatClampNeg : Int)) (h5 : ms_w5 f) (e : v = f r.toNatClampNeg) (c : 0 < v) (hr : 0 ≤ r.toInt) (h8 : r.toInt ≤ 8) : m.toInt ≤ 4 := by
  have h1 := ms_clv hr
  have c0 : (0 : Int32).toInt = 0 := by decide
  have hc := Int32.lt_iff_toInt_lt.mp c
  have h3 := ms_wcm f (r.toNatClampNeg + 1) (8 - r.toNatClampNeg)
  rw [show r.toNatClampNeg + 1 + (8 - r.toNatClampNeg) = 9 by omega, ms_wc, ← e, if_pos (by omega)] at h3
  unfold ms_w5 at h5
  omega
theorem ms_cdm {k k' : Int32} (e : k'.toInt = k.toInt + 1) (h : k'.toInt ≤ 2147483647) : (2147483647 - k'.toInt).toNat < (2147483647 - k.toInt).toNat := by omega
/-- the book's roads -/
def ms_be (f : Nat → Int32) : Prop := ∀ k : Nat, k < 15 → 0 ≤ (f (2 * k)).toInt ∧ (f (2 * k)).toInt ≤ 8
theorem ms_beE {f f' : Nat → Int32} {n : Nat} {v : Int32} (h : ms_be f) (e : f' = upd f n v) (h1 : 0 ≤ v.toInt) (h2 : v.toInt ≤ 8) : ms_be f' := by
  subst e
  intro k hk
  by_cases hc : 2 * k = n
  · rw [hc, pk_us]; exact ⟨h1, h2⟩
  · rw [pk_un hc]; exact h k hk
theorem ms_beC {f f' : Nat → Int32} {n v : Int32} (h : ms_be f) (e : f' = upd f n.toNatClampNeg v) (g : decide (n.toNatClampNeg % 2 = 1) = true) : ms_be f' := by
  have g := of_decide_eq_true g
  subst e
  intro k hk
  rw [pk_un (by omega)]
  exact h k hk
theorem ms_beO {f f' : Nat → Int32} {n t j v : Int32} (h : ms_be f) (e : f' = upd f n.toNatClampNeg v) (en : n.toInt = t.toInt + (1 : Int32).toInt) (et : t.toInt = (2 : Int32).toInt * j.toInt) (hj : 0 ≤ j.toInt) : ms_be f' := by
  have c1 : (1 : Int32).toInt = 1 := by decide
  have c2 : (2 : Int32).toInt = 2 := by decide
  rw [c2] at et
  have h1 := ms_clv (x := n) (by omega)
  subst e
  intro k hk
  rw [pk_un (by omega)]
  exact h k hk
theorem ms_beL {f : Nat → Int32} {v t j : Int32} (h : ms_be f) (e : v = f t.toNatClampNeg) (et : t.toInt = (2 : Int32).toInt * j.toInt) (hj : 0 ≤ j.toInt) (hj2 : j.toInt ≤ 14) : 0 ≤ v.toInt ∧ v.toInt ≤ 8 := by
  have c2 : (2 : Int32).toInt = 2 := by decide
  rw [c2] at et
  have h1 := ms_clv (x := t) (by omega)
  have h2 := ms_clv hj
  rw [e, show t.toNatClampNeg = 2 * j.toNatClampNeg by omega]
  exact h _ (by omega)
theorem ms_beLc {f : Nat → Int32} {v t : Int32} (h : ms_be f) (e : v = f t.toNatClampNeg) (g : decide (t.toNatClampNeg % 2 = 0 ∧ t.toNatClampNeg < 30) = true) : 0 ≤ v.toInt ∧ v.toInt ≤ 8 := by
  have g := of_decide_eq_true g
  rw [e, show t.toNatClampNeg = 2 * (t.toNatClampNeg / 2) by omega]
  exact h _ (by omega)
/-! findsMend: digits from the first road on -/
def ms_fq (ch lf : Nat → Int32) (r : Int) : Prop := ∀ i : Nat, (i : Int) ≤ r → (0 ≤ (lf i).toInt ∧ (lf i).toInt ≤ 4) ∧ (-(lf i).toInt - 1 ≤ (ch i).toInt ∧ (ch i).toInt ≤ (lf i).toInt)
def ms_fS (ch lf : Nat → Int32) : Nat → Nat
  | 0 => 0
  | n + 1 => ms_fS ch lf n + ((lf n).toInt - (ch n).toInt + 1).toNat * 11 ^ (8 - n)
theorem ms_fSc {ch lf ch' lf' : Nat → Int32} : ∀ n : Nat, (∀ i, i < n → ch' i = ch i ∧ lf' i = lf i) → ms_fS ch' lf' n = ms_fS ch lf n
  | 0, _ => rfl
  | n + 1, h => by rw [ms_fS, ms_fS, ms_fSc n (fun i hi => h i (by omega)), (h n (by omega)).1, (h n (by omega)).2]
theorem ms_fmi {ch lf ch' lf' : Nat → Int32} {a n m : Int32} (el : lf' = upd lf (0 : Int32).toNatClampNeg a) (ec : ch' = upd ch (0 : Int32).toNatClampNeg m) (en : n.toInt = -a.toInt) (em : m.toInt = n.toInt - (1 : Int32).toInt) (h0 : 0 ≤ a.toInt) (h4 : a.toInt ≤ 4) : ms_fq ch' lf' (0 : Int32).toInt := by
  have c0 : (0 : Int32).toNatClampNeg = 0 := by decide
  have c00 : (0 : Int32).toInt = 0 := by decide
  have c1 : (1 : Int32).toInt = 1 := by decide
  rw [c0] at el ec
  intro i hi
  rw [c00] at hi
  obtain rfl : i = 0 := by omega
  subst el
  subst ec
  rw [pk_us, pk_us]
  omega
theorem ms_fmc {ch lf : Nat → Int32} {r v : Int32} (h : ms_fq ch lf r.toInt) (e : v = ch r.toNatClampNeg) (hr : 0 ≤ r.toInt) : -5 ≤ v.toInt ∧ v.toInt ≤ 4 := by
  have h1 := ms_clv hr
  have h2 := h r.toNatClampNeg (by omega)
  rw [e]
  omega
theorem ms_fml {ch lf : Nat → Int32} {r v : Int32} (h : ms_fq ch lf r.toInt) (e : v = lf r.toNatClampNeg) (hr : 0 ≤ r.toInt) : 0 ≤ v.toInt ∧ v.toInt ≤ 4 := by
  have h1 := ms_clv hr
  have h2 := h r.toNatClampNeg (by omega)
  rw [e]
  omega
section FM
variable {ch lf C1 : Nat → Int32} {r v x v2 : Int32}
theorem ms_fmI1 {r' : Int32} (h : ms_fq ch lf r.toInt) (e1 : v = ch r.toNatClampNeg) (ex : x = lf r.toNatClampNeg) (e2 : v2.toInt = v.toInt + (1 : Int32).toInt) (ec : C1 = upd ch r.toNatClampNeg v2) (hr : 0 ≤ r.toInt) (c : x < v2) (er : r'.toInt = r.toInt + -1) : ms_fq C1 lf r'.toInt := by
  have h1 := ms_clv hr
  intro i hi
  subst ec
  rw [pk_un (by omega)]
  exact h i (by omega)
theorem ms_fmM1 {r' : Int32} (h : ms_fq ch lf r.toInt) (e1 : v = ch r.toNatClampNeg) (ex : x = lf r.toNatClampNeg) (e2 : v2.toInt = v.toInt + (1 : Int32).toInt) (ec : C1 = upd ch r.toNatClampNeg v2) (hr : 0 ≤ r.toInt) (c : x < v2) (er : r'.toInt = r.toInt + -1) : ms_fS C1 lf (r'.toInt + 1).toNat < ms_fS ch lf (r.toInt + 1).toNat := by
  have h1 := ms_clv hr
  have h2 := h r.toNatClampNeg (by omega)
  rw [show (r'.toInt + 1).toNat = r.toNatClampNeg by omega, show (r.toInt + 1).toNat = r.toNatClampNeg + 1 by omega, ms_fS]
  rw [ms_fSc (ch := ch) (lf := lf) r.toNatClampNeg (fun i hi => ⟨by rw [ec, pk_un (by omega)], rfl⟩)]
  have h3 : 1 ≤ ((lf r.toNatClampNeg).toInt - (ch r.toNatClampNeg).toInt + 1).toNat := by omega
  have h4 : 1 ≤ 11 ^ (8 - r.toNatClampNeg) := Nat.le_trans Nat.one_le_two_pow (Nat.pow_le_pow_left (by decide) _)
  have h5 := Nat.mul_le_mul h3 h4
  omega
theorem ms_fmI3 (h : ms_fq ch lf r.toInt) (e1 : v = ch r.toNatClampNeg) (ex : x = lf r.toNatClampNeg) (e2 : v2.toInt = v.toInt + (1 : Int32).toInt) (ec : C1 = upd ch r.toNatClampNeg v2) (hr : 0 ≤ r.toInt) (c : v2 ≤ x) (h8 : r.toInt ≤ 8) : ms_fq C1 lf r.toInt := by
  have h1 := ms_clv hr
  have c1 : (1 : Int32).toInt = 1 := by decide
  have hc := Int32.le_iff_toInt_le.mp c
  intro i hi
  have h2 := h i hi
  subst ec
  by_cases hi : i = r.toNatClampNeg
  · subst hi
    rw [pk_us]
    rw [← ex, ← e1] at h2
    rw [← ex]
    omega
  · rw [pk_un hi]
    exact h2
theorem ms_fmM3 (h : ms_fq ch lf r.toInt) (e1 : v = ch r.toNatClampNeg) (ex : x = lf r.toNatClampNeg) (e2 : v2.toInt = v.toInt + (1 : Int32).toInt) (ec : C1 = upd ch r.toNatClampNeg v2) (hr : 0 ≤ r.toInt) (c : v2 ≤ x) (h8 : r.toInt ≤ 8) : ms_fS C1 lf (r.toInt + 1).toNat < ms_fS ch lf (r.toInt + 1).toNat := by
  have h1 := ms_clv hr
  have c1 : (1 : Int32).toInt = 1 := by decide
  have hc := Int32.le_iff_toInt_le.mp c
  have h2 := h r.toNatClampNeg (by omega)
  rw [show (r.toInt + 1).toNat = r.toNatClampNeg + 1 by omega, ms_fS, ms_fS]
  rw [ms_fSc (ch := ch) (lf := lf) r.toNatClampNeg (fun i hi => ⟨by rw [ec, pk_un (by omega)], rfl⟩)]
  rw [← e1, ← ex] at h2 ⊢
  have q : C1 r.toNatClampNeg = v2 := by rw [ec, pk_us]
  rw [q]
  have h4 : 1 ≤ 11 ^ (8 - r.toNatClampNeg) := Nat.le_trans Nat.one_le_two_pow (Nat.pow_le_pow_left (by decide) _)
  have h5 : (x.toInt - v.toInt + 1).toNat = (x.toInt - v2.toInt + 1).toNat + 1 := by omega
  rw [h5, Nat.succ_mul]
  omega
variable {C2 L1 : Nat → Int32} {r' z n m : Int32}
theorem ms_fmR (h : ms_fq ch lf r.toInt) (e1 : v = ch r.toNatClampNeg) (ex : x = lf r.toNatClampNeg) (e2 : v2.toInt = v.toInt + (1 : Int32).toInt) (hr : 0 ≤ r.toInt) (c : v2 ≤ x) (hz : ((0 : Int32) ≤ v2 ∧ z.toInt = x.toInt - v2.toInt) ∨ (∃ y : Int32, v2 < 0 ∧ y.toInt = -v2.toInt ∧ z.toInt = x.toInt - y.toInt)) : (0 ≤ z.toInt ∧ z.toInt ≤ 4) ∧ 0 ≤ x.toInt ∧ v.toInt + 1 ≤ x.toInt := by
  have h1 := ms_clv hr
  have c1 : (1 : Int32).toInt = 1 := by decide
  have c0 : (0 : Int32).toInt = 0 := by decide
  have hc := Int32.le_iff_toInt_le.mp c
  have h2 := h r.toNatClampNeg (by omega)
  rw [← e1, ← ex] at h2
  rcases hz with ⟨g, e⟩ | ⟨y, g, ey, e⟩
  · have := Int32.le_iff_toInt_le.mp g
    omega
  · have := Int32.lt_iff_toInt_lt.mp g
    omega
theorem ms_fmI2 (h : ms_fq ch lf r.toInt) (e1 : v = ch r.toNatClampNeg) (ex : x = lf r.toNatClampNeg) (e2 : v2.toInt = v.toInt + (1 : Int32).toInt) (ec : C1 = upd ch r.toNatClampNeg v2) (hr : 0 ≤ r.toInt) (c : v2 ≤ x) (hz : ((0 : Int32) ≤ v2 ∧ z.toInt = x.toInt - v2.toInt) ∨ (∃ y : Int32, v2 < 0 ∧ y.toInt = -v2.toInt ∧ z.toInt = x.toInt - y.toInt)) (el : L1 = upd lf r'.toNatClampNeg z) (ec2 : C2 = upd C1 r'.toNatClampNeg m) (en : n.toInt = -z.toInt) (em : m.toInt = n.toInt - (1 : Int32).toInt) (er : r'.toInt = r.toInt + 1) (h8 : r'.toInt ≤ 8) : ms_fq C2 L1 r'.toInt := by
  have hR := ms_fmR h e1 ex e2 hr c hz
  have h1 := ms_clv hr
  have h1' := ms_clv (x := r') (by omega)
  have c1 : (1 : Int32).toInt = 1 := by decide
  have hc := Int32.le_iff_toInt_le.mp c
  intro i hi
  by_cases hi1 : i = r'.toNatClampNeg
  · subst hi1
    rw [el, ec2, pk_us, pk_us]
    omega
  · rw [el, ec2, pk_un hi1, pk_un hi1]
    have h2 := h i (by omega)
    by_cases hi2 : i = r.toNatClampNeg
    · subst hi2
      rw [ec, pk_us]
      rw [← ex, ← e1] at h2
      rw [← ex]
      omega
    · rw [ec, pk_un hi2]
      exact h2
theorem ms_fmM2 (h : ms_fq ch lf r.toInt) (e1 : v = ch r.toNatClampNeg) (ex : x = lf r.toNatClampNeg) (e2 : v2.toInt = v.toInt + (1 : Int32).toInt) (ec : C1 = upd ch r.toNatClampNeg v2) (hr : 0 ≤ r.toInt) (c : v2 ≤ x) (hz : ((0 : Int32) ≤ v2 ∧ z.toInt = x.toInt - v2.toInt) ∨ (∃ y : Int32, v2 < 0 ∧ y.toInt = -v2.toInt ∧ z.toInt = x.toInt - y.toInt)) (el : L1 = upd lf r'.toNatClampNeg z) (ec2 : C2 = upd C1 r'.toNatClampNeg m) (en : n.toInt = -z.toInt) (em : m.toInt = n.toInt - (1 : Int32).toInt) (er : r'.toInt = r.toInt + 1) (h8 : r'.toInt ≤ 8) : ms_fS C2 L1 (r'.toInt + 1).toNat < ms_fS ch lf (r.toInt + 1).toNat := by
  have hR := ms_fmR h e1 ex e2 hr c hz
  have h1 := ms_clv hr
  have h1' := ms_clv (x := r') (by omega)
  have c1 : (1 : Int32).toInt = 1 := by decide
  rw [show (r'.toInt + 1).toNat = (r.toNatClampNeg + 1) + 1 by omega, show (r.toInt + 1).toNat = r.toNatClampNeg + 1 by omega, ms_fS, ms_fS, ms_fS]
  rw [ms_fSc (ch := ch) (lf := lf) r.toNatClampNeg (fun i hi => ⟨by rw [ec2, pk_un (by omega), ec, pk_un (by omega)], by rw [el, pk_un (by omega)]⟩)]
  have q1 : C2 r.toNatClampNeg = v2 := by rw [ec2, pk_un (by omega), ec, pk_us]
  have q2 : L1 r.toNatClampNeg = x := by rw [el, pk_un (by omega), ex]
  have q3 : C2 (r.toNatClampNeg + 1) = m := by rw [ec2, show r.toNatClampNeg + 1 = r'.toNatClampNeg by omega, pk_us]
  have q4 : L1 (r.toNatClampNeg + 1) = z := by rw [el, show r.toNatClampNeg + 1 = r'.toNatClampNeg by omega, pk_us]
  rw [q1, q2, q3, q4, ← e1, ← ex]
  have h5 : (x.toInt - v.toInt + 1).toNat = (x.toInt - v2.toInt + 1).toNat + 1 := by omega
  have h6 : 11 ^ (8 - r.toNatClampNeg) = 11 ^ (8 - (r.toNatClampNeg + 1)) * 11 := by
    rw [← Nat.pow_succ]
    congr 1
    omega
  have h7 : (z.toInt - m.toInt + 1).toNat ≤ 10 := by omega
  have h8 := Nat.mul_le_mul_right (11 ^ (8 - (r.toNatClampNeg + 1))) h7
  have h9 : 1 ≤ 11 ^ (8 - (r.toNatClampNeg + 1)) := Nat.le_trans Nat.one_le_two_pow (Nat.pow_le_pow_left (by decide) _)
  rw [h5, Nat.succ_mul]
  omega
end FM
/-! ways -/
theorem ms_om1 {M : Nat → Int32} {r t i j a b : Int32} (ei : i.toInt = (5 : Int32).toInt + r.toInt) (ea : a = M i.toNatClampNeg) (ej : j.toInt = (14 : Int32).toInt + r.toInt) (eb : b = M j.toNatClampNeg) (hr : 0 ≤ r.toInt) (c : a = t) : b = ms_om M r.toNatClampNeg t := by
  have c5 : (5 : Int32).toInt = 5 := by decide
  have c14 : (14 : Int32).toInt = 14 := by decide
  have h1 := ms_clv hr
  have h2 := ms_clv (x := i) (by omega)
  have h3 := ms_clv (x := j) (by omega)
  rw [ms_om, show 5 + r.toNatClampNeg = i.toNatClampNeg by omega, show 14 + r.toNatClampNeg = j.toNatClampNeg by omega, ← ea, ← eb, if_pos c]
theorem ms_om2 {M : Nat → Int32} {r t i j a b : Int32} (ei : i.toInt = (5 : Int32).toInt + r.toInt) (ea : a = M i.toNatClampNeg) (ej : j.toInt = (14 : Int32).toInt + r.toInt) (eb : b = M j.toNatClampNeg) (hr : 0 ≤ r.toInt) (c : ¬ a = t) (c2 : b = t) : a = ms_om M r.toNatClampNeg t := by
  have c5 : (5 : Int32).toInt = 5 := by decide
  have c14 : (14 : Int32).toInt = 14 := by decide
  have h1 := ms_clv hr
  have h2 := ms_clv (x := i) (by omega)
  have h3 := ms_clv (x := j) (by omega)
  rw [ms_om, show 5 + r.toNatClampNeg = i.toNatClampNeg by omega, show 14 + r.toNatClampNeg = j.toNatClampNeg by omega, ← ea, ← eb, if_neg c, if_pos c2]
theorem ms_om3 {M : Nat → Int32} {r t i j a b : Int32} (ei : i.toInt = (5 : Int32).toInt + r.toInt) (ea : a = M i.toNatClampNeg) (ej : j.toInt = (14 : Int32).toInt + r.toInt) (eb : b = M j.toNatClampNeg) (hr : 0 ≤ r.toInt) (c : ¬ a = t) (c2 : ¬ b = t) : (-1) = ms_om M r.toNatClampNeg t := by
  have c5 : (5 : Int32).toInt = 5 := by decide
  have c14 : (14 : Int32).toInt = 14 := by decide
  have h1 := ms_clv hr
  have h2 := ms_clv (x := i) (by omega)
  have h3 := ms_clv (x := j) (by omega)
  rw [ms_om, show 5 + r.toNatClampNeg = i.toNatClampNeg by omega, show 14 + r.toNatClampNeg = j.toNatClampNeg by omega, ← ea, ← eb, if_neg c, if_neg c2]
theorem ms_lr {M : Nat → Int32} {r r' x : Int32} (c : r < x) (ex : x = M (3 : Int32).toNatClampNeg) (er : r'.toInt = r.toInt + 1) : r'.toInt ≤ (M 3).toInt := by
  have c3 : (3 : Int32).toNatClampNeg = 3 := by decide
  have h := Int32.lt_iff_toInt_lt.mp c
  rw [c3] at ex
  rw [← ex]
  omega
theorem ms_lr2 {M : Nat → Int32} {r x : Int32} (h : r.toInt ≤ (M 3).toInt) (ex : x = M (3 : Int32).toNatClampNeg) : r.toInt ≤ x.toInt := by
  have c3 : (3 : Int32).toNatClampNeg = 3 := by decide
  rw [c3] at ex
  rw [ex]
  exact h
theorem ms_prL {M w : Nat → Int32} {r x v : Int32} (h : ms_pr (M 3) w) (e : v = w r.toNatClampNeg) (ex : x = M (3 : Int32).toNatClampNeg) (c : r < x) (hr : 0 ≤ r.toInt) : 1 ≤ v.toInt ∧ v.toInt ≤ 999 := by
  have c3 : (3 : Int32).toNatClampNeg = 3 := by decide
  have h1 := Int32.lt_iff_toInt_lt.mp c
  have h2 := ms_clv hr
  rw [c3] at ex
  rw [ex] at h1
  rw [e]
  exact h _ (by omega)
theorem ms_prbF {k : Int32} {M w : Nat → Int32} (hf : ms_pf M) (h : ms_eqp w M 23 k.toInt) (h1 : 9 ≤ k.toInt) (hn : (M 3).toInt ≤ 9) : ms_pr (M 3) w := by
  intro i hi
  rw [h i (by omega)]
  have := (hf i hi).1
  omega
theorem ms_prt {n k : Int32} {f w : Nat → Int32} (hf : ms_pr n f) (h : ms_eqp w f 0 k.toInt) (h1 : 9 ≤ k.toInt) (hn : n.toInt ≤ 9) : ms_pr n w := by
  intro i hi
  rw [h i (by omega), Nat.zero_add]
  exact hf i hi
theorem ms_prs {n x : Int32} {k : Nat} {f w : Nat → Int32} (hf : ms_pr n f) (e : w = upd f k x) (h1 : 1 ≤ x.toInt) (h2 : x.toInt ≤ 999) : ms_pr n w := by
  subst e
  intro i hi
  by_cases hc : i = k
  · rw [hc, pk_us]; exact ⟨h1, h2⟩
  · rw [pk_un hc]; exact hf i hi
/-- the ways' roads are roads -/
def ms_wy (M w : Nat → Int32) (n : Int32) : Prop := ∀ k : Nat, (k : Int) < n.toInt → 0 ≤ (w k).toInt ∧ (w k).toInt < (M 3).toInt
theorem ms_wy0 {M w : Nat → Int32} {n : Int32} (h : n.toInt ≤ 0) : ms_wy M w n := fun k hk => absurd hk (by omega)
theorem ms_wyS {M w w' : Nat → Int32} {n n' r : Int32} {N : Nat} (h : ms_wy M w n) (e : w' = upd w n.toNatClampNeg r) (en : n'.toInt = n.toInt + 1) (hn : 0 ≤ n.toInt) (hr : 0 ≤ r.toInt) (hi : r.toInt ≤ (N : Int)) (hN : (N : Int) < (M 3).toInt) : ms_wy M w' n' := by
  have h1 := ms_clv hn
  subst e
  intro k hk
  by_cases hc : k = n.toNatClampNeg
  · rw [hc, pk_us]; omega
  · rw [pk_un hc]; exact h k (by omega)
theorem ms_lwd {f w : Nat → Int32} {o t r v m s x : Int32} (ev : v = f o.toNatClampNeg) (es : s.toInt = v.toInt + m.toInt) (ex : x = f t.toNatClampNeg) (c : s = x) (em : m = w r.toNatClampNeg) (hm : 1 ≤ m.toInt) : (f o.toNatClampNeg).toInt < (f t.toNatClampNeg).toInt := by
  rw [← ev, ← ex, ← c]
  omega
theorem ms_lw1 {f : Nat → Int32} {t v : Int32} (e : v = f t.toNatClampNeg) (c : v < 1000000) : (f t.toNatClampNeg).toInt < 1000000 := by
  have h := Int32.lt_iff_toInt_lt.mp c
  have : (1000000 : Int32).toInt = 1000000 := by decide
  rw [← e]
  omega
theorem ms_lw0 {k : Nat} (h : k ≤ 5) : (0 : Int32).toInt + (k : Int) ≤ 5 := by
  have : (0 : Int32).toInt = 0 := by decide
  omega
theorem ms_lw2 {m m' : Int32} {a b : Nat} (h : m.toInt + (a : Int) ≤ 5) (hd : b < a) (e : m'.toInt = m.toInt + 1) : m'.toInt + (b : Int) ≤ 5 := by omega
theorem ms_lw5 {m : Int32} {a : Nat} (h : m.toInt + (a : Int) ≤ 5) : m.toInt ≤ 5 := by omega
theorem ms_0N (N : Nat) : (0 : Int32).toInt ≤ (N : Int) := by
  have : (0 : Int32).toInt = 0 := by decide
  omega
theorem ms_N8 {r n : Int32} {N : Nat} (h : r.toInt ≤ (N : Int)) (hN : (N : Int) < n.toInt) (hn : n.toInt ≤ 9) : r.toInt ≤ 8 := by omega
theorem ms_rN {r : Int32} {N : Nat} (h : r.toInt ≤ (N : Int)) (hr : 0 ≤ r.toInt) (hne : ¬ r.toNatClampNeg = N) : r.toInt + 1 ≤ (N : Int) := by
  have := ms_clv hr
  omega
theorem ms_lwA {M : Nat → Int32} {r r' t o : Int32} {N : Nat} (h : r.toInt ≤ (N : Int)) (eo : o = ms_om M r.toNatClampNeg t) (c : o < 0) (hN : 0 ≤ (ms_om M N t).toInt) (er : r'.toInt = r.toInt + 1) (hr : 0 ≤ r.toInt) : r'.toInt ≤ (N : Int) := by
  rw [er]
  refine ms_rN h hr (fun q => ?_)
  have h1 := Int32.lt_iff_toInt_lt.mp c
  have c0 : (0 : Int32).toInt = 0 := by decide
  rw [eo, q] at h1
  omega
theorem ms_lwB {M f w : Nat → Int32} {r r' t o v m s x : Int32} {N : Nat} (h : r.toInt ≤ (N : Int)) (eo : o = ms_om M r.toNatClampNeg t) (ev : v = f o.toNatClampNeg) (em : m = w r.toNatClampNeg) (es : s.toInt = v.toInt + m.toInt) (ex : x = f t.toNatClampNeg) (c : ¬ s = x) (hN : (f (ms_om M N t).toNatClampNeg).toInt + (w N).toInt = (f t.toNatClampNeg).toInt) (er : r'.toInt = r.toInt + 1) (hr : 0 ≤ r.toInt) : r'.toInt ≤ (N : Int) := by
  rw [er]
  refine ms_rN h hr (fun q => c (Int32.toInt_inj.mp ?_))
  rw [es, ev, eo, em, q, ex]
  exact hN
theorem ms_lwM {r r' : Int32} {N : Nat} (h : r'.toInt ≤ (N : Int)) (er : r'.toInt = r.toInt + 1) (hr : 0 ≤ r.toInt) : N - r'.toNatClampNeg < N - r.toNatClampNeg := by
  have h1 := ms_clv hr
  have h2 := ms_clv (x := r') (by omega)
  omega
theorem ms_prN {n r v : Int32} {w : Nat → Int32} {N : Nat} (h : ms_pr n w) (e : v = w r.toNatClampNeg) (hi : r.toInt ≤ (N : Int)) (hN : (N : Int) < n.toInt) (hr : 0 ≤ r.toInt) : 1 ≤ v.toInt ∧ v.toInt ≤ 999 := by
  have h1 := ms_clv hr
  rw [e]
  exact h _ (by omega)
theorem ms_feL {M f w : Nat → Int32} {n k x v : Int32} (h : ms_pr (M 3) f) (hw : ms_wy M w n) (e : v = f x.toNatClampNeg) (ek : x = w k.toNatClampNeg) (c : k < n) (hk : 0 ≤ k.toInt) : 1 ≤ v.toInt ∧ v.toInt ≤ 999 := by
  have h1 := ms_clv hk
  have h2 := Int32.lt_iff_toInt_lt.mp c
  have h3 := hw k.toNatClampNeg (by omega)
  rw [← ek] at h3
  have h4 := ms_clv h3.1
  rw [e]
  exact h _ (by omega)
theorem ms_fe0 {k a : Int32} (h : k.toInt ≤ a.toInt ∧ a.toInt ≤ 999 * k.toInt) (hk : 0 ≤ k.toInt) : 0 ≤ a.toInt := by omega
theorem ms_fe1 {k a : Int32} (h : k.toInt ≤ a.toInt ∧ a.toInt ≤ 999 * k.toInt) (hk : k.toInt ≤ 6) : a.toInt ≤ 5994 := by omega
theorem ms_feS {k k' a a' v : Int32} (h : k.toInt ≤ a.toInt ∧ a.toInt ≤ 999 * k.toInt) (ea : a'.toInt = a.toInt + v.toInt) (hv : 1 ≤ v.toInt ∧ v.toInt ≤ 999) (ek : k'.toInt = k.toInt + 1) : k'.toInt ≤ a'.toInt ∧ a'.toInt ≤ 999 * k'.toInt := by omega
theorem ms_feZ {k a n : Int32} (h : k.toInt ≤ a.toInt ∧ a.toInt ≤ 999 * k.toInt) (c : n ≤ k) (hn : 1 ≤ n.toInt) : 1 ≤ a.toInt := by
  have := Int32.le_iff_toInt_le.mp c
  omega
theorem ms_shq {f w1 w2 : Nat → Int32} {k k2 : Nat} {x y v d : Int32} (e2 : w2 = upd w1 k2 y) (e1 : w1 = upd f k x) (ex : x = v + d) (ev : v = f k) : w2 = upd (upd f k (f k + d)) k2 y := by rw [e2, e1, ex, ev]
