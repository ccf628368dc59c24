/-! sums of lengths, journeys, what fits -/
theorem mz_rn {r : Int32} (h0 : 0 ≤ r.toInt) : nI r.toNatClampNeg = r := by
  have a := ms_clv h0
  have b := rg_max r
  rw [← Int32.toInt_inj, nI_toInt (by omega)]
  exact a
theorem mz_ck {r r' : Int32} (e : r'.toInt = r.toInt + 1) (h0 : 0 ≤ r.toInt) : r'.toNatClampNeg = r.toNatClampNeg + 1 := by
  have a := ms_clv h0
  have b := ms_clv (x := r') (by omega)
  omega
def mz_sm (F : Nat → Int32) (S : Int32) : Nat → Int32
  | 0 => 0
  | n + 1 => if ((S >>> (nI n &&& 31)) &&& 1) = 1 then mz_sm F S n + F n else mz_sm F S n
theorem mz_smS (F : Nat → Int32) (S : Int32) (n : Nat) : mz_sm F S (n + 1) = if ((S >>> (nI n &&& 31)) &&& 1) = 1 then mz_sm F S n + F n else mz_sm F S n := rfl
theorem mz_smn {F : Nat → Int32} {S al r r' t v : Int32} (h : al = mz_sm F S r.toNatClampNeg) (et : t = S >>> (r &&& 31)) (ev : v = t &&& 1) (c : v = 0) (er : r'.toInt = r.toInt + 1) (h0 : 0 ≤ r.toInt) : al = mz_sm F S r'.toNatClampNeg := by
  rw [mz_ck er h0, mz_smS, mz_rn h0, ← et, ← ev, c, if_neg (by decide)]
  exact h
theorem mz_one {v : Int32} (c : ¬ v = 0) (l : 0 ≤ v.toInt) (u : v.toInt ≤ 1) : v = 1 := by
  have q : ¬ v.toInt = 0 := fun e => c (Int32.toInt_inj.mp (e.trans (by decide)))
  exact Int32.toInt_inj.mp ((show v.toInt = 1 by omega).trans (by decide))
theorem mz_smp {F : Nat → Int32} {S al al' r r' t v x : Int32} (h : al = mz_sm F S r.toNatClampNeg) (et : t = S >>> (r &&& 31)) (ev : v = t &&& 1) (c : ¬ v = 0) (l : 0 ≤ v.toInt) (u : v.toInt ≤ 1) (ex : x = F r.toNatClampNeg) (ea : al' = al + x) (er : r'.toInt = r.toInt + 1) (h0 : 0 ≤ r.toInt) : al' = mz_sm F S r'.toNatClampNeg := by
  rw [mz_ck er h0, mz_smS, mz_rn h0, ← et, ← ev, mz_one c l u, if_pos rfl, ea, h, ex]
theorem mz_smx {F : Nat → Int32} {S al r n : Int32} (h : al = mz_sm F S r.toNatClampNeg) (c : n ≤ r) (g : r.toInt ≤ n.toInt) : al = mz_sm F S n.toNatClampNeg := by
  have q := Int32.le_iff_toInt_le.mp c
  rw [show n = r from Int32.toInt_inj.mp (by omega)]
  exact h
/-! the class: what each journey was longer -/
def mz_wg (O T S F : Nat → Int32) (n : Nat) (j : Int) : Prop := ∀ k : Nat, (k : Int) < j → O k = T k - mz_sm F (S k) n
theorem mz_wg0 {O T S F : Nat → Int32} {n : Nat} {j : Int32} (h : j.toInt ≤ 0) : mz_wg O T S F n j.toInt := fun k hk => absurd hk (by omega)
theorem mz_wgs {O O' T S F : Nat → Int32} {n : Nat} {j j' v f s x : Int32} (h : mz_wg O T S F n j.toInt) (e : O' = upd O j.toNatClampNeg v) (ev : v = f - s) (ef : f = T j.toNatClampNeg) (es : s = mz_sm F x n) (ex : x = S j.toNatClampNeg) (ej : j'.toInt = j.toInt + 1) (h0 : 0 ≤ j.toInt) : mz_wg O' T S F n j'.toInt := by
  have a := ms_clv h0
  intro k hk
  rw [e, mz_up]
  by_cases c : k = j.toNatClampNeg
  · rw [if_pos c, ev, ef, es, ex, c]
  · rw [if_neg c]
    exact h k (by omega)
theorem mz_wgx {O T S F : Nat → Int32} {n : Nat} {j J : Int32} (h : mz_wg O T S F n j.toInt) (c : J ≤ j) : mz_wg O T S F n J.toInt := by
  have q := Int32.le_iff_toInt_le.mp c
  exact fun k hk => h k (by omega)
theorem mz_z1 {O : Nat → Int32} {j j' v : Int32} (h : ms_zp O j.toInt) (ev : v = O j.toNatClampNeg) (c : v = 0) (ej : j'.toInt = j.toInt + 1) (h0 : 0 ≤ j.toInt) : ms_zp O j'.toInt := by
  have a := ms_clv h0
  intro k hk
  by_cases q : k = j.toNatClampNeg
  · rw [q, ← ev, c]
  · exact h k (by omega)
theorem mz_zx {O : Nat → Int32} {j J : Int32} (h : ms_zp O j.toInt) (c : J ≤ j) : ms_zp O J.toInt := by
  have q := Int32.le_iff_toInt_le.mp c
  exact fun k hk => h k (by omega)
theorem mz_zn {O : Nat → Int32} {j J v : Int32} (ev : v = O j.toNatClampNeg) (n : ¬ v = 0) (c : j < J) (h0 : 0 ≤ j.toInt) : ¬ ms_zp O J.toInt := by
  have q := Int32.lt_iff_toInt_lt.mp c
  have a := ms_clv h0
  exact fun h => n (ev.trans (h _ (by omega)))
/-! isFit -/
def mz_if (O S : Nat → Int32) (r : Nat) (m : Int32) (J : Int) : Prop := ∀ k : Nat, (k : Int) < J → O k = if ((S k >>> (nI r &&& 31)) &&& 1) = 1 then m else 0
theorem mz_if0 {O S : Nat → Int32} {r : Nat} {m j : Int32} (h : j.toInt ≤ 0) : mz_if O S r m j.toInt := fun k hk => absurd hk (by omega)
theorem mz_ifa {O S : Nat → Int32} {r j v s t b m : Int32} (ev : v = O j.toNatClampNeg) (es : s = S j.toNatClampNeg) (et : t = s >>> (r &&& 31)) (eb : b = t &&& 1) (c : b = 0) (h0 : 0 ≤ r.toInt) : (v = 0 ↔ O j.toNatClampNeg = if ((S j.toNatClampNeg >>> (nI r.toNatClampNeg &&& 31)) &&& 1) = 1 then m else 0) := by
  rw [mz_rn h0, ← es, ← et, ← eb, c, if_neg (by decide), ← ev]
theorem mz_ifb {O S : Nat → Int32} {r j v s t b m : Int32} (ev : v = O j.toNatClampNeg) (es : s = S j.toNatClampNeg) (et : t = s >>> (r &&& 31)) (eb : b = t &&& 1) (c : ¬ b = 0) (l : 0 ≤ b.toInt) (u : b.toInt ≤ 1) (h0 : 0 ≤ r.toInt) : (v = m ↔ O j.toNatClampNeg = if ((S j.toNatClampNeg >>> (nI r.toNatClampNeg &&& 31)) &&& 1) = 1 then m else 0) := by
  rw [mz_rn h0, ← es, ← et, ← eb, mz_one c l u, if_pos rfl, ← ev]
theorem mz_ifs {O S : Nat → Int32} {r : Nat} {j j' m : Int32} {X : Prop} (h : mz_if O S r m j.toInt) (e : X ↔ O j.toNatClampNeg = if ((S j.toNatClampNeg >>> (nI r &&& 31)) &&& 1) = 1 then m else 0) (x : X) (ej : j'.toInt = j.toInt + 1) (h0 : 0 ≤ j.toInt) : mz_if O S r m j'.toInt := by
  have a := ms_clv h0
  intro k hk
  by_cases q : k = j.toNatClampNeg
  · rw [q]
    exact e.mp x
  · exact h k (by omega)
theorem mz_ifn {O S : Nat → Int32} {r : Nat} {j J m : Int32} {X : Prop} (e : X ↔ O j.toNatClampNeg = if ((S j.toNatClampNeg >>> (nI r &&& 31)) &&& 1) = 1 then m else 0) (x : ¬ X) (c : j < J) (h0 : 0 ≤ j.toInt) : ¬ mz_if O S r m J.toInt := by
  have q := Int32.lt_iff_toInt_lt.mp c
  have a := ms_clv h0
  exact fun h => x (e.mpr (h _ (by omega)))
theorem mz_ifx {O S : Nat → Int32} {r : Nat} {j J m : Int32} (h : mz_if O S r m j.toInt) (c : J ≤ j) : mz_if O S r m J.toInt := by
  have q := Int32.le_iff_toInt_le.mp c
  exact fun k hk => h k (by omega)
/-! the least, and how many -/
def mz_no (A : Nat → Prop) (f : Int) : Prop := ∀ g : Nat, 1 ≤ g → (g : Int) < f → ¬ A g
def mz_lf (A : Nat → Prop) (v : Int32) : Prop := (∃ f : Nat, 1 ≤ f ∧ f ≤ 99 ∧ A f ∧ mz_no A f ∧ v = nI f) ∨ (mz_no A 100 ∧ v = -1)
noncomputable def mz_cn (A : Nat → Prop) : Nat → Nat
  | 0 => 0
  | n + 1 => mz_cn A n + @ite Nat (A (n + 1)) (Classical.propDecidable _) 1 0
theorem mz_cnY {A : Nat → Prop} {n : Nat} (h : A (n + 1)) : mz_cn A (n + 1) = mz_cn A n + 1 := by
  show mz_cn A n + @ite Nat (A (n + 1)) (Classical.propDecidable _) 1 0 = _
  rw [if_pos h]
theorem mz_cnN {A : Nat → Prop} {n : Nat} (h : ¬ A (n + 1)) : mz_cn A (n + 1) = mz_cn A n := by
  show mz_cn A n + @ite Nat (A (n + 1)) (Classical.propDecidable _) 1 0 = _
  rw [if_neg h, Nat.add_zero]
theorem mz_cnS (A : Nat → Prop) (n : Nat) : mz_cn A n ≤ mz_cn A (n + 1) ∧ mz_cn A (n + 1) ≤ mz_cn A n + 1 := by
  by_cases h : A (n + 1)
  · rw [mz_cnY h]; omega
  · rw [mz_cnN h]; omega
theorem mz_cnle (A : Nat → Prop) : ∀ n : Nat, mz_cn A n ≤ n := by
  intro n
  induction n with
  | zero => exact Nat.le_refl _
  | succ n ih => have := mz_cnS A n; omega
theorem mz_cnmo (A : Nat → Prop) (n : Nat) : ∀ k : Nat, mz_cn A n ≤ mz_cn A (n + k) := by
  intro k
  induction k with
  | zero => exact Nat.le_refl _
  | succ k ih => have := mz_cnS A (n + k); exact Nat.le_trans ih this.1
theorem mz_cnc {A B : Nat → Prop} (h : ∀ f : Nat, 1 ≤ f → (A f ↔ B f)) : ∀ n : Nat, mz_cn A n = mz_cn B n := by
  intro n
  induction n with
  | zero => rfl
  | succ n ih =>
    by_cases q : A (n + 1)
    · rw [mz_cnY q, mz_cnY ((h _ (by omega)).mp q), ih]
    · rw [mz_cnN q, mz_cnN (fun g => q ((h _ (by omega)).mpr g)), ih]
theorem mz_noc {A B : Nat → Prop} (h : ∀ f : Nat, 1 ≤ f → (A f ↔ B f)) {f : Int} (g : mz_no A f) : mz_no B f := fun k h1 h2 h3 => g k h1 h2 ((h k h1).mpr h3)
theorem mz_lfc {A B : Nat → Prop} (h : ∀ f : Nat, 1 ≤ f → (A f ↔ B f)) {v : Int32} (g : mz_lf A v) : mz_lf B v := by
  rcases g with ⟨f, h1, h2, h3, h4, h5⟩ | ⟨h1, h2⟩
  · exact Or.inl ⟨f, h1, h2, (h f h1).mp h3, mz_noc h h4, h5⟩
  · exact Or.inr ⟨mz_noc h h1, h2⟩
theorem mz_lfd {A : Nat → Prop} {v w : Int32} (h : mz_lf A v) (g : mz_lf A w) : v = w := by
  rcases h with ⟨f, h1, h2, h3, h4, h5⟩ | ⟨h1, h2⟩ <;> rcases g with ⟨k, g1, g2, g3, g4, g5⟩ | ⟨g1, g2⟩
  · rcases Nat.lt_trichotomy f k with c | c | c
    · exact absurd h3 (g4 f h1 (by omega))
    · rw [h5, g5, c]
    · exact absurd g3 (h4 k g1 (by omega))
  · exact absurd h3 (g1 f h1 (by omega))
  · exact absurd g3 (h1 k g1 (by omega))
  · rw [h2, g2]
/-- among 1 .. 99 -/
def mz_ex (A : Nat → Prop) : Prop := ∃ f : Nat, 1 ≤ f ∧ f ≤ 99 ∧ A f
theorem mz_lfy {A : Nat → Prop} {v : Int32} (h : mz_lf A v) (n : ¬ v = -1) : mz_ex A := by
  rcases h with ⟨f, h1, h2, h3, -, -⟩ | ⟨-, h2⟩
  · exact ⟨f, h1, h2, h3⟩
  · exact absurd h2 n
theorem mz_lfn {A : Nat → Prop} {v : Int32} (h : mz_lf A v) (n : v = -1) : ¬ mz_ex A := by
  rcases h with ⟨f, h1, h2, -, -, h5⟩ | ⟨h1, -⟩
  · have q := nI_toInt (n := f) (by omega)
    rw [← h5, n, show (-1 : Int32).toInt = -1 by decide] at q
    omega
  · exact fun ⟨f, g1, g2, g3⟩ => h1 f g1 (by omega) g3
def mz_af (O S : Nat → Int32) (r : Nat) (a : Int32) (J : Int) (f : Nat) : Prop := mz_if O S r (nI f - a) J
theorem mz_afe {O S : Nat → Int32} {r : Nat} {a f v : Int32} {J : Int} (ev : v = f - a) (h0 : 0 ≤ f.toInt) : mz_af O S r a J f.toNatClampNeg = mz_if O S r v J := by
  unfold mz_af
  rw [mz_rn h0, ev]
theorem mz_no1 {A : Nat → Prop} {f : Int32} (h : f.toInt ≤ 1) : mz_no A f.toInt := fun g h1 h2 => absurd h2 (by omega)
theorem mz_nos {A : Nat → Prop} {f f' : Int32} (h : mz_no A f.toInt) (n : ¬ A f.toNatClampNeg) (e : f'.toInt = f.toInt + 1) (h0 : 0 ≤ f.toInt) : mz_no A f'.toInt := by
  have a := ms_clv h0
  intro g h1 h2
  by_cases q : g = f.toNatClampNeg
  · rw [q]; exact n
  · exact h g h1 (by omega)
theorem mz_lfA {A : Nat → Prop} {f : Int32} (h : mz_no A f.toInt) (x : A f.toNatClampNeg) (h1 : 1 ≤ f.toInt) (h2 : f.toInt ≤ 99) : mz_lf A f := by
  have a := ms_clv (x := f) (by omega)
  exact Or.inl ⟨f.toNatClampNeg, by omega, by omega, x, by rw [a]; exact h, (mz_rn (by omega)).symm⟩
theorem mz_lfB {A : Nat → Prop} {f : Int32} (h : mz_no A f.toInt) (h2 : 100 ≤ f.toInt) : mz_lf A (-1) := Or.inr ⟨fun g h1 h3 => h g h1 (by omega), rfl⟩
def mz_ci (A : Nat → Prop) (f c : Int) : Prop := ∃ m : Nat, f = m + 1 ∧ c = (mz_cn A m : Int)
theorem mz_ci1 (A : Nat → Prop) : mz_ci A (1 : Int32).toInt (0 : Int32).toInt := ⟨0, by decide, by rw [show (0 : Int32).toInt = 0 by decide]; rfl⟩
theorem mz_cib {A : Nat → Prop} {f c : Int32} (h : mz_ci A f.toInt c.toInt) (g : f.toInt ≤ 100) : 0 ≤ c.toInt ∧ c.toInt ≤ 99 := by
  obtain ⟨m, h1, h2⟩ := h
  have := mz_cnle A m
  omega
theorem mz_ciY {A : Nat → Prop} {f f' c c' : Int32} (h : mz_ci A f.toInt c.toInt) (x : A f.toNatClampNeg) (e : f'.toInt = f.toInt + 1) (ec : c'.toInt = c.toInt + 1) (h0 : 0 ≤ f.toInt) : mz_ci A f'.toInt c'.toInt := by
  obtain ⟨m, h1, h2⟩ := h
  have a := ms_clv h0
  rw [show f.toNatClampNeg = m + 1 by omega] at x
  refine ⟨m + 1, by omega, ?_⟩
  rw [mz_cnY x, ec, h2]
  omega
theorem mz_ciN {A : Nat → Prop} {f f' c : Int32} (h : mz_ci A f.toInt c.toInt) (x : ¬ A f.toNatClampNeg) (e : f'.toInt = f.toInt + 1) (h0 : 0 ≤ f.toInt) : mz_ci A f'.toInt c.toInt := by
  obtain ⟨m, h1, h2⟩ := h
  have a := ms_clv h0
  rw [show f.toNatClampNeg = m + 1 by omega] at x
  refine ⟨m + 1, by omega, ?_⟩
  rw [mz_cnN x, h2]
theorem mz_cix {A : Nat → Prop} {f c : Int32} (h : mz_ci A f.toInt c.toInt) (h1 : 100 ≤ f.toInt) (h2 : f.toInt ≤ 100) : c.toInt = (mz_cn A 99 : Int) := by
  obtain ⟨m, g1, g2⟩ := h
  rw [show m = 99 by omega] at g2
  exact g2
/-! all journeys are so, with r's feet another -/
abbrev mz_gv (F : Nat → Int32) (r : Int) (v : Int32) : Nat → Int32 := fun e => if (e : Int) = r then v else F e
def mz_as (F S T : Nat → Int32) (n : Nat) (J r : Int) (v : Int32) : Prop := ∀ k : Nat, (k : Int) < J → mz_sm (mz_gv F r v) (S k) n = T k
theorem mz_smg {F G : Nat → Int32} {S : Int32} : ∀ n : Nat, (∀ e : Nat, e < n → F e = G e) → mz_sm F S n = mz_sm G S n := by
  intro n
  induction n with
  | zero => intro _; rfl
  | succ n ih =>
    intro h
    rw [mz_smS, mz_smS, ih (fun e he => h e (by omega)), h n (by omega)]
theorem mz_smu {F : Nat → Int32} {S v : Int32} {r : Nat} : ∀ n : Nat, r < n → mz_sm (mz_gv F r v) S n = mz_sm F S n + (if ((S >>> (nI r &&& 31)) &&& 1) = 1 then v - F r else 0) := by
  intro n
  induction n with
  | zero => intro h; exact absurd h (by omega)
  | succ n ih =>
    intro h
    rw [mz_smS, mz_smS]
    by_cases q : r = n
    · subst q
      have e : mz_sm (mz_gv F r v) S r = mz_sm F S r := mz_smg r (fun e he => if_neg (by omega))
      have e2 : mz_gv F r v r = v := if_pos rfl
      rw [e, e2]
      by_cases b : ((S >>> (nI r &&& 31)) &&& 1) = 1
      · rw [if_pos b, if_pos b, if_pos b, Int32.add_assoc, Int32.add_comm (F r), Int32.sub_add_cancel]
      · rw [if_neg b, if_neg b, if_neg b, Int32.add_zero]
    · have e2 : mz_gv F r v n = F n := if_neg (by omega)
      rw [e2, ih (by omega)]
      by_cases b : ((S >>> (nI n &&& 31)) &&& 1) = 1
      · rw [if_pos b, if_pos b, Int32.add_assoc, Int32.add_assoc, Int32.add_comm (F n)]
      · rw [if_neg b, if_neg b]
def mz_aa (F S T : Nat → Int32) (n : Nat) (J : Int) (r f : Nat) : Prop := mz_as F S T n J (r : Int) (nI f)
theorem mz_aaE {F S T : Nat → Int32} {n : Nat} {J : Int} {r f : Int32} (hr : 0 ≤ r.toInt) (hf : 0 ≤ f.toInt) : mz_aa F S T n J r.toNatClampNeg f.toNatClampNeg = mz_as F S T n J r.toInt f := by
  unfold mz_aa
  rw [ms_clv hr, mz_rn hf]
theorem mz_afas {O T S F : Nat → Int32} {n r f : Nat} {J : Int} (w : mz_wg O T S F n J) (hr : r < n) : mz_af O S r (F r) J f ↔ mz_aa F S T n J r f := by
  constructor
  · intro h k hk
    have a := h k hk
    rw [w k hk, Int32.sub_eq_iff_eq_add] at a
    rw [mz_smu n hr, a, Int32.add_comm]
  · intro h k hk
    have a := h k hk
    rw [mz_smu n hr] at a
    rw [w k hk, Int32.sub_eq_iff_eq_add, ← a, Int32.add_comm]
theorem mz_asm {F S T : Nat → Int32} {n : Nat} {J : Int} {v : Int32} : mz_as F S T n J (-1) v ↔ ∀ k : Nat, (k : Int) < J → mz_sm F (S k) n = T k := by
  have e : ∀ k : Nat, mz_sm (mz_gv F (-1) v) (S k) n = mz_sm F (S k) n := fun k => mz_smg n (fun e he => if_neg (by omega))
  constructor
  · intro h k hk
    rw [← e k]
    exact h k hk
  · intro h k hk
    rw [e k]
    exact h k hk
theorem mz_zas {O T S F : Nat → Int32} {n : Nat} {J : Int} {v : Int32} (w : mz_wg O T S F n J) : ms_zp O J ↔ mz_as F S T n J (-1) v := by
  rw [mz_asm]
  constructor
  · intro h k hk
    have a := h k hk
    rw [w k hk, Int32.sub_eq_iff_eq_add, Int32.zero_add] at a
    exact a.symm
  · intro h k hk
    rw [w k hk, h k hk, Int32.sub_self]
noncomputable def mz_ls (Q : Nat → Prop) : Nat → Int32
  | 0 => 0
  | n + 1 => @ite Int32 (Q n) (Classical.propDecidable _) (mz_ls Q n ||| ((1 : Int32) <<< (nI n &&& 31))) (mz_ls Q n)
theorem mz_lsY {Q : Nat → Prop} {n : Nat} (h : Q n) : mz_ls Q (n + 1) = mz_ls Q n ||| ((1 : Int32) <<< (nI n &&& 31)) := by
  show @ite Int32 (Q n) (Classical.propDecidable _) _ _ = _
  rw [if_pos h]
theorem mz_lsN {Q : Nat → Prop} {n : Nat} (h : ¬ Q n) : mz_ls Q (n + 1) = mz_ls Q n := by
  show @ite Int32 (Q n) (Classical.propDecidable _) _ _ = _
  rw [if_neg h]
theorem mz_lsc {Q P : Nat → Prop} : ∀ n : Nat, (∀ e : Nat, e < n → (Q e ↔ P e)) → mz_ls Q n = mz_ls P n := by
  intro n
  induction n with
  | zero => intro _; rfl
  | succ n ih =>
    intro h
    by_cases q : Q n
    · rw [mz_lsY q, mz_lsY ((h n (by omega)).mp q), ih (fun e he => h e (by omega))]
    · rw [mz_lsN q, mz_lsN (fun g => q ((h n (by omega)).mpr g)), ih (fun e he => h e (by omega))]
theorem mz_lsy {Q : Nat → Prop} {s s' r r' q : Int32} (h : s = mz_ls Q r.toNatClampNeg) (x : Q r.toNatClampNeg) (eq : q = (1 : Int32) <<< (r &&& 31)) (es : s' = s ||| q) (er : r'.toInt = r.toInt + 1) (h0 : 0 ≤ r.toInt) : s' = mz_ls Q r'.toNatClampNeg := by
  rw [mz_ck er h0, mz_lsY x, mz_rn h0, es, h, eq]
theorem mz_lsn {Q : Nat → Prop} {s r r' : Int32} (h : s = mz_ls Q r.toNatClampNeg) (x : ¬ Q r.toNatClampNeg) (er : r'.toInt = r.toInt + 1) (h0 : 0 ≤ r.toInt) : s = mz_ls Q r'.toNatClampNeg := by
  rw [mz_ck er h0, mz_lsN x]
  exact h
theorem mz_lsx {Q : Nat → Prop} {s r n : Int32} (h : s = mz_ls Q r.toNatClampNeg) (c : n ≤ r) (g : r.toInt ≤ n.toInt) : s = mz_ls Q n.toNatClampNeg := by
  have q := Int32.le_iff_toInt_le.mp c
  rw [show n = r from Int32.toInt_inj.mp (by omega)]
  exact h
def mz_li (F S T : Nat → Int32) (n : Nat) (J : Int) (r : Int32) : Prop := (mz_as F S T n J (-1) 0 ∧ r = 0) ∨ (¬ mz_as F S T n J (-1) 0 ∧ r = mz_ls (fun e => mz_ex (mz_aa F S T n J e)) n)
theorem mz_liA {O T S F : Nat → Int32} {n : Nat} {J : Int} (w : mz_wg O T S F n J) (h : ms_zp O J) : mz_li F S T n J 0 := Or.inl ⟨(mz_zas w).mp h, rfl⟩
theorem mz_exc {A B : Nat → Prop} (h : ∀ f : Nat, A f ↔ B f) : mz_ex A ↔ mz_ex B := ⟨fun ⟨f, h1, h2, h3⟩ => ⟨f, h1, h2, (h f).mp h3⟩, fun ⟨f, h1, h2, h3⟩ => ⟨f, h1, h2, (h f).mpr h3⟩⟩
theorem mz_liB {O T S F : Nat → Int32} {n : Nat} {J : Int} {s : Int32} (w : mz_wg O T S F n J) (h : ¬ ms_zp O J) (e : s = mz_ls (fun e => mz_ex (mz_af O S e (F e) J)) n) : mz_li F S T n J s := by
  refine Or.inr ⟨fun g => h ((mz_zas w).mpr g), ?_⟩
  rw [e]
  exact mz_lsc n (fun k hk => mz_exc (fun f => mz_afas w hk))
theorem mz_lfe {O S F : Nat → Int32} {r : Nat} {a v : Int32} {J : Int} (e : a = F r) (h : mz_lf (mz_af O S r a J) v) : mz_lf (mz_af O S r (F r) J) v := e ▸ h
theorem mz_cfe {O S F : Nat → Int32} {r : Nat} {a v : Int32} {J : Int} (e : a = F r) (h : v.toInt = (mz_cn (mz_af O S r a J) 99 : Int)) : v.toInt = (mz_cn (mz_af O S r (F r) J) 99 : Int) := e ▸ h
theorem mz_n3 {M : Nat → Int32} {x t : Int32} (ex : x = M (3 : Int32).toNatClampNeg) (c : t < x) : t < M 3 := by
  rw [show (3 : Int32).toNatClampNeg = 3 by decide] at ex
  rw [← ex]
  exact c
theorem mz_n3e {M : Nat → Int32} {x t : Int32} (ex : x = M (3 : Int32).toNatClampNeg) (c : x ≤ t) : M 3 ≤ t := by
  rw [show (3 : Int32).toNatClampNeg = 3 by decide] at ex
  rw [← ex]
  exact c
/-! fits -/
def mz_fq (Rd a b r : Int32) (A : Nat → Prop) : Prop := (¬ (0 ≤ a.toInt ∧ a.toInt < Rd.toInt) ∧ r = -1000000001) ∨ ((0 ≤ a.toInt ∧ a.toInt < Rd.toInt) ∧ ((¬ (0 ≤ b.toInt ∧ b.toInt ≤ 1) ∧ r = -1000000002) ∨ ((0 ≤ b.toInt ∧ b.toInt ≤ 1) ∧ ((b.toInt = 0 ∧ r.toInt = (mz_cn A 99 : Int)) ∨ (b.toInt = 1 ∧ mz_lf A r)))))
theorem mz_fqd {Rd a b r r' : Int32} {A : Nat → Prop} (h : mz_fq Rd a b r A) (g : mz_fq Rd a b r' A) : r = r' := by
  rcases h with ⟨h1, rfl⟩ | ⟨h1, ⟨h2, rfl⟩ | ⟨h2, ⟨h3, h4⟩ | ⟨h3, h4⟩⟩⟩ <;> rcases g with ⟨g1, rfl⟩ | ⟨g1, ⟨g2, rfl⟩ | ⟨g2, ⟨g3, g4⟩ | ⟨g3, g4⟩⟩⟩ <;> first | rfl | exact absurd h1 g1 | exact absurd g1 h1 | exact absurd h2 g2 | exact absurd g2 h2 | exact Int32.toInt_inj.mp (h4.trans g4.symm) | exact mz_lfd h4 g4 | (exfalso; omega)
theorem mz_fq1 {O T S F : Nat → Int32} {Rd a r : Int32} {J : Int} (w : mz_wg O T S F Rd.toNatClampNeg J) (h : 0 ≤ a.toInt ∧ a.toInt < Rd.toInt) (b : Int32) (hb : b = 0) (e : r.toInt = (mz_cn (mz_af O S a.toNatClampNeg (F a.toNatClampNeg) J) 99 : Int)) : mz_fq Rd a b r (mz_aa F S T Rd.toNatClampNeg J a.toNatClampNeg) := by
  have p := ms_clv h.1
  have q := ms_clv (x := Rd) (by omega)
  subst hb
  refine Or.inr ⟨h, Or.inr ⟨by decide, Or.inl ⟨by decide, ?_⟩⟩⟩
  rw [e]
  exact congrArg Int.ofNat (mz_cnc (fun f _ => mz_afas w (by omega)) 99)
theorem mz_fq2 {O T S F : Nat → Int32} {Rd a r : Int32} {J : Int} (w : mz_wg O T S F Rd.toNatClampNeg J) (h : 0 ≤ a.toInt ∧ a.toInt < Rd.toInt) (b : Int32) (hb : b = 1) (e : mz_lf (mz_af O S a.toNatClampNeg (F a.toNatClampNeg) J) r) : mz_fq Rd a b r (mz_aa F S T Rd.toNatClampNeg J a.toNatClampNeg) := by
  have p := ms_clv h.1
  have q := ms_clv (x := Rd) (by omega)
  subst hb
  refine Or.inr ⟨h, Or.inr ⟨by decide, Or.inr ⟨by decide, ?_⟩⟩⟩
  exact mz_lfc (fun f _ => mz_afas w (by omega)) e
/-! the reference: areSo -/
abbrev mz_ev (J : Nat → Int32) : Nat → Int32 := fun k => J (2 * k)
abbrev mz_od (J : Nat → Int32) : Nat → Int32 := fun k => J (2 * k + 1)
theorem mz_sg0 {G : Nat → Int32} {S y su su' e e' h : Int32} (hs : su = mz_sm G S e.toNatClampNeg) (yS : y = S) (eh : h = (if ((y >>> (e &&& 31)) &&& 1) = 1 then 1 else 0)) (c : h = 0) (ea : su' = su + 0) (er : e'.toInt = e.toInt + 1) (h0 : 0 ≤ e.toInt) : su' = mz_sm G S e'.toNatClampNeg := by
  rw [yS] at eh
  have b : ¬ ((S >>> (e &&& 31)) &&& 1) = 1 := fun q => by
    rw [if_pos q, c] at eh
    exact absurd eh (by decide)
  rw [mz_ck er h0, mz_smS, mz_rn h0, if_neg b, ea, Int32.add_zero]
  exact hs
theorem mz_sg1 {G : Nat → Int32} {S y su su' e e' h x : Int32} (hs : su = mz_sm G S e.toNatClampNeg) (yS : y = S) (eh : h = (if ((y >>> (e &&& 31)) &&& 1) = 1 then 1 else 0)) (c : ¬ h = 0) (ex : x = G e.toNatClampNeg) (ea : su' = su + x) (er : e'.toInt = e.toInt + 1) (h0 : 0 ≤ e.toInt) : su' = mz_sm G S e'.toNatClampNeg := by
  rw [yS] at eh
  have b : ((S >>> (e &&& 31)) &&& 1) = 1 := Classical.byContradiction fun q => by
    rw [if_neg q] at eh
    exact c eh
  rw [mz_ck er h0, mz_smS, mz_rn h0, if_pos b, ea, hs, ex]
theorem mz_gvY {F : Nat → Int32} {r e v : Int32} (c : e = r) (h0 : 0 ≤ e.toInt) : v = mz_gv F r.toInt v e.toNatClampNeg := by
  subst c
  exact (if_pos (ms_clv h0)).symm
theorem mz_gvN {F : Nat → Int32} {r e v x : Int32} (c : ¬ e = r) (h0 : 0 ≤ e.toInt) (ex : x = F e.toNatClampNeg) : x = mz_gv F r.toInt v e.toNatClampNeg := by
  have a := ms_clv h0
  rw [ex]
  exact (if_neg (fun q => c (Int32.toInt_inj.mp (by omega)))).symm
theorem mz_dbl {k i : Int32} (e : i.toInt = (2 : Int32).toInt * k.toInt) (h0 : 0 ≤ k.toInt) : i.toNatClampNeg = 2 * k.toNatClampNeg := by
  rw [show (2 : Int32).toInt = 2 by decide] at e
  have a := ms_clv h0
  have b := ms_clv (x := i) (by omega)
  omega
theorem mz_dbo {k i m : Int32} (e : m.toInt = (2 : Int32).toInt * k.toInt) (e2 : i.toInt = m.toInt + (1 : Int32).toInt) (h0 : 0 ≤ k.toInt) : i.toNatClampNeg = 2 * k.toNatClampNeg + 1 := by
  rw [show (2 : Int32).toInt = 2 by decide] at e
  rw [show (1 : Int32).toInt = 1 by decide] at e2
  have a := ms_clv h0
  have b := ms_clv (x := i) (by omega)
  omega
/-- the answer so far: k journeys are seen, J there are -/
def mz_yb (F S T : Nat → Int32) (n : Nat) (k J r : Int) (v so : Int32) : Prop := (so = 1 ∧ mz_as F S T n k r v) ∨ (so = 0 ∧ ¬ mz_as F S T n J r v)
theorem mz_yb0 {F S T : Nat → Int32} {n : Nat} {J r : Int} {v k : Int32} (h : k.toInt ≤ 0) : mz_yb F S T n k.toInt J r v 1 := Or.inl ⟨rfl, fun i hi => absurd hi (by omega)⟩
theorem mz_ybA {F S T : Nat → Int32} {n : Nat} {r : Int} {v so k k' su x N J : Int32} (h : mz_yb F S T n k.toInt J.toInt r v so) (c : ¬ so = 0) (es : su = mz_sm (mz_gv F r v) (S k.toNatClampNeg) N.toNatClampNeg) (hn : N.toNatClampNeg = n) (ex : x = T k.toNatClampNeg) (q : su = x) (ek : k'.toInt = k.toInt + 1) (h0 : 0 ≤ k.toInt) : mz_yb F S T n k'.toInt J.toInt r v 1 := by
  rcases h with ⟨-, h2⟩ | ⟨h1, -⟩
  · have a := ms_clv h0
    refine Or.inl ⟨rfl, fun i hi => ?_⟩
    by_cases w : i = k.toNatClampNeg
    · rw [w, ← hn, ← es, ← ex]
      exact q
    · exact h2 i (by omega)
  · exact absurd h1 c
theorem mz_ybB {F S T : Nat → Int32} {n : Nat} {r k1 : Int} {v k su x N J : Int32} (es : su = mz_sm (mz_gv F r v) (S k.toNatClampNeg) N.toNatClampNeg) (hn : N.toNatClampNeg = n) (ex : x = T k.toNatClampNeg) (q : ¬ su = x) (c : k < J) (h0 : 0 ≤ k.toInt) : mz_yb F S T n k1 J.toInt r v 0 := by
  have a := ms_clv h0
  have b := Int32.lt_iff_toInt_lt.mp c
  refine Or.inr ⟨rfl, fun g => q ?_⟩
  rw [es, ex, hn]
  exact g k.toNatClampNeg (by omega)
theorem mz_ybC {F S T : Nat → Int32} {n : Nat} {r k1 k2 : Int} {v so : Int32} {J : Int} (h : mz_yb F S T n k1 J r v so) (c : so = 0) : mz_yb F S T n k2 J r v 0 := by
  rcases h with ⟨h1, -⟩ | ⟨-, h2⟩
  · rw [c] at h1
    exact absurd h1 (by decide)
  · exact Or.inr ⟨rfl, h2⟩
theorem mz_ybx {F S T : Nat → Int32} {n : Nat} {r : Int} {v so k J : Int32} (h : mz_yb F S T n k.toInt J.toInt r v so) (c : J ≤ k) : mz_yb F S T n J.toInt J.toInt r v so := by
  have q := Int32.le_iff_toInt_le.mp c
  rcases h with ⟨h1, h2⟩ | h
  · exact Or.inl ⟨h1, fun i hi => h2 i (by omega)⟩
  · exact Or.inr h
/-- areSo's answer -/
def mz_an (X : Prop) (so : Int32) : Prop := (so = 1 ∧ X) ∨ (so = 0 ∧ ¬ X)
theorem mz_anY {X : Prop} {so : Int32} (h : mz_an X so) (c : ¬ so = 0) : X := by
  rcases h with ⟨-, h⟩ | ⟨h, -⟩
  · exact h
  · exact absurd h c
theorem mz_anN {X : Prop} {so : Int32} (h : mz_an X so) (c : so = 0) : ¬ X := by
  rcases h with ⟨h, -⟩ | ⟨-, h⟩
  · rw [c] at h
    exact absurd h (by decide)
  · exact h
/-! the reference's liars -/
theorem mz_nI' {A : Int32 → Prop} {f : Int32} (h0 : 0 ≤ f.toInt) : A f = A (nI f.toNatClampNeg) := by rw [mz_rn h0]
/-- lies: something below its fits -/
def mz_ly (A : Nat → Prop) (f : Int) (b : Int32) : Prop := (b = 1 ∧ ∃ g : Nat, 1 ≤ g ∧ (g : Int) < f ∧ A g) ∨ (b = 0 ∧ mz_no A f)
theorem mz_ly1 {A : Nat → Prop} {f : Int32} (h : f.toInt ≤ 1) : mz_ly A f.toInt 0 := Or.inr ⟨rfl, mz_no1 h⟩
theorem mz_lyA {A : Nat → Prop} {f f' b : Int32} (h : mz_ly A f.toInt b) (c : ¬ b = 0) (e : f'.toInt = f.toInt + 1) : mz_ly A f'.toInt 1 := by
  rcases h with ⟨-, g, h1, h2, h3⟩ | ⟨h1, -⟩
  · exact Or.inl ⟨rfl, g, h1, by omega, h3⟩
  · exact absurd h1 c
theorem mz_lyB {A : Nat → Prop} {f f' : Int32} (x : A f.toNatClampNeg) (e : f'.toInt = f.toInt + 1) (h0 : 1 ≤ f.toInt) : mz_ly A f'.toInt 1 := by
  have a := ms_clv (x := f) (by omega)
  exact Or.inl ⟨rfl, _, by omega, by omega, x⟩
theorem mz_lyC {A : Nat → Prop} {f f' b : Int32} (h : mz_ly A f.toInt b) (c : b = 0) (x : ¬ A f.toNatClampNeg) (e : f'.toInt = f.toInt + 1) (h0 : 0 ≤ f.toInt) : mz_ly A f'.toInt 0 := by
  rcases h with ⟨h1, -⟩ | ⟨-, h2⟩
  · rw [c] at h1
    exact absurd h1 (by decide)
  · exact Or.inr ⟨rfl, mz_nos h2 x e h0⟩
theorem mz_lyY {A : Nat → Prop} {f b : Int32} (h : mz_ly A f.toInt b) (c : ¬ b = 0) (g : f.toInt ≤ 100) : mz_ex A := by
  rcases h with ⟨-, k, h1, h2, h3⟩ | ⟨h1, -⟩
  · exact ⟨k, h1, by omega, h3⟩
  · exact absurd h1 c
theorem mz_lyN {A : Nat → Prop} {f b : Int32} (h : mz_ly A f.toInt b) (c : b = 0) (g : 100 ≤ f.toInt) : ¬ mz_ex A := by
  rcases h with ⟨h1, -⟩ | ⟨-, h2⟩
  · rw [c] at h1
    exact absurd h1 (by decide)
  · exact fun ⟨k, h3, h4, h5⟩ => h2 k h3 (by omega) h5
theorem mz_am {F S T : Nat → Int32} {n : Nat} {J : Int} {v : Int32} : mz_as F S T n J (-1 : Int32).toInt v = mz_as F S T n J (-1) v := by rw [show (-1 : Int32).toInt = -1 by decide]
theorem mz_liC {F S T : Nat → Int32} {n : Nat} {J : Int} {s r : Int32} (h : s = mz_ls (fun e => mz_ex (mz_aa F S T n J e)) r.toNatClampNeg) (g : 1 ≤ r.toInt → ¬ mz_as F S T n J (-1) 0) (x : mz_as F S T n J (-1) 0) (h0 : 0 ≤ r.toInt) : mz_li F S T n J s := by
  have a := ms_clv h0
  have q : ¬ 1 ≤ r.toInt := fun w => g w x
  rw [show r.toNatClampNeg = 0 by omega] at h
  exact Or.inl ⟨x, h⟩
theorem mz_liD {F S T : Nat → Int32} {J : Int} {s r N : Int32} (h : s = mz_ls (fun e => mz_ex (mz_aa F S T N.toNatClampNeg J e)) r.toNatClampNeg) (g : 1 ≤ r.toInt → ¬ mz_as F S T N.toNatClampNeg J (-1) 0) (c : N ≤ r) (k : r.toInt ≤ N.toInt) (h0 : 0 ≤ r.toInt) : mz_li F S T N.toNatClampNeg J s := by
  by_cases x : mz_as F S T N.toNatClampNeg J (-1) 0
  · exact mz_liC h g x h0
  · exact Or.inr ⟨x, mz_lsx h c k⟩
theorem mz_lsr {Q : Nat → Prop} {s s' r r' : Int32} (h : s = mz_ls Q r.toNatClampNeg) (x : ¬ Q r.toNatClampNeg) (es : s' = s ||| 0) (er : r'.toInt = r.toInt + 1) (h0 : 0 ≤ r.toInt) : s' = mz_ls Q r'.toNatClampNeg := by
  rw [es, Int32.or_zero]
  exact mz_lsn h x er h0
/-! the reference's fits: from 99 down -/
def mz_cd (A : Nat → Prop) (f n : Int32) : Prop := n.toInt + (mz_cn A f.toNatClampNeg : Int) = (mz_cn A 99 : Int)
theorem mz_cd0 {A : Nat → Prop} : mz_cd A 99 0 := by
  unfold mz_cd
  rw [show (99 : Int32).toNatClampNeg = 99 by decide, show (0 : Int32).toInt = 0 by decide, Int.zero_add]
theorem mz_cdb {A : Nat → Prop} {f n : Int32} (h : mz_cd A f n) (h0 : 0 ≤ f.toInt) (h9 : f.toInt ≤ 99) : 0 ≤ n.toInt ∧ n.toInt ≤ 99 := by
  unfold mz_cd at h
  have a := ms_clv h0
  have p := mz_cnmo A f.toNatClampNeg (99 - f.toNatClampNeg)
  rw [show f.toNatClampNeg + (99 - f.toNatClampNeg) = 99 by omega] at p
  have q := mz_cnle A 99
  omega
theorem mz_dn {f f' : Int32} (e : f'.toInt = f.toInt + -1) (h : 1 ≤ f.toInt) : f.toNatClampNeg = f'.toNatClampNeg + 1 := by
  have a := ms_clv (x := f) (by omega)
  have b := ms_clv (x := f') (by omega)
  omega
theorem mz_dnl {f f' : Int32} (e : f'.toInt = f.toInt + -1) (h : 1 ≤ f.toInt) : f'.toNatClampNeg < f.toNatClampNeg := by
  have a := mz_dn e h
  omega
theorem mz_cdY {A : Nat → Prop} {f f' n n' : Int32} (h : mz_cd A f n) (x : A f.toNatClampNeg) (e : f'.toInt = f.toInt + -1) (en : n'.toInt = n.toInt + 1) (h1 : 1 ≤ f.toInt) : mz_cd A f' n' := by
  unfold mz_cd at h ⊢
  rw [mz_dn e h1] at h x
  rw [mz_cnY x] at h
  omega
theorem mz_cdN {A : Nat → Prop} {f f' n n' : Int32} (h : mz_cd A f n) (x : ¬ A f.toNatClampNeg) (e : f'.toInt = f.toInt + -1) (en : n'.toInt = n.toInt + 0) (h1 : 1 ≤ f.toInt) : mz_cd A f' n' := by
  unfold mz_cd at h ⊢
  rw [mz_dn e h1] at h x
  rw [mz_cnN x] at h
  omega
theorem mz_cdx {A : Nat → Prop} {f n : Int32} (h : mz_cd A f n) (g : f.toInt ≤ 0) : n.toInt = (mz_cn A 99 : Int) := by
  unfold mz_cd at h
  rw [show f.toNatClampNeg = 0 by rw [Int32.toNatClampNeg]; omega] at h
  have e : mz_cn A 0 = 0 := rfl
  rw [e] at h
  omega
def mz_ld (A : Nat → Prop) (f v : Int32) : Prop := (∃ g : Nat, f.toInt < (g : Int) ∧ g ≤ 99 ∧ A g ∧ (∀ k : Nat, f.toInt < (k : Int) → k < g → ¬ A k) ∧ v = nI g) ∨ ((∀ k : Nat, f.toInt < (k : Int) → k ≤ 99 → ¬ A k) ∧ v = -1)
theorem mz_ld0 {A : Nat → Prop} : mz_ld A 99 (-1) := Or.inr ⟨fun k h1 h2 => absurd h1 (by rw [show (99 : Int32).toInt = 99 by decide]; omega), rfl⟩
theorem mz_ldY {A : Nat → Prop} {f f' : Int32} (x : A f.toNatClampNeg) (e : f'.toInt = f.toInt + -1) (h1 : 1 ≤ f.toInt) (h9 : f.toInt ≤ 99) : mz_ld A f' f := by
  have a := ms_clv (x := f) (by omega)
  exact Or.inl ⟨f.toNatClampNeg, by omega, by omega, x, fun k h2 h3 => absurd h3 (by omega), (mz_rn (by omega)).symm⟩
theorem mz_ldN {A : Nat → Prop} {f f' v : Int32} (h : mz_ld A f v) (x : ¬ A f.toNatClampNeg) (e : f'.toInt = f.toInt + -1) (h1 : 1 ≤ f.toInt) : mz_ld A f' v := by
  have a := ms_clv (x := f) (by omega)
  rcases h with ⟨g, h2, h3, h4, h5, h6⟩ | ⟨h2, h3⟩
  · refine Or.inl ⟨g, by omega, h3, h4, fun k h7 h8 => ?_, h6⟩
    by_cases q : k = f.toNatClampNeg
    · rw [q]; exact x
    · exact h5 k (by omega) h8
  · refine Or.inr ⟨fun k h7 h8 => ?_, h3⟩
    by_cases q : k = f.toNatClampNeg
    · rw [q]; exact x
    · exact h2 k (by omega) h8
theorem mz_ldx {A : Nat → Prop} {f v : Int32} (h : mz_ld A f v) (g0 : 0 ≤ f.toInt) (g : f.toInt ≤ 0) : mz_lf A v := by
  rcases h with ⟨k, h2, h3, h4, h5, h6⟩ | ⟨h2, h3⟩
  · exact Or.inl ⟨k, by omega, h3, h4, fun i h7 h8 => h5 i (by omega) (by omega), h6⟩
  · exact Or.inr ⟨fun i h7 h8 => h2 i (by omega) (by omega), h3⟩
theorem mz_n01 {b : Int32} (h : ¬ ((0 : Int64).toInt ≤ (b.toInt64).toInt ∧ (b.toInt64).toInt ≤ (1 : Int64).toInt)) : ¬ (0 ≤ b.toInt ∧ b.toInt ≤ 1) := by
  rw [show (0 : Int64).toInt = 0 by decide, show (1 : Int64).toInt = 1 by decide, Int32.toInt_toInt64] at h
  exact h
theorem mz_n02 {b : Int32} (h : ¬ b = 0) (g : ¬ b = 1) : ¬ (0 ≤ b.toInt ∧ b.toInt ≤ 1) := fun q => by
  have p : ¬ b.toInt = 0 := fun e => h (Int32.toInt_inj.mp (e.trans (by decide)))
  have r : ¬ b.toInt = 1 := fun e => g (Int32.toInt_inj.mp (e.trans (by decide)))
  omega
theorem mz_fq3 {Rd a b r : Int32} {A : Nat → Prop} (h : 0 ≤ a.toInt ∧ a.toInt < Rd.toInt) (l : 0 ≤ b.toInt) (u : b.toInt ≤ 0) (e : r.toInt = (mz_cn A 99 : Int)) : mz_fq Rd a b r A := Or.inr ⟨h, Or.inr ⟨⟨l, by omega⟩, Or.inl ⟨by omega, e⟩⟩⟩
theorem mz_fq4 {Rd a b r : Int32} {A : Nat → Prop} (h : 0 ≤ a.toInt ∧ a.toInt < Rd.toInt) (l : 1 ≤ b.toInt) (u : b.toInt ≤ 1) (e : mz_lf A r) : mz_fq Rd a b r A := Or.inr ⟨h, Or.inr ⟨⟨by omega, u⟩, Or.inr ⟨by omega, e⟩⟩⟩
/-! the two sides -/
theorem mz_asc {F S T F' S' T' : Nat → Int32} {n : Nat} {J : Int} (hF : ∀ e : Nat, e < n → F e = F' e) (hS : ∀ k : Nat, (k : Int) < J → S k = S' k ∧ T k = T' k) : mz_as F S T n J = mz_as F' S' T' n J := by
  funext r v
  apply propext
  have e : ∀ k : Nat, mz_sm (mz_gv F r v) (S' k) n = mz_sm (mz_gv F' r v) (S' k) n := fun k => mz_smg n (fun i hi => by
    show (if (i : Int) = r then v else F i) = (if (i : Int) = r then v else F' i)
    rw [hF i hi])
  constructor
  · intro h k hk
    rw [← (hS k hk).2, ← e k, ← (hS k hk).1]
    exact h k hk
  · intro h k hk
    rw [(hS k hk).2, (hS k hk).1, e k]
    exact h k hk
theorem mz_lirel {F S T F' S' T' : Nat → Int32} {Rd Q J J' r r' : Int32} (hR : Rd = Q) (hJ : J = J') (h0 : 0 ≤ Rd.toInt) (hF : ∀ e : Nat, (e : Int) < Rd.toInt → F e = F' e) (hS : ∀ k : Nat, (k : Int) < J.toInt → S k = S' k ∧ T k = T' k) (h : mz_li F S T Rd.toNatClampNeg J.toInt r) (g : mz_li F' S' T' Q.toNatClampNeg J'.toInt r') : r = r' := by
  subst hR hJ
  have a := ms_clv h0
  have e := mz_asc (n := Rd.toNatClampNeg) (fun e he => hF e (by omega)) hS
  unfold mz_li mz_aa at h g
  rw [e] at h
  rcases h with ⟨h1, h2⟩ | ⟨h1, h2⟩ <;> rcases g with ⟨g1, g2⟩ | ⟨g1, g2⟩
  · rw [h2, g2]
  · exact absurd h1 g1
  · exact absurd g1 h1
  · rw [h2, g2]
theorem mz_fqrel {F S T F' S' T' : Nat → Int32} {Rd Q J J' a b r r' : Int32} (hR : Rd = Q) (hJ : J = J') (h0 : 0 ≤ Rd.toInt) (hF : ∀ e : Nat, (e : Int) < Rd.toInt → F e = F' e) (hS : ∀ k : Nat, (k : Int) < J.toInt → S k = S' k ∧ T k = T' k) (h : mz_fq Rd a b r (mz_aa F S T Rd.toNatClampNeg J.toInt a.toNatClampNeg)) (g : mz_fq Q a b r' (mz_aa F' S' T' Q.toNatClampNeg J'.toInt a.toNatClampNeg)) : r = r' := by
  subst hR hJ
  have p := ms_clv h0
  have e := mz_asc (n := Rd.toNatClampNeg) (fun e he => hF e (by omega)) hS
  have e2 : mz_aa F S T Rd.toNatClampNeg J.toInt a.toNatClampNeg = mz_aa F' S' T' Rd.toNatClampNeg J.toInt a.toNatClampNeg := by
    funext f
    unfold mz_aa
    rw [e]
  rw [e2] at h
  exact mz_fqd h g
/-! the rows of journeys on both sides -/
def mz_jr (S T R : Nat → Int32) (J : Int32) : Prop := ∀ k : Nat, (k : Int) < J.toInt → S k = mz_ev R k ∧ T k = mz_od R k
theorem mz_jr0 {S T R : Nat → Int32} {J : Int32} (h : J = 0) : mz_jr S T R J := fun k hk => absurd hk (by
  rw [h, show (0 : Int32).toInt = 0 by decide]
  omega)
theorem mz_jrc {S T R S' T' R' : Nat → Int32} {J J' : Int32} (h : mz_jr S T R J) (a : S' = S) (b : T' = T) (c : R' = R) (d : J' = J) : mz_jr S' T' R' J' := by
  rw [a, b, c, d]
  exact h
theorem mz_jrj {S T R S' T' R' : Nat → Int32} {Rd Q x b e e2 r y r' y' : Int32} (hR : Rd = Q) (he : e = e2) (h0 : 0 ≤ e.toInt) (j : mz_jr S T R e) (h : mz_jn Rd x b e r y (S' = upd S e.toNatClampNeg x ∧ T' = upd T e.toNatClampNeg b) (S' = S ∧ T' = T)) (g : mz_jn Q x b e2 r' y' (R' = upd (upd R (2 * e2.toNatClampNeg) x) (2 * e2.toNatClampNeg + 1) b) (R' = R)) : mz_jr S' T' R' y := by
  subst hR he
  have a := ms_clv h0
  rcases (mz_jnd h g).2.2 with ⟨⟨p1, p2⟩, p3, p4, p5⟩ | ⟨⟨q1, q2⟩, q3, q4⟩
  · intro k hk
    by_cases c : k = e.toNatClampNeg
    · constructor
      · rw [p1, p3, mz_up, if_pos c]
        show x = upd (upd R (2 * e.toNatClampNeg) x) (2 * e.toNatClampNeg + 1) b (2 * k)
        rw [mz_up, if_neg (by omega), mz_up, if_pos (by omega)]
      · rw [p2, p3, mz_up, if_pos c]
        show b = upd (upd R (2 * e.toNatClampNeg) x) (2 * e.toNatClampNeg + 1) b (2 * k + 1)
        rw [mz_up, if_pos (by omega)]
    · have w := j k (by omega)
      constructor
      · rw [p1, p3, mz_up, if_neg c]
        show S k = upd (upd R (2 * e.toNatClampNeg) x) (2 * e.toNatClampNeg + 1) b (2 * k)
        rw [mz_up, if_neg (by omega), mz_up, if_neg (by omega)]
        exact w.1
      · rw [p2, p3, mz_up, if_neg c]
        show T k = upd (upd R (2 * e.toNatClampNeg) x) (2 * e.toNatClampNeg + 1) b (2 * k + 1)
        rw [mz_up, if_neg (by omega), mz_up, if_neg (by omega)]
        exact w.2
  · exact mz_jrc j q1 q2 q3 q4
