/-! least ways by turns over the roads: after as many turns as there are towns nothing gets less -/
def bf_1 (a b c : Nat) (f : Nat → Nat) : Nat → Nat := fun t => if t = a then min (f a) (f b + c) else f t
def bf_x (e : Nat × Nat × Nat) (f : Nat → Nat) : Nat → Nat := bf_1 e.2.1 e.1 e.2.2 (bf_1 e.1 e.2.1 e.2.2 f)
def bf_t (ed : Nat → Nat × Nat × Nat) : Nat → (Nat → Nat) → Nat → Nat
  | 0, f => f
  | r + 1, f => bf_x (ed r) (bf_t ed r f)
def bf_k (ed : Nat → Nat × Nat × Nat) (m : Nat) : Nat → (Nat → Nat) → Nat → Nat
  | 0, f => f
  | k + 1, f => bf_t ed m (bf_k ed m k f)
theorem bf_1at (a b c : Nat) (f : Nat → Nat) : bf_1 a b c f a = min (f a) (f b + c) := if_pos rfl
theorem bf_1le (a b c : Nat) (f : Nat → Nat) (t : Nat) : bf_1 a b c f t ≤ f t := by
  unfold bf_1
  split
  · rename_i h
    rw [h]
    exact Nat.min_le_left _ _
  · exact Nat.le_refl _
theorem bf_xle (e : Nat × Nat × Nat) (f : Nat → Nat) (t : Nat) : bf_x e f t ≤ f t := Nat.le_trans (bf_1le _ _ _ _ t) (bf_1le _ _ _ _ t)
theorem bf_tle (ed : Nat → Nat × Nat × Nat) (f : Nat → Nat) (t : Nat) : ∀ r : Nat, bf_t ed r f t ≤ f t
  | 0 => Nat.le_refl _
  | r + 1 => Nat.le_trans (bf_xle _ _ t) (bf_tle ed f t r)
theorem bf_tmono (ed : Nat → Nat × Nat × Nat) (f : Nat → Nat) (t r : Nat) : ∀ j : Nat, bf_t ed (r + j) f t ≤ bf_t ed r f t
  | 0 => Nat.le_refl _
  | j + 1 => Nat.le_trans (bf_xle _ _ t) (bf_tmono ed f t r j)
theorem bf_kle (ed : Nat → Nat × Nat × Nat) (m : Nat) (f : Nat → Nat) (t k : Nat) : ∀ j : Nat, bf_k ed m (k + j) f t ≤ bf_k ed m k f t
  | 0 => Nat.le_refl _
  | j + 1 => Nat.le_trans (bf_tle ed _ t m) (bf_kle ed m f t k j)
theorem bf_1lo {a b c : Nat} {f d : Nat → Nat} (hd : d a ≤ d b + c) (h : ∀ t, d t ≤ f t) (t : Nat) : d t ≤ bf_1 a b c f t := by
  unfold bf_1
  split
  · rename_i e
    rw [e]
    have h1 := h a
    have h2 := h b
    omega
  · exact h t
def bf_F (ed : Nat → Nat × Nat × Nat) (m : Nat) (d : Nat → Nat) : Prop := ∀ r, r < m → d (ed r).1 ≤ d (ed r).2.1 + (ed r).2.2 ∧ d (ed r).2.1 ≤ d (ed r).1 + (ed r).2.2
theorem bf_tlo {ed : Nat → Nat × Nat × Nat} {m : Nat} {f d : Nat → Nat} (hd : bf_F ed m d) (h : ∀ t, d t ≤ f t) : ∀ r, r ≤ m → ∀ t, d t ≤ bf_t ed r f t
  | 0, _, t => h t
  | r + 1, hr, t => bf_1lo (hd r hr).2 (bf_1lo (hd r hr).1 (bf_tlo hd h r (Nat.le_of_lt hr))) t
theorem bf_klo {ed : Nat → Nat × Nat × Nat} {m : Nat} {f d : Nat → Nat} (hd : bf_F ed m d) (h : ∀ t, d t ≤ f t) : ∀ k, ∀ t, d t ≤ bf_k ed m k f t
  | 0, t => h t
  | k + 1, t => bf_tlo hd (bf_klo hd h k) m (Nat.le_refl _) t
theorem bf_fix {ed : Nat → Nat × Nat × Nat} {m : Nat} {d : Nat → Nat} (h : ∀ t, bf_t ed m d t = d t) : bf_F ed m d := by
  intro r hr
  have hk : ∀ j, j ≤ m → bf_t ed j d = d := fun j hj => funext fun t => Nat.le_antisymm (bf_tle ed d t j) (by
    have h1 := bf_tmono ed d t j (m - j)
    rw [show j + (m - j) = m by omega, h] at h1
    exact h1)
  have h1 := hk r (Nat.le_of_lt hr)
  have h2 : bf_x (ed r) d = d := by
    have h3 := hk (r + 1) hr
    rw [bf_t, h1] at h3
    exact h3
  have h3 : bf_1 (ed r).1 (ed r).2.1 (ed r).2.2 d = d := funext fun t => Nat.le_antisymm (bf_1le _ _ _ _ t) (by
    have h4 := bf_1le (ed r).2.1 (ed r).1 (ed r).2.2 (bf_1 (ed r).1 (ed r).2.1 (ed r).2.2 d) t
    have h5 : bf_1 (ed r).2.1 (ed r).1 (ed r).2.2 (bf_1 (ed r).1 (ed r).2.1 (ed r).2.2 d) t = d t := congrFun h2 t
    rw [h5] at h4
    exact h4)
  constructor
  · have h4 := congrFun h3 (ed r).1
    unfold bf_1 at h4
    rw [if_pos rfl] at h4
    omega
  · have h4 : bf_1 (ed r).2.1 (ed r).1 (ed r).2.2 (bf_1 (ed r).1 (ed r).2.1 (ed r).2.2 d) (ed r).2.1 = d (ed r).2.1 := congrFun h2 (ed r).2.1
    rw [h3] at h4
    unfold bf_1 at h4
    rw [if_pos rfl] at h4
    omega
/-- what is less than far comes from a neighbour -/
def bf_S (ed : Nat → Nat × Nat × Nat) (m s F : Nat) (f : Nat → Nat) : Prop := ∀ t, t ≠ s → f t < F → ∃ r, r < m ∧ (((ed r).1 = t ∧ f (ed r).2.1 + (ed r).2.2 ≤ f t) ∨ ((ed r).2.1 = t ∧ f (ed r).1 + (ed r).2.2 ≤ f t))
theorem bf_S1 {ed : Nat → Nat × Nat × Nat} {m s F : Nat} {f : Nat → Nat} {a b c r : Nat} (hr : r < m) (hc : 1 ≤ c) (he : ((ed r).1 = a ∧ (ed r).2.1 = b) ∨ ((ed r).2.1 = a ∧ (ed r).1 = b)) (hec : (ed r).2.2 = c) (h : bf_S ed m s F f) : bf_S ed m s F (bf_1 a b c f) := by
  intro t ht hF
  have hle := bf_1le a b c f
  rcases Nat.lt_or_ge (bf_1 a b c f t) (f t) with hlt | hge
  · have hta : t = a := by
      apply Classical.byContradiction
      intro hn
      have : bf_1 a b c f t = f t := by unfold bf_1; rw [if_neg hn]
      omega
    have hv : bf_1 a b c f t = min (f a) (f b + c) := by unfold bf_1; rw [if_pos hta]
    have e0 : f t = f a := congrArg f hta
    have hb := hle b
    refine ⟨r, hr, ?_⟩
    rcases he with ⟨e1, e2⟩ | ⟨e1, e2⟩
    · refine Or.inl ⟨e1.trans hta.symm, ?_⟩
      rw [e2, hec]
      omega
    · refine Or.inr ⟨e1.trans hta.symm, ?_⟩
      rw [e2, hec]
      omega
  · have hch : bf_1 a b c f t = f t := Nat.le_antisymm (hle t) hge
    obtain ⟨r', h1, h2⟩ := h t ht (by omega)
    refine ⟨r', h1, ?_⟩
    rcases h2 with ⟨e, h2⟩ | ⟨e, h2⟩
    · have h3 := hle (ed r').2.1
      exact Or.inl ⟨e, by omega⟩
    · have h3 := hle (ed r').1
      exact Or.inr ⟨e, by omega⟩
theorem bf_St {ed : Nat → Nat × Nat × Nat} {m s F : Nat} {f : Nat → Nat} (hE : ∀ r, r < m → (ed r).1 < 6 ∧ (ed r).2.1 < 6 ∧ 1 ≤ (ed r).2.2) (h : bf_S ed m s F f) : ∀ r, r ≤ m → bf_S ed m s F (bf_t ed r f)
  | 0, _ => h
  | r + 1, hr => bf_S1 hr (hE r hr).2.2 (Or.inr ⟨rfl, rfl⟩) rfl (bf_S1 hr (hE r hr).2.2 (Or.inl ⟨rfl, rfl⟩) rfl (bf_St hE h r (Nat.le_of_lt hr)))
theorem bf_Sk {ed : Nat → Nat × Nat × Nat} {m s F : Nat} {f : Nat → Nat} (hE : ∀ r, r < m → (ed r).1 < 6 ∧ (ed r).2.1 < 6 ∧ 1 ≤ (ed r).2.2) (h : bf_S ed m s F f) : ∀ k, bf_S ed m s F (bf_k ed m k f)
  | 0 => h
  | k + 1 => bf_St hE (bf_Sk hE h k) m (Nat.le_refl _)
/-- a turn changes nothing outside the six towns -/
theorem bf_tout {ed : Nat → Nat × Nat × Nat} {m : Nat} (hE : ∀ r, r < m → (ed r).1 < 6 ∧ (ed r).2.1 < 6 ∧ 1 ≤ (ed r).2.2) (f : Nat → Nat) (t : Nat) (ht : 6 ≤ t) : ∀ r, r ≤ m → bf_t ed r f t = f t
  | 0, _ => rfl
  | r + 1, hr => by
    have h1 := hE r hr
    have h2 := bf_tout hE f t ht r (Nat.le_of_lt hr)
    show bf_1 _ _ _ (bf_1 _ _ _ (bf_t ed r f)) t = f t
    unfold bf_1
    rw [if_neg (by omega), if_neg (by omega)]
    exact h2
theorem bf_lim {ed : Nat → Nat × Nat × Nat} {m : Nat} (hE : ∀ r, r < m → (ed r).1 < 6 ∧ (ed r).2.1 < 6 ∧ 1 ≤ (ed r).2.2) (f : Nat → Nat) : ∀ (n k : Nat), bf_k ed m k f 0 + bf_k ed m k f 1 + bf_k ed m k f 2 + bf_k ed m k f 3 + bf_k ed m k f 4 + bf_k ed m k f 5 < n → ∃ K, ∀ t, bf_t ed m (bf_k ed m K f) t = bf_k ed m K f t
  | 0, _, h => absurd h (Nat.not_lt_zero _)
  | n + 1, k, h => by
    have hle := fun t => bf_tle ed (bf_k ed m k f) t m
    by_cases hc : bf_t ed m (bf_k ed m k f) 0 = bf_k ed m k f 0 ∧ bf_t ed m (bf_k ed m k f) 1 = bf_k ed m k f 1 ∧ bf_t ed m (bf_k ed m k f) 2 = bf_k ed m k f 2 ∧ bf_t ed m (bf_k ed m k f) 3 = bf_k ed m k f 3 ∧ bf_t ed m (bf_k ed m k f) 4 = bf_k ed m k f 4 ∧ bf_t ed m (bf_k ed m k f) 5 = bf_k ed m k f 5
    · refine ⟨k, fun t => ?_⟩
      obtain ⟨c0, c1, c2, c3, c4, c5⟩ := hc
      by_cases ht : 6 ≤ t
      · exact bf_tout hE _ t ht m (Nat.le_refl _)
      · have : t = 0 ∨ t = 1 ∨ t = 2 ∨ t = 3 ∨ t = 4 ∨ t = 5 := by omega
        rcases this with rfl | rfl | rfl | rfl | rfl | rfl <;> assumption
    · refine bf_lim hE f n (k + 1) ?_
      have l0 := hle 0
      have l1 := hle 1
      have l2 := hle 2
      have l3 := hle 3
      have l4 := hle 4
      have l5 := hle 5
      show bf_t ed m (bf_k ed m k f) 0 + bf_t ed m (bf_k ed m k f) 1 + bf_t ed m (bf_k ed m k f) 2 + bf_t ed m (bf_k ed m k f) 3 + bf_t ed m (bf_k ed m k f) 4 + bf_t ed m (bf_k ed m k f) 5 < n
      omega
/-- the first of what isn't settled -/
theorem bf_min (d g : Nat → Nat) : ∀ (n v : Nat), d v < n → v < 6 → ¬ g v = d v → ∃ v', v' < 6 ∧ ¬ g v' = d v' ∧ ∀ u, u < 6 → d u < d v' → g u = d u
  | 0, _, h, _, _ => absurd h (Nat.not_lt_zero _)
  | n + 1, v, h, hv, hg => by
    by_cases hc : ∃ u, u < 6 ∧ d u < d v ∧ ¬ g u = d u
    · obtain ⟨u, h1, h2, h3⟩ := hc
      exact bf_min d g n u (by omega) h1 h3
    · refine ⟨v, hv, hg, fun u h1 h2 => ?_⟩
      apply Classical.byContradiction
      intro h3
      exact hc ⟨u, h1, h2, h3⟩
def bf_i (d g : Nat → Nat) (t : Nat) : Nat := if g t = d t then 1 else 0
def bf_c (d g : Nat → Nat) : Nat := bf_i d g 0 + bf_i d g 1 + bf_i d g 2 + bf_i d g 3 + bf_i d g 4 + bf_i d g 5
theorem bf_i1 (d g : Nat → Nat) (t : Nat) : bf_i d g t ≤ 1 := by unfold bf_i; split <;> omega
theorem bf_im {d g g' : Nat → Nat} {t : Nat} (h1 : d t ≤ g' t) (h2 : g' t ≤ g t) : bf_i d g t ≤ bf_i d g' t := by
  unfold bf_i
  split
  · rw [if_pos (by omega)]
    exact Nat.le_refl _
  · exact Nat.zero_le _
theorem bf_all {d g : Nat → Nat} (h : 6 ≤ bf_c d g) : ∀ t, t < 6 → g t = d t := by
  intro t ht
  have h0 := bf_i1 d g 0
  have h1 := bf_i1 d g 1
  have h2 := bf_i1 d g 2
  have h3 := bf_i1 d g 3
  have h4 := bf_i1 d g 4
  have h5 := bf_i1 d g 5
  unfold bf_c at h
  apply Classical.byContradiction
  intro hn
  have hz : bf_i d g t = 0 := by unfold bf_i; rw [if_neg hn]
  have : t = 0 ∨ t = 1 ∨ t = 2 ∨ t = 3 ∨ t = 4 ∨ t = 5 := by omega
  rcases this with rfl | rfl | rfl | rfl | rfl | rfl <;> omega
/-- relaxing a road settles its end -/
theorem bf_hit {ed : Nat → Nat × Nat × Nat} {m : Nat} (g : Nat → Nat) {r : Nat} (hr : r < m) : bf_t ed m g (ed r).1 ≤ g (ed r).2.1 + (ed r).2.2 ∧ bf_t ed m g (ed r).2.1 ≤ g (ed r).1 + (ed r).2.2 := by
  have h1 := bf_tmono ed g (ed r).1 (r + 1) (m - (r + 1))
  have h2 := bf_tmono ed g (ed r).2.1 (r + 1) (m - (r + 1))
  rw [show r + 1 + (m - (r + 1)) = m by omega] at h1 h2
  have h3 := bf_tle ed g (ed r).1 r
  have h4 := bf_tle ed g (ed r).2.1 r
  have h5 : bf_1 (ed r).1 (ed r).2.1 (ed r).2.2 (bf_t ed r g) (ed r).1 = min (bf_t ed r g (ed r).1) (bf_t ed r g (ed r).2.1 + (ed r).2.2) := by unfold bf_1; rw [if_pos rfl]
  have h6 : bf_t ed (r + 1) g (ed r).1 ≤ bf_1 (ed r).1 (ed r).2.1 (ed r).2.2 (bf_t ed r g) (ed r).1 := bf_1le _ _ _ _ _
  have h7 : bf_t ed (r + 1) g (ed r).2.1 = min (bf_1 (ed r).1 (ed r).2.1 (ed r).2.2 (bf_t ed r g) (ed r).2.1) (bf_1 (ed r).1 (ed r).2.1 (ed r).2.2 (bf_t ed r g) (ed r).1 + (ed r).2.2) := by
    exact bf_1at _ _ _ _
  constructor <;> omega
theorem bf_step {ed : Nat → Nat × Nat × Nat} {m s F : Nat} {d g : Nat → Nat} (hE : ∀ r, r < m → (ed r).1 < 6 ∧ (ed r).2.1 < 6 ∧ 1 ≤ (ed r).2.2) (hd : bf_F ed m d) (hS : bf_S ed m s F d) (hle : ∀ t, d t ≤ g t) (hgF : ∀ t, g t ≤ F) (hgs : g s = d s) (n : Nat) (hn : n ≤ bf_c d g) (h6 : n < 6) : n + 1 ≤ bf_c d (bf_t ed m g) := by
  have hl := fun t => bf_tlo hd hle m (Nat.le_refl _) t
  have hu := fun t => bf_tle ed g t m
  have i0 := bf_im (hl 0) (hu 0)
  have i1 := bf_im (hl 1) (hu 1)
  have i2 := bf_im (hl 2) (hu 2)
  have i3 := bf_im (hl 3) (hu 3)
  have i4 := bf_im (hl 4) (hu 4)
  have i5 := bf_im (hl 5) (hu 5)
  by_cases hc : 6 ≤ bf_c d g
  · unfold bf_c at hc ⊢
    omega
  · have hex : ∃ v, v < 6 ∧ ¬ g v = d v := by
      apply Classical.byContradiction
      intro hno
      have ha : ∀ t, t < 6 → bf_i d g t = 1 := fun t ht => by
        unfold bf_i
        rw [if_pos]
        apply Classical.byContradiction
        intro h
        exact hno ⟨t, ht, h⟩
      unfold bf_c at hc
      rw [ha 0 (by decide), ha 1 (by decide), ha 2 (by decide), ha 3 (by decide), ha 4 (by decide), ha 5 (by decide)] at hc
      omega
    obtain ⟨v0, hv0, hg0⟩ := hex
    obtain ⟨v, hv, hg, hmin⟩ := bf_min d g (d v0 + 1) v0 (Nat.lt_succ_self _) hv0 hg0
    have hvs : v ≠ s := fun e => hg (by rw [e]; exact hgs)
    have h1 := hle v
    have h2 := hgF v
    obtain ⟨r, hr, hor⟩ := hS v hvs (by omega)
    have hh := bf_hit (ed := ed) g hr
    have hset : bf_t ed m g v = d v := by
      have h3 := hl v
      rcases hor with ⟨e, h4⟩ | ⟨e, h4⟩
      · have h5 := hmin (ed r).2.1 (hE r hr).2.1 (by have := (hE r hr).2.2; omega)
        have h6 := hh.1
        rw [e, h5] at h6
        omega
      · have h5 := hmin (ed r).1 (hE r hr).1 (by have := (hE r hr).2.2; omega)
        have h6 := hh.2
        rw [e, h5] at h6
        omega
    have z0 : bf_i d g v = 0 := by unfold bf_i; rw [if_neg hg]
    have z1 : bf_i d (bf_t ed m g) v = 1 := by unfold bf_i; rw [if_pos hset]
    unfold bf_c at hn ⊢
    have : v = 0 ∨ v = 1 ∨ v = 2 ∨ v = 3 ∨ v = 4 ∨ v = 5 := by omega
    rcases this with rfl | rfl | rfl | rfl | rfl | rfl <;> omega
theorem bf_main {ed : Nat → Nat × Nat × Nat} {m s F : Nat} {f : Nat → Nat} (hE : ∀ r, r < m → (ed r).1 < 6 ∧ (ed r).2.1 < 6 ∧ 1 ≤ (ed r).2.2) (hs : s < 6) (h0 : f s = 0) (hF : ∀ t, t ≠ s → f t = F) : ∀ t, t < 6 → t ≠ s → bf_k ed m 6 f t < F → ∃ r, r < m ∧ (((ed r).1 = t ∧ bf_k ed m 6 f (ed r).2.1 + (ed r).2.2 = bf_k ed m 6 f t) ∨ ((ed r).2.1 = t ∧ bf_k ed m 6 f (ed r).1 + (ed r).2.2 = bf_k ed m 6 f t)) := by
  obtain ⟨K, hK⟩ := bf_lim hE f _ 0 (Nat.lt_succ_self _)
  have hd : bf_F ed m (bf_k ed m K f) := bf_fix hK
  have hS0 : bf_S ed m s F f := fun t ht hl => absurd hl (by rw [hF t ht]; exact Nat.lt_irrefl _)
  have hS := bf_Sk hE hS0 K
  have hdf : ∀ t, bf_k ed m K f t ≤ f t := fun t => by
    have := bf_kle ed m f t 0 K
    rw [Nat.zero_add] at this
    exact this
  have hlo := fun k t => bf_klo hd hdf k t
  have hfF : ∀ t, f t ≤ F := fun t => by
    by_cases ht : t = s
    · rw [ht, h0]; exact Nat.zero_le _
    · rw [hF t ht]; exact Nat.le_refl _
  have hup : ∀ k t, bf_k ed m k f t ≤ f t := fun k t => by
    have := bf_kle ed m f t 0 k
    rw [Nat.zero_add] at this
    exact this
  have hgs : ∀ k, bf_k ed m k f s = bf_k ed m K f s := fun k => by
    have h1 := hup k s
    have h2 := hdf s
    omega
  have hcnt : ∀ k, k ≤ 5 → k + 1 ≤ bf_c (bf_k ed m K f) (bf_k ed m k f) := by
    intro k
    induction k with
    | zero =>
      intro _
      have z1 : bf_i (bf_k ed m K f) (bf_k ed m 0 f) s = 1 := by unfold bf_i; rw [if_pos (hgs 0)]
      unfold bf_c
      have : s = 0 ∨ s = 1 ∨ s = 2 ∨ s = 3 ∨ s = 4 ∨ s = 5 := by omega
      rcases this with rfl | rfl | rfl | rfl | rfl | rfl <;> omega
    | succ k ih =>
      intro hk
      exact bf_step hE hd hS (hlo k) (fun t => Nat.le_trans (hup k t) (hfF t)) (hgs k) (k + 1) (ih (by omega)) (by omega)
  have h5 := bf_all (hcnt 5 (Nat.le_refl _))
  have h6 : ∀ t, t < 6 → bf_k ed m 6 f t = bf_k ed m K f t := fun t ht => by
    have h1 := hlo 6 t
    have h2 : bf_k ed m 6 f t ≤ bf_k ed m 5 f t := bf_kle ed m f t 5 1
    have h3 := h5 t ht
    omega
  intro t ht hts htF
  rw [h6 t ht] at htF ⊢
  obtain ⟨r, hr, hor⟩ := hS t hts htF
  have he := hE r hr
  have hf := hd r hr
  refine ⟨r, hr, ?_⟩
  rw [h6 _ he.1, h6 _ he.2.1]
  rcases hor with ⟨e, h⟩ | ⟨e, h⟩
  · refine Or.inl ⟨e, ?_⟩
    have h7 := hf.1
    rw [e] at h7
    omega
  · refine Or.inr ⟨e, ?_⟩
    have h7 := hf.2
    rw [e] at h7
    omega
/-! the reference's rows -/
def ms_ed (M w : Nat → Int32) (r : Nat) : Nat × Nat × Nat := ((M (5 + r)).toInt.toNat, (M (14 + r)).toInt.toNat, (w r).toInt.toNat)
def ms_rl (f : Nat → Int32) (g : Nat → Nat) : Prop := ∀ t : Nat, t < 6 → (f t).toInt = (g t : Int)
def ms_f0 (s : Int32) : Nat → Nat := fun t => if (t : Int) = s.toInt then 0 else 1000000
/-- the far row behind k turns and r roads -/
def ms_fk (M w : Nat → Int32) (s : Int32) (k r : Nat) : Nat → Nat := bf_t (ms_ed M w) r (bf_k (ms_ed M w) (M 3).toInt.toNat k (ms_f0 s))
def ms_f0p (f : Nat → Int32) (s : Int32) (k : Int) : Prop := ∀ t : Nat, (t : Int) < k → (f t).toInt = (ms_f0 s t : Int)
theorem ms_f0i {f : Nat → Int32} {s k : Int32} (h : k.toInt ≤ 0) : ms_f0p f s k.toInt := fun t ht => absurd ht (by omega)
theorem ms_f0a {f f' : Nat → Int32} {s k k' : Int32} (h : ms_f0p f s k.toInt) (e : f' = upd f k.toNatClampNeg 0) (c : k = s) (ek : k'.toInt = k.toInt + 1) (hk : 0 ≤ k.toInt) : ms_f0p f' s k'.toInt := by
  have h1 := ms_clv hk
  intro t ht
  subst e
  by_cases hc : t = k.toNatClampNeg
  · rw [hc, pk_us, ms_f0, if_pos (by rw [h1, c])]
    decide
  · rw [pk_un hc]
    exact h t (by omega)
theorem ms_f0b {f f' : Nat → Int32} {s k k' : Int32} (h : ms_f0p f s k.toInt) (e : f' = upd f k.toNatClampNeg 1000000) (c : ¬ k = s) (ek : k'.toInt = k.toInt + 1) (hk : 0 ≤ k.toInt) : ms_f0p f' s k'.toInt := by
  have h1 := ms_clv hk
  intro t ht
  subst e
  by_cases hc : t = k.toNatClampNeg
  · rw [hc, pk_us, ms_f0, if_neg (by rw [h1]; exact fun q => c (Int32.toInt_inj.mp q))]
    decide
  · rw [pk_un hc]
    exact h t (by omega)
theorem ms_f0z {f M w : Nat → Int32} {s k : Int32} (h : ms_f0p f s k.toInt) (hk : 6 ≤ k.toInt) : ms_rl f (ms_fk M w s 0 0) := fun t ht => h t (by omega)
theorem ms_mna {z x fa fb m : Int32} (ez : z.toInt = fb.toInt + m.toInt) (c : z < fa) : z.toInt = min fa.toInt (fb.toInt + m.toInt) := by
  have := Int32.lt_iff_toInt_lt.mp c
  omega
theorem ms_mnb {z fa fb m : Int32} (ez : z.toInt = fb.toInt + m.toInt) (c : fa ≤ z) : fa.toInt = min fa.toInt (fb.toInt + m.toInt) := by
  have := Int32.le_iff_toInt_le.mp c
  omega
theorem ms_rl1 {f f' : Nat → Int32} {g : Nat → Nat} {a b m x fa fb : Int32} (h : ms_rl f g) (e : f' = upd f a.toNatClampNeg x) (ea : fa = f a.toNatClampNeg) (eb : fb = f b.toNatClampNeg) (hx : x.toInt = min fa.toInt (fb.toInt + m.toInt)) (ha : 0 ≤ a.toInt ∧ a.toInt ≤ 5) (hb : 0 ≤ b.toInt ∧ b.toInt ≤ 5) (hm : 0 ≤ m.toInt) : ms_rl f' (bf_1 a.toInt.toNat b.toInt.toNat m.toInt.toNat g) := by
  have h1 := ms_clv ha.1
  have h2 := ms_clv hb.1
  have k1 := h a.toNatClampNeg (by omega)
  have k2 := h b.toNatClampNeg (by omega)
  rw [← ea] at k1
  rw [← eb] at k2
  have q1 : a.toInt.toNat = a.toNatClampNeg := by omega
  have q2 : b.toInt.toNat = b.toNatClampNeg := by omega
  intro t ht
  subst e
  unfold bf_1
  rw [q1, q2]
  by_cases hc : t = a.toNatClampNeg
  · rw [if_pos hc, hc, pk_us, hx]
    omega
  · rw [if_neg hc, pk_un hc]
    exact h t ht
theorem ms_rl2 {M w f f1 f2 : Nat → Int32} {s k r a b m x y fa fb ga gb t1 t2 : Int32} (h : ms_rl f (ms_fk M w s k.toNatClampNeg r.toNatClampNeg)) (e1 : f1 = upd f a.toNatClampNeg x) (ea : fa = f a.toNatClampNeg) (eb : fb = f b.toNatClampNeg) (hx : x.toInt = min fa.toInt (fb.toInt + m.toInt)) (e2 : f2 = upd f1 b.toNatClampNeg y) (ga' : ga = f1 a.toNatClampNeg) (gb' : gb = f1 b.toNatClampNeg) (hy : y.toInt = min gb.toInt (ga.toInt + m.toInt)) (ha : 0 ≤ a.toInt ∧ a.toInt ≤ 5) (hb : 0 ≤ b.toInt ∧ b.toInt ≤ 5) (hm : 0 ≤ m.toInt) (Ea : a = M t1.toNatClampNeg) (Et1 : t1.toInt = (5 : Int32).toInt + r.toInt) (Eb : b = M t2.toNatClampNeg) (Et2 : t2.toInt = (14 : Int32).toInt + r.toInt) (Em : m = w r.toNatClampNeg) (hr : 0 ≤ r.toInt) {r' : Int32} (er : r'.toInt = r.toInt + 1) : ms_rl f2 (ms_fk M w s k.toNatClampNeg r'.toNatClampNeg) := by
  have c5 : (5 : Int32).toInt = 5 := by decide
  have c14 : (14 : Int32).toInt = 14 := by decide
  have h1 := ms_clv hr
  have h2 := ms_clv (x := r') (by omega)
  have h3 := ms_clv (x := t1) (by omega)
  have h4 := ms_clv (x := t2) (by omega)
  have s1 := ms_rl1 h e1 ea eb hx ha hb hm
  have s2 := ms_rl1 s1 e2 gb' ga' hy hb ha hm
  have q : ms_fk M w s k.toNatClampNeg r'.toNatClampNeg = bf_x (ms_ed M w r.toNatClampNeg) (ms_fk M w s k.toNatClampNeg r.toNatClampNeg) := by
    rw [show r'.toNatClampNeg = r.toNatClampNeg + 1 by omega]
    rfl
  rw [q, bf_x, ms_ed]
  rw [show 5 + r.toNatClampNeg = t1.toNatClampNeg by omega, show 14 + r.toNatClampNeg = t2.toNatClampNeg by omega, ← Ea, ← Eb, ← Em]
  exact s2
/-- the end of a turn -/
theorem ms_rlt {M w f : Nat → Int32} {s k k' r x : Int32} (h : ms_rl f (ms_fk M w s k.toNatClampNeg r.toNatClampNeg)) (ex : x = M (3 : Int32).toNatClampNeg) (c : x ≤ r) (hr : r.toInt ≤ x.toInt) (ek : k'.toInt = k.toInt + 1) (hk : 0 ≤ k.toInt) : ms_rl f (ms_fk M w s k'.toNatClampNeg (0 : Int32).toNatClampNeg) := by
  have c3 : (3 : Int32).toNatClampNeg = 3 := by decide
  have c0 : (0 : Int32).toNatClampNeg = 0 := by decide
  have h1 := Int32.le_iff_toInt_le.mp c
  have h2 := ms_clv hk
  have h3 := ms_clv (x := k') (by omega)
  rw [c3] at ex
  have q : r.toNatClampNeg = (M 3).toInt.toNat := by rw [← ex, Int32.toNatClampNeg]; omega
  rw [show k'.toNatClampNeg = k.toNatClampNeg + 1 by omega, c0]
  rw [q] at h
  exact h
/-- a road's other end -/
def ms_om (M : Nat → Int32) (r : Nat) (t : Int32) : Int32 := if M (5 + r) = t then M (14 + r) else if M (14 + r) = t then M (5 + r) else -1
/-- from each town that has a way there is a road onward -/
def ms_fx (M w f : Nat → Int32) (b : Int32) : Prop := ∀ t : Int32, 0 ≤ t.toInt → t.toInt ≤ 5 → ¬ t = b → (f t.toNatClampNeg).toInt < 1000000 → ∃ r : Nat, (r : Int) < (M 3).toInt ∧ (0 ≤ (ms_om M r t).toInt ∧ (ms_om M r t).toInt ≤ 5) ∧ (f (ms_om M r t).toNatClampNeg).toInt + (w r).toInt = (f t.toNatClampNeg).toInt
theorem ms_fxI {M w f : Nat → Int32} {b k : Int32} (hM : rg_S M 5 23 0 5) (hn : (M 3).toInt ≤ 9) (hw : ms_pr (M 3) w) (h : ms_rl f (ms_fk M w b k.toNatClampNeg (0 : Int32).toNatClampNeg)) (hb0 : 0 ≤ b.toInt) (hb5 : b.toInt ≤ 5) (hk1 : 6 ≤ k.toInt) (hk2 : k.toInt ≤ 6) : ms_fx M w f b := by
  have c0 : (0 : Int32).toNatClampNeg = 0 := by decide
  have hkk := ms_clv (x := k) (by omega)
  have hbb := ms_clv hb0
  rw [c0, show k.toNatClampNeg = 6 by omega] at h
  have h : ms_rl f (bf_k (ms_ed M w) (M 3).toInt.toNat 6 (ms_f0 b)) := h
  have hE : ∀ r, r < (M 3).toInt.toNat → (ms_ed M w r).1 < 6 ∧ (ms_ed M w r).2.1 < 6 ∧ 1 ≤ (ms_ed M w r).2.2 := fun r hr => by
    have h1 := hM (5 + r) (by omega) (by omega)
    have h2 := hM (14 + r) (by omega) (by omega)
    have h3 := (hw r (by omega)).1
    show (M (5 + r)).toInt.toNat < 6 ∧ (M (14 + r)).toInt.toNat < 6 ∧ 1 ≤ (w r).toInt.toNat
    omega
  have main := bf_main (F := 1000000) hE (s := b.toNatClampNeg) (by omega) (f := ms_f0 b) (by rw [ms_f0, if_pos hbb]) (fun t ht => by rw [ms_f0, if_neg (by omega)])
  intro t ht0 ht5 htb hF
  have htt := ms_clv ht0
  have hr0 := h t.toNatClampNeg (by omega)
  obtain ⟨r, hr, hor⟩ := main t.toNatClampNeg (by omega) (fun q => htb (Int32.toInt_inj.mp (by omega))) (by omega)
  have a1 := hM (5 + r) (by omega) (by omega)
  have a2 := hM (14 + r) (by omega) (by omega)
  have a3 := (hw r (by omega)).1
  have e1 := hE r hr
  have hor : ((M (5 + r)).toInt.toNat = t.toNatClampNeg ∧ bf_k (ms_ed M w) (M 3).toInt.toNat 6 (ms_f0 b) (M (14 + r)).toInt.toNat + (w r).toInt.toNat = bf_k (ms_ed M w) (M 3).toInt.toNat 6 (ms_f0 b) t.toNatClampNeg) ∨ ((M (14 + r)).toInt.toNat = t.toNatClampNeg ∧ bf_k (ms_ed M w) (M 3).toInt.toNat 6 (ms_f0 b) (M (5 + r)).toInt.toNat + (w r).toInt.toNat = bf_k (ms_ed M w) (M 3).toInt.toNat 6 (ms_f0 b) t.toNatClampNeg) := hor
  refine ⟨r, by omega, ?_⟩
  have n1 := ms_clv (x := M (5 + r)) (by omega)
  have n2 := ms_clv (x := M (14 + r)) (by omega)
  have g1 := h (M (5 + r)).toNatClampNeg (by omega)
  have g2 := h (M (14 + r)).toNatClampNeg (by omega)
  have m1 : (M (5 + r)).toInt.toNat = (M (5 + r)).toNatClampNeg := by omega
  have m2 : (M (14 + r)).toInt.toNat = (M (14 + r)).toNatClampNeg := by omega
  rw [m1, m2] at hor
  rcases hor with ⟨e, q⟩ | ⟨e, q⟩
  · have ee : M (5 + r) = t := Int32.toInt_inj.mp (by omega)
    have eo : ms_om M r t = M (14 + r) := by rw [ms_om, if_pos ee]
    rw [eo]
    exact ⟨a2, by omega⟩
  · have ee : M (14 + r) = t := Int32.toInt_inj.mp (by omega)
    have en : ¬ M (5 + r) = t := fun e5 => by
      rw [e5] at q
      omega
    have eo : ms_om M r t = M (5 + r) := by rw [ms_om, if_neg en, if_pos ee]
    rw [eo]
    exact ⟨a1, by omega⟩
def ms_ci (f : Nat → Int32) (x : Int) (t : Nat) : Nat := if (f t).toInt < x then 1 else 0
/-- how many towns are nearer -/
def ms_ct (f : Nat → Int32) (t : Int32) : Nat := ms_ci f (f t.toNatClampNeg).toInt 0 + ms_ci f (f t.toNatClampNeg).toInt 1 + ms_ci f (f t.toNatClampNeg).toInt 2 + ms_ci f (f t.toNatClampNeg).toInt 3 + ms_ci f (f t.toNatClampNeg).toInt 4 + ms_ci f (f t.toNatClampNeg).toInt 5
theorem ms_ci1 (f : Nat → Int32) (x : Int) (t : Nat) : ms_ci f x t ≤ 1 := by unfold ms_ci; split <;> omega
theorem ms_cim {f : Nat → Int32} {x y : Int} (h : x ≤ y) (t : Nat) : ms_ci f x t ≤ ms_ci f y t := by
  unfold ms_ci
  split
  · rw [if_pos (by omega)]
    exact Nat.le_refl _
  · exact Nat.zero_le _
theorem ms_ct5 {f : Nat → Int32} {t : Int32} (h0 : 0 ≤ t.toInt) (h5 : t.toInt ≤ 5) : ms_ct f t ≤ 5 := by
  have z : ms_ci f (f t.toNatClampNeg).toInt t.toNatClampNeg = 0 := by unfold ms_ci; rw [if_neg (Int.lt_irrefl _)]
  have hc := ms_clv h0
  have i0 := ms_ci1 f (f t.toNatClampNeg).toInt 0
  have i1 := ms_ci1 f (f t.toNatClampNeg).toInt 1
  have i2 := ms_ci1 f (f t.toNatClampNeg).toInt 2
  have i3 := ms_ci1 f (f t.toNatClampNeg).toInt 3
  have i4 := ms_ci1 f (f t.toNatClampNeg).toInt 4
  have i5 := ms_ci1 f (f t.toNatClampNeg).toInt 5
  unfold ms_ct
  generalize t.toNatClampNeg = k at *
  have : k = 0 ∨ k = 1 ∨ k = 2 ∨ k = 3 ∨ k = 4 ∨ k = 5 := by omega
  rcases this with rfl | rfl | rfl | rfl | rfl | rfl <;> omega
theorem ms_ctd {f : Nat → Int32} {t o : Int32} (h0 : 0 ≤ o.toInt) (h5 : o.toInt ≤ 5) (hl : (f o.toNatClampNeg).toInt < (f t.toNatClampNeg).toInt) : ms_ct f o < ms_ct f t := by
  have hc := ms_clv h0
  have z0 : ms_ci f (f o.toNatClampNeg).toInt o.toNatClampNeg = 0 := by unfold ms_ci; rw [if_neg (Int.lt_irrefl _)]
  have z1 : ms_ci f (f t.toNatClampNeg).toInt o.toNatClampNeg = 1 := by unfold ms_ci; rw [if_pos hl]
  have i := fun k => ms_cim (f := f) (Int.le_of_lt hl) k
  have i0 := i 0
  have i1 := i 1
  have i2 := i 2
  have i3 := i 3
  have i4 := i 4
  have i5 := i 5
  unfold ms_ct
  generalize o.toNatClampNeg = k at *
  have : k = 0 ∨ k = 1 ∨ k = 2 ∨ k = 3 ∨ k = 4 ∨ k = 5 := by omega
  rcases this with rfl | rfl | rfl | rfl | rfl | rfl <;> omega
