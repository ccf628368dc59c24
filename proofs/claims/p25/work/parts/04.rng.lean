/-! intervals of Int32 numbers, row by row -/
theorem rg_min (x : Int32) : -2147483648 ≤ x.toInt := by have := Int32.le_toInt x; omega
theorem rg_max (x : Int32) : x.toInt ≤ 2147483647 := by have := Int32.toInt_lt x; omega
theorem rg_le {a b c : Int} (h : b ≤ c) (g : decide (a ≤ b) = true) : a ≤ c := Int.le_trans (of_decide_eq_true g) h
theorem rg_ge {a b c : Int} (h : a ≤ b) (g : decide (b ≤ c) = true) : a ≤ c := Int.le_trans h (of_decide_eq_true g)
theorem rg_fit {z : Int} (h1 : -2147483648 ≤ z) (h2 : z ≤ 2147483647) : z.bmod (2 ^ 32) = z := by
  rw [Int.bmod_def]
  split <;> omega
theorem rg_add {x y : Int32} (h1 : -2147483648 ≤ x.toInt + y.toInt) (h2 : x.toInt + y.toInt ≤ 2147483647) : (x + y).toInt = x.toInt + y.toInt := by rw [Int32.toInt_add]; exact rg_fit h1 h2
theorem rg_sub {x y : Int32} (h1 : -2147483648 ≤ x.toInt - y.toInt) (h2 : x.toInt - y.toInt ≤ 2147483647) : (x - y).toInt = x.toInt - y.toInt := by rw [Int32.toInt_sub]; exact rg_fit h1 h2
theorem rg_mul {x y : Int32} (h1 : -2147483648 ≤ x.toInt * y.toInt) (h2 : x.toInt * y.toInt ≤ 2147483647) : (x * y).toInt = x.toInt * y.toInt := by rw [Int32.toInt_mul]; exact rg_fit h1 h2
theorem rg_neg {x : Int32} (h : -2147483647 ≤ x.toInt) : (-x).toInt = -x.toInt := by
  rw [Int32.toInt_neg]
  have h2 := rg_max x
  exact rg_fit (by omega) (by omega)
theorem rg_lit (n : Int) (h : decide (-2147483648 ≤ n) = true) (h2 : decide (n ≤ 2147483647) = true) : (Int32.ofInt n).toInt = n := by
  rw [Int32.toInt_ofInt]
  exact rg_fit (of_decide_eq_true h) (of_decide_eq_true h2)
theorem rg_lt_hi {x y : Int32} {n m : Int} (c : x < y) (h : y.toInt ≤ n) (g : decide (n ≤ m + 1) = true) : x.toInt ≤ m := by have h1 := Int32.lt_iff_toInt_lt.mp c; have h2 := of_decide_eq_true g; omega
theorem rg_lt_lo {x y : Int32} {n m : Int} (c : x < y) (h : n ≤ x.toInt) (g : decide (m ≤ n + 1) = true) : m ≤ y.toInt := by have h1 := Int32.lt_iff_toInt_lt.mp c; have h2 := of_decide_eq_true g; omega
theorem rg_le_hi {x y : Int32} {n : Int} (c : x ≤ y) (h : y.toInt ≤ n) : x.toInt ≤ n := Int.le_trans (Int32.le_iff_toInt_le.mp c) h
theorem rg_le_lo {x y : Int32} {n : Int} (c : x ≤ y) (h : n ≤ x.toInt) : n ≤ y.toInt := Int.le_trans h (Int32.le_iff_toInt_le.mp c)
theorem rg_nlt {x y : Int32} (c : ¬ x < y) : y ≤ x := by rw [Int32.lt_iff_toInt_lt] at c; rw [Int32.le_iff_toInt_le]; omega
theorem rg_nle {x y : Int32} (c : ¬ x ≤ y) : y < x := by rw [Int32.le_iff_toInt_le] at c; rw [Int32.lt_iff_toInt_lt]; omega
theorem rg_eq_hi {x y : Int32} {n : Int} (c : x = y) (h : y.toInt ≤ n) : x.toInt ≤ n := c ▸ h
theorem rg_eq_lo {x y : Int32} {n : Int} (c : x = y) (h : n ≤ y.toInt) : n ≤ x.toInt := c ▸ h
theorem rg_ne_lo {x y : Int32} {n m : Int} (c : ¬ x = y) (hx : n ≤ x.toInt) (h1 : n ≤ y.toInt) (h2 : y.toInt ≤ n) (g : decide (m ≤ n + 1) = true) : m ≤ x.toInt := by
  have h := mt Int32.toInt_inj.mp c
  have h3 := of_decide_eq_true g
  omega
theorem rg_ne_hi {x y : Int32} {n m : Int} (c : ¬ x = y) (hx : x.toInt ≤ n) (h1 : n ≤ y.toInt) (h2 : y.toInt ≤ n) (g : decide (n ≤ m + 1) = true) : x.toInt ≤ m := by
  have h := mt Int32.toInt_inj.mp c
  have h3 := of_decide_eq_true g
  omega
theorem rg_no_lt {x y : Int32} {a b : Int} (hx : a ≤ x.toInt) (hy : y.toInt ≤ b) (g : decide (b ≤ a) = true) : ¬ x < y := by rw [Int32.lt_iff_toInt_lt]; have := of_decide_eq_true g; omega
theorem rg_no_le {x y : Int32} {a b : Int} (hx : a ≤ x.toInt) (hy : y.toInt ≤ b) (g : decide (b < a) = true) : ¬ x ≤ y := by rw [Int32.le_iff_toInt_le]; have := of_decide_eq_true g; omega
theorem rg_no_eq1 {x y : Int32} {a b : Int} (hx : x.toInt ≤ a) (hy : b ≤ y.toInt) (g : decide (a < b) = true) : ¬ x = y := by rw [← Int32.toInt_inj]; have := of_decide_eq_true g; omega
theorem rg_no_eq2 {x y : Int32} {a b : Int} (hx : a ≤ x.toInt) (hy : y.toInt ≤ b) (g : decide (b < a) = true) : ¬ x = y := by rw [← Int32.toInt_inj]; have := of_decide_eq_true g; omega
theorem rg_yes_lt {x y : Int32} {a b : Int} (hx : x.toInt ≤ a) (hy : b ≤ y.toInt) (g : decide (a < b) = true) : x < y := by rw [Int32.lt_iff_toInt_lt]; have := of_decide_eq_true g; omega
theorem rg_yes_le {x y : Int32} {a b : Int} (hx : x.toInt ≤ a) (hy : b ≤ y.toInt) (g : decide (a ≤ b) = true) : x ≤ y := by rw [Int32.le_iff_toInt_le]; have := of_decide_eq_true g; omega
theorem rg_yes_eq {x y : Int32} {a : Int} (h1 : x.toInt ≤ a) (h2 : a ≤ x.toInt) (h3 : y.toInt ≤ a) (h4 : a ≤ y.toInt) : x = y := by rw [← Int32.toInt_inj]; omega
/-- contents between two places: all in bounds -/
def rg_S (f : Nat → Int32) (s e : Nat) (lo hi : Int) : Prop := ∀ j : Nat, s ≤ j → j < e → lo ≤ (f j).toInt ∧ (f j).toInt ≤ hi
theorem rg_Smono {f : Nat → Int32} {s e s' e' : Nat} {lo hi lo' hi' : Int} (h : rg_S f s e lo hi) (g1 : decide (s ≤ s') = true) (g2 : decide (e' ≤ e) = true) (g3 : decide (lo' ≤ lo) = true) (g4 : decide (hi ≤ hi') = true) : rg_S f s' e' lo' hi' := fun j h1 h2 => by
  have a1 := of_decide_eq_true g1
  have a2 := of_decide_eq_true g2
  have a3 := of_decide_eq_true g3
  have a4 := of_decide_eq_true g4
  have := h j (by omega) (by omega)
  omega
theorem rg_z {s e : Nat} {lo hi : Int} (g1 : decide (lo ≤ 0) = true) (g2 : decide (0 ≤ hi) = true) : rg_S ms_z s e lo hi := fun j _ _ => ⟨by show lo ≤ (0 : Int32).toInt; exact of_decide_eq_true g1, by show (0 : Int32).toInt ≤ hi; exact of_decide_eq_true g2⟩
theorem rg_Supd {f g : Nat → Int32} {s e k : Nat} {lo hi : Int} {x : Int32} (h : rg_S f s e lo hi) (eg : g = upd f k x) (h1 : lo ≤ x.toInt) (h2 : x.toInt ≤ hi) : rg_S g s e lo hi := fun j a b => by
  subst eg
  by_cases hj : j = k
  · subst hj; rw [pk_us]; exact ⟨h1, h2⟩
  · rw [pk_un hj]; exact h j a b
theorem rg_Sout {f g : Nat → Int32} {s e k : Nat} {lo hi : Int} {x : Int32} (h : rg_S f s e lo hi) (eg : g = upd f k x) (hk : k < s ∨ e ≤ k) : rg_S g s e lo hi := fun j a b => by
  subst eg
  rw [pk_un (by omega)]
  exact h j a b
theorem rg_cl {x : Int32} {a b : Int} (h1 : a ≤ x.toInt) (h2 : x.toInt ≤ b) (g : decide (0 ≤ a) = true) : (x.toNatClampNeg : Int) = x.toInt := by
  have h3 := of_decide_eq_true g
  rw [Int32.toNatClampNeg]
  omega
theorem rg_in {x : Int32} {a b : Int} {n : Nat} (h1 : a ≤ x.toInt) (h2 : x.toInt ≤ b) (g1 : decide (0 ≤ a) = true) (g2 : decide (b < (n : Int)) = true) : vp_in x n ∧ x.toNatClampNeg < n := by
  have h3 := of_decide_eq_true g1
  have h4 := of_decide_eq_true g2
  have h5 := rg_cl h1 h2 g1
  exact ⟨vp_in_iff.mpr ⟨by omega, by omega⟩, by omega⟩
section RG
variable {p : Program} {l : Launch} {e : Env} {R : Room} {s : State} {m : MethodId} {args : Array Value} {below : List Frame} {meth : Method} {c : Code} {H : Heap} {locs : List Loc} {cells slots : Nat} {Q : State → Prop} {cc : ByteArray} {pc : Nat} {ls : Array Slot} {rest : List Value} {D : va_G} {cA : Nat → ClassId} {A : Nat → Prop} {ws : va_W} {x y : Int32} {a b c1 d lo hi : Int}
theorem rg_iadd (hx : p.tables.exec = Jvm.exec) (hb : c.code = cc) (hdg : decode cc pc = .ok (.iadd, 1)) (h1 : a ≤ x.toInt) (h2 : x.toInt ≤ b) (h3 : c1 ≤ y.toInt) (h4 : y.toInt ≤ d) (g : (decide (-2147483648 ≤ a + c1) && decide (b + d ≤ 2147483647) && decide (lo ≤ a + c1) && decide (b + d ≤ hi)) = true)
    (kk : ∀ z : Int32, z.toInt = x.toInt + y.toInt → lo ≤ z.toInt → z.toInt ≤ hi → W p l e R s m args below meth c H locs cells slots Q (F0 m (pc + 1) ls (.int z :: rest))) : W p l e R s m args below meth c H locs cells slots Q (F0 m pc ls (.int y :: .int x :: rest)) := by
  simp only [Bool.and_eq_true, decide_eq_true_eq] at g
  have h5 := rg_add (x := x) (y := y) (by omega) (by omega)
  exact lv_iadd hx hb hdg (kk _ h5 (by omega) (by omega))
theorem rg_isub (hx : p.tables.exec = Jvm.exec) (hb : c.code = cc) (hdg : decode cc pc = .ok (.isub, 1)) (h1 : a ≤ x.toInt) (h2 : x.toInt ≤ b) (h3 : c1 ≤ y.toInt) (h4 : y.toInt ≤ d) (g : (decide (-2147483648 ≤ a - d) && decide (b - c1 ≤ 2147483647) && decide (lo ≤ a - d) && decide (b - c1 ≤ hi)) = true)
    (kk : ∀ z : Int32, z.toInt = x.toInt - y.toInt → lo ≤ z.toInt → z.toInt ≤ hi → W p l e R s m args below meth c H locs cells slots Q (F0 m (pc + 1) ls (.int z :: rest))) : W p l e R s m args below meth c H locs cells slots Q (F0 m pc ls (.int y :: .int x :: rest)) := by
  simp only [Bool.and_eq_true, decide_eq_true_eq] at g
  have h5 := rg_sub (x := x) (y := y) (by omega) (by omega)
  exact lv_isub hx hb hdg (kk _ h5 (by omega) (by omega))
theorem rg_imul (hx : p.tables.exec = Jvm.exec) (hb : c.code = cc) (hdg : decode cc pc = .ok (.imul, 1)) (h1 : a ≤ x.toInt) (h2 : x.toInt ≤ b) (h3 : c1 ≤ y.toInt) (h4 : y.toInt ≤ d) (g : (decide (0 ≤ a) && decide (0 ≤ c1) && decide (b * d ≤ 2147483647) && decide (lo ≤ a * c1) && decide (b * d ≤ hi)) = true)
    (kk : ∀ z : Int32, z.toInt = x.toInt * y.toInt → lo ≤ z.toInt → z.toInt ≤ hi → W p l e R s m args below meth c H locs cells slots Q (F0 m (pc + 1) ls (.int z :: rest))) : W p l e R s m args below meth c H locs cells slots Q (F0 m pc ls (.int y :: .int x :: rest)) := by
  simp only [Bool.and_eq_true, decide_eq_true_eq] at g
  have k1 : a * c1 ≤ x.toInt * y.toInt := Int.mul_le_mul h1 h3 (by omega) (by omega)
  have k2 : x.toInt * y.toInt ≤ b * d := Int.mul_le_mul h2 h4 (by omega) (by omega)
  have k3 : 0 ≤ a * c1 := Int.mul_nonneg (by omega) (by omega)
  have h5 := rg_mul (x := x) (y := y) (by omega) (by omega)
  exact lv_imul hx hb hdg (kk _ h5 (by omega) (by omega))
theorem rg_ineg (hx : p.tables.exec = Jvm.exec) (hb : c.code = cc) (hdg : decode cc pc = .ok (.ineg, 1)) (h1 : a ≤ x.toInt) (h2 : x.toInt ≤ b) (g : (decide (-2147483647 ≤ a) && decide (lo ≤ -b) && decide (-a ≤ hi)) = true)
    (kk : ∀ z : Int32, z.toInt = -x.toInt → lo ≤ z.toInt → z.toInt ≤ hi → W p l e R s m args below meth c H locs cells slots Q (F0 m (pc + 1) ls (.int z :: rest))) : W p l e R s m args below meth c H locs cells slots Q (F0 m pc ls (.int x :: rest)) := by
  simp only [Bool.and_eq_true, decide_eq_true_eq] at g
  have h5 := rg_neg (x := x) (by omega)
  exact lv_ineg hx hb hdg (kk _ h5 (by omega) (by omega))
theorem rg_divI {x y : Int32} (hx0 : 0 ≤ x.toInt) (hy : 1 ≤ y.toInt) : (x / y).toInt = x.toInt / y.toInt := by
  rw [Int32.toInt_div, Int.tdiv_eq_ediv_of_nonneg hx0]
  have h1 := rg_max x
  have h2 : x.toInt / y.toInt ≤ x.toInt := Int.ediv_le_self _ hx0
  have h3 : 0 ≤ x.toInt / y.toInt := Int.ediv_nonneg hx0 (by omega)
  exact rg_fit (by omega) (by omega)
theorem rg_remI {x y : Int32} (hx0 : 0 ≤ x.toInt) (hy : 1 ≤ y.toInt) : (x - x / y * y).toInt = x.toInt % y.toInt := by
  have h0 := rg_divI hx0 hy
  have h1 := rg_max x
  have h2 := Int.emod_add_mul_ediv x.toInt y.toInt
  have h3 := Int.emod_nonneg x.toInt (show y.toInt ≠ 0 by omega)
  have h4 : 0 ≤ x.toInt / y.toInt := Int.ediv_nonneg hx0 (by omega)
  have h5 : 0 ≤ x.toInt / y.toInt * y.toInt := Int.mul_nonneg h4 (by omega)
  have h6 : y.toInt * (x.toInt / y.toInt) = x.toInt / y.toInt * y.toInt := Int.mul_comm _ _
  have h7 : (x / y * y).toInt = x.toInt / y.toInt * y.toInt := by
    rw [← h0]
    exact rg_mul (by rw [h0]; omega) (by rw [h0]; omega)
  rw [rg_sub (by rw [h7]; omega) (by rw [h7]; omega), h7]
  omega
theorem rg_idiv (hx : p.tables.exec = Jvm.exec) (hb : c.code = cc) (hdg : decode cc pc = .ok (.idiv, 1)) (h1 : a ≤ x.toInt) (h2 : x.toInt ≤ b) (h3 : c1 ≤ y.toInt) (g : (decide (0 ≤ a) && decide (1 ≤ c1) && decide (lo ≤ 0) && decide (b ≤ hi)) = true)
    (kk : ∀ z : Int32, z.toInt = x.toInt / y.toInt → lo ≤ z.toInt → z.toInt ≤ hi → W p l e R s m args below meth c H locs cells slots Q (F0 m (pc + 1) ls (.int z :: rest))) : W p l e R s m args below meth c H locs cells slots Q (F0 m pc ls (.int y :: .int x :: rest)) := by
  simp only [Bool.and_eq_true, decide_eq_true_eq] at g
  have h5 := rg_divI (x := x) (y := y) (by omega) (by omega)
  have h6 : x.toInt / y.toInt ≤ x.toInt := Int.ediv_le_self _ (by omega)
  have h7 : 0 ≤ x.toInt / y.toInt := Int.ediv_nonneg (by omega) (by omega)
  refine lv_idiv hx hb hdg (fun h => ?_) (kk _ h5 (by omega) (by omega))
  rw [h] at h3
  have : (0 : Int32).toInt = 0 := by decide
  omega
theorem rg_irem (hx : p.tables.exec = Jvm.exec) (hb : c.code = cc) (hdg : decode cc pc = .ok (.irem, 1)) (h1 : a ≤ x.toInt) (h3 : c1 ≤ y.toInt) (h4 : y.toInt ≤ d) (g : (decide (0 ≤ a) && decide (1 ≤ c1) && decide (lo ≤ 0) && decide (d ≤ hi + 1)) = true)
    (kk : ∀ z : Int32, z.toInt = x.toInt % y.toInt → lo ≤ z.toInt → z.toInt ≤ hi → W p l e R s m args below meth c H locs cells slots Q (F0 m (pc + 1) ls (.int z :: rest))) : W p l e R s m args below meth c H locs cells slots Q (F0 m pc ls (.int y :: .int x :: rest)) := by
  simp only [Bool.and_eq_true, decide_eq_true_eq] at g
  have h5 := rg_remI (x := x) (y := y) (by omega) (by omega)
  have h6 := Int.emod_nonneg x.toInt (show y.toInt ≠ 0 by omega)
  have h7 := Int.emod_lt_of_pos x.toInt (show 0 < y.toInt by omega)
  refine lv_irem hx hb hdg (fun h => ?_) (kk _ h5 (by omega) (by omega))
  rw [h] at h3
  have : (0 : Int32).toInt = 0 := by decide
  omega
theorem rg_and1 (x : Int32) : 0 ≤ (x &&& 1).toInt ∧ (x &&& 1).toInt ≤ 1 := by
  have h := pk_and x (m := 1) 1 (by decide)
  rw [h]
  have h2 : x.toBitVec.toNat % 2 ^ 1 < 2 := Nat.mod_lt _ (by decide)
  rw [nI_toInt (by omega)]
  omega
theorem rg_iand1 (hx : p.tables.exec = Jvm.exec) (hb : c.code = cc) (hdg : decode cc pc = .ok (.iand, 1))
    (kk : ∀ z : Int32, z = (x &&& 1) → 0 ≤ z.toInt → z.toInt ≤ 1 → W p l e R s m args below meth c H locs cells slots Q (F0 m (pc + 1) ls (.int z :: rest))) : W p l e R s m args below meth c H locs cells slots Q (F0 m pc ls (.int 1 :: .int x :: rest)) :=
  lv_iand hx hb hdg (kk _ rfl (rg_and1 x).1 (rg_and1 x).2)
theorem rg_iinc {i nL k : Nat} {n : Int} {lv : List (Nat × Value)} (lv' : Int32 → List (Nat × Value)) (hx : p.tables.exec = Jvm.exec) (hb : c.code = cc) (hdg : decode cc pc = .ok (.iinc i n, 3)) (h : lv_has ls nL lv) (hk : lv[k]? = some (i, .int x)) (hn : i < nL) (h1 : a ≤ x.toInt) (h2 : x.toInt ≤ b) (g : (decide (-2147483648 ≤ n) && decide (n ≤ 2147483647) && decide (-2147483648 ≤ a + n) && decide (b + n ≤ 2147483647) && decide (lo ≤ a + n) && decide (b + n ≤ hi)) = true) (hl : ∀ v : Int32, (i, Value.int v) :: lv.filter (fun q => !(q.1 == i) && !(q.1 + 1 == i && q.2.category == 2)) = lv' v)
    (kk : ∀ z : Int32, z.toInt = x.toInt + n → lo ≤ z.toInt → z.toInt ≤ hi → ∀ ls' : Array Slot, lv_has ls' nL (lv' z) → W p l e R s m args below meth c H locs cells slots Q (F0 m (pc + 3) ls' rest)) : W p l e R s m args below meth c H locs cells slots Q (F0 m pc ls rest) := by
  simp only [Bool.and_eq_true, decide_eq_true_eq] at g
  have h0 : (Int32.ofInt n).toInt = n := rg_lit n (by simp only [decide_eq_true_eq]; omega) (by simp only [decide_eq_true_eq]; omega)
  have h5 : (x + Int32.ofInt n).toInt = x.toInt + n := by
    rw [rg_add (by rw [h0]; omega) (by rw [h0]; omega), h0]
  exact lv_iinc (v := x + Int32.ofInt n) hx hb hdg h hk rfl hn (hl _) (kk _ h5 (by omega) (by omega))
theorem rg_iald {N a0 s0 e0 q0 : Nat} {f : Nat → Int32} (hx : p.tables.exec = Jvm.exec) (hb : c.code = cc) (hE : ms_EV D cA s) (hP : va_P D vwCl ws H) (ha : ws[q0]? = some (a0, .inl (cA 0, N, .inl f))) (h1 : a ≤ x.toInt) (h2 : x.toInt ≤ b) (hf : rg_S f s0 e0 lo hi) (g : (decide (0 ≤ a) && decide (b < (N : Int)) && decide ((s0 : Int) ≤ a) && decide (b < (e0 : Int))) = true) (hdg : decode cc pc = .ok (.iaload, 1))
    (kk : ∀ z : Int32, z = f x.toNatClampNeg → lo ≤ z.toInt → z.toInt ≤ hi → W p l e R s m args below meth c H locs cells slots Q (F0 m (pc + 1) ls (.int z :: rest))) : W p l e R s m args below meth c H locs cells slots Q (F0 m pc ls (.int x :: .ref a0 :: rest)) := by
  simp only [Bool.and_eq_true, decide_eq_true_eq] at g
  have h5 := rg_cl h1 h2 (by simp only [decide_eq_true_eq]; omega)
  have h6 := hf x.toNatClampNeg (by omega) (by omega)
  exact va_iald hx hb hE.1 hP q0 0 ha rfl (vp_in_iff.mpr ⟨by omega, by omega⟩) hdg (kk _ rfl h6.1 h6.2)
theorem rg_iald0 {N a0 q0 : Nat} {f : Nat → Int32} (hx : p.tables.exec = Jvm.exec) (hb : c.code = cc) (hE : ms_EV D cA s) (hP : va_P D vwCl ws H) (ha : ws[q0]? = some (a0, .inl (cA 0, N, .inl f))) (h1 : a ≤ x.toInt) (h2 : x.toInt ≤ b) (g : (decide (0 ≤ a) && decide (b < (N : Int))) = true) (hdg : decode cc pc = .ok (.iaload, 1))
    (kk : ∀ z : Int32, z = f x.toNatClampNeg → W p l e R s m args below meth c H locs cells slots Q (F0 m (pc + 1) ls (.int z :: rest))) : W p l e R s m args below meth c H locs cells slots Q (F0 m pc ls (.int x :: .ref a0 :: rest)) := by
  simp only [Bool.and_eq_true, decide_eq_true_eq] at g
  exact va_iald hx hb hE.1 hP q0 0 ha rfl (vp_in_iff.mpr ⟨by omega, by omega⟩) hdg (kk _ rfl)
theorem rg_zald {N a0 q0 : Nat} {f : Nat → Int32} (hx : p.tables.exec = Jvm.exec) (hb : c.code = cc) (hE : ms_EV D cA s) (hP : va_P D vwCl ws H) (ha : ws[q0]? = some (a0, .inl (cA 1, N, .inl f))) (h1 : a ≤ x.toInt) (h2 : x.toInt ≤ b) (g : (decide (0 ≤ a) && decide (b < (N : Int))) = true) (hdg : decode cc pc = .ok (.baload, 1))
    (kk : ∀ z : Int32, z = f x.toNatClampNeg → W p l e R s m args below meth c H locs cells slots Q (F0 m (pc + 1) ls (.int z :: rest))) : W p l e R s m args below meth c H locs cells slots Q (F0 m pc ls (.int x :: .ref a0 :: rest)) := by
  simp only [Bool.and_eq_true, decide_eq_true_eq] at g
  exact va_zald hx hb hE.1 hP q0 1 ha rfl (vp_in_iff.mpr ⟨by omega, by omega⟩) hdg (kk _ rfl)
theorem rg_iast {N a0 q0 : Nat} {f : Nat → Int32} (hx : p.tables.exec = Jvm.exec) (hb : c.code = cc) (hE : ms_EV D cA s) (hP : va_P D vwCl ws H) (hD : va_D A ws) (hS : va_S A s.heap H locs) (ha : ws[q0]? = some (a0, .inl (cA 0, N, .inl f))) (h1 : a ≤ x.toInt) (h2 : x.toInt ≤ b) (g : (decide (0 ≤ a) && decide (b < (N : Int))) = true) (hdg : decode cc pc = .ok (.iastore, 1))
    (kk : ∀ (h : Nat → Int32) (H1 : Heap) (locs1 : List Loc), h = upd f x.toNatClampNeg y → va_P D vwCl (ws.set q0 (a0, .inl (cA 0, N, .inl h))) H1 → va_D A (ws.set q0 (a0, .inl (cA 0, N, .inl h))) → va_S A s.heap H1 locs1 → W p l e R s m args below meth c H1 locs1 cells slots Q (F0 m (pc + 1) ls rest)) : W p l e R s m args below meth c H locs cells slots Q (F0 m pc ls (.int y :: .int x :: .ref a0 :: rest)) := by
  simp only [Bool.and_eq_true, decide_eq_true_eq] at g
  exact va_iast hx hb hE.1 hP hD hS q0 0 ha rfl (vp_in_iff.mpr ⟨by omega, by omega⟩) hdg (fun H1 locs1 hP1 hD1 hS1 => kk _ H1 locs1 rfl hP1 hD1 hS1)
theorem rg_zast {N a0 q0 : Nat} {f : Nat → Int32} (hx : p.tables.exec = Jvm.exec) (hb : c.code = cc) (hE : ms_EV D cA s) (hP : va_P D vwCl ws H) (hD : va_D A ws) (hS : va_S A s.heap H locs) (ha : ws[q0]? = some (a0, .inl (cA 1, N, .inl f))) (h1 : a ≤ x.toInt) (h2 : x.toInt ≤ b) (g : (decide (0 ≤ a) && decide (b < (N : Int))) = true) (hdg : decode cc pc = .ok (.bastore, 1))
    (kk : ∀ (h : Nat → Int32) (H1 : Heap) (locs1 : List Loc), h = upd f x.toNatClampNeg (vp_nar .boolean y) → va_P D vwCl (ws.set q0 (a0, .inl (cA 1, N, .inl h))) H1 → va_D A (ws.set q0 (a0, .inl (cA 1, N, .inl h))) → va_S A s.heap H1 locs1 → W p l e R s m args below meth c H1 locs1 cells slots Q (F0 m (pc + 1) ls rest)) : W p l e R s m args below meth c H locs cells slots Q (F0 m pc ls (.int y :: .int x :: .ref a0 :: rest)) := by
  simp only [Bool.and_eq_true, decide_eq_true_eq] at g
  exact va_zast hx hb hE.1 hP hD hS q0 1 ha rfl (vp_in_iff.mpr ⟨by omega, by omega⟩) hdg (fun H1 locs1 hP1 hD1 hS1 => kk _ H1 locs1 rfl hP1 hD1 hS1)
end RG
theorem rg_ms {N : Int} {n : Nat} {x z : Int} {k : Int} (h : N + 1 ≤ x + ((n + 1 : Nat) : Int)) (e : z = x + k) (g : decide (1 ≤ k) = true) : N + 1 ≤ z + (n : Int) := by
  have := of_decide_eq_true g
  omega
theorem rg_m0 {N x : Int} (h : N + 1 ≤ x + ((0 : Nat) : Int)) (h2 : x ≤ N) : False := by omega
theorem rg_mi {N lo : Int} {x : Int32} {K : Nat} (h : lo ≤ x.toInt) (g : decide (N + 1 ≤ lo + (K : Int)) = true) : N + 1 ≤ x.toInt + (K : Int) := by
  have := of_decide_eq_true g
  omega
theorem rg_out {x : Int32} {a b : Int} {s e : Nat} (h1 : a ≤ x.toInt) (h2 : x.toInt ≤ b) (g : (decide (0 ≤ a) && (decide (b < (s : Int)) || decide ((e : Int) ≤ a))) = true) : x.toNatClampNeg < s ∨ e ≤ x.toNatClampNeg := by
  simp only [Bool.and_eq_true, Bool.or_eq_true, decide_eq_true_eq] at g
  have h3 := rg_cl h1 h2 (by simp only [decide_eq_true_eq]; omega)
  omega
theorem rg_nz {x : Int32} (h1 : 0 ≤ x.toInt) (h2 : x.toInt ≤ 1) : narrow .boolean (.int x) = .int x ∧ fits .boolean (.int x) = true := by
  have h3 : x = 0 ∨ x = 1 := by
    rcases (show x.toInt = 0 ∨ x.toInt = 1 by omega) with h | h
    · exact Or.inl (Int32.toInt_inj.mp (h.trans (by decide)))
    · exact Or.inr (Int32.toInt_inj.mp (h.trans (by decide)))
  rcases h3 with rfl | rfl
  · exact ⟨by decide, by decide⟩
  · exact ⟨by decide, by decide⟩
theorem rg_Scpy {f g h : Nat → Int32} {s e n : Nat} {lo hi : Int} (hf : rg_S f s e lo hi) (eh : h = va_cpy f g 0 0 n) (gd : decide (e ≤ n) = true) : rg_S h s e lo hi := fun j a b => by
  subst eh
  have h1 := of_decide_eq_true gd
  rw [pk_cpy_in (by omega) (by omega)]
  have h2 := hf j a b
  rw [show 0 + (j - 0) = j by omega]
  exact h2
section RGM
variable {p : Program} {l : Launch} {e : Env} {R : Room} {s : State} {m : MethodId} {args : Array Value} {below : List Frame} {meth : Method} {c : Code} {H : Heap} {locs : List Loc} {cells slots : Nat} {Q : State → Prop} {cc : ByteArray} {pc : Nat} {ls : Array Slot} {rest : List Value} {D : va_G} {cA : Nat → ClassId} {A : Nat → Prop} {ws : va_W} {x y : Int32} {a b c1 d lo hi : Int}
theorem rg_abs (h1 : a ≤ x.toInt) (h2 : x.toInt ≤ b) (g : (decide (-2147483647 ≤ a) && decide (-a ≤ hi) && decide (b ≤ hi)) = true)
    (kk : ∀ z : Int32, z = (if 0 ≤ x then x else 0 - x) → 0 ≤ z.toInt → z.toInt ≤ hi → W p l e R s m args below meth c H locs cells slots Q (F0 m pc ls (.int z :: rest))) : W p l e R s m args below meth c H locs cells slots Q (F0 m pc ls (.int (if 0 ≤ x then x else 0 - x) :: rest)) := by
  simp only [Bool.and_eq_true, decide_eq_true_eq] at g
  have h0 : (0 : Int32).toInt = 0 := by decide
  have h5 : 0 ≤ (if 0 ≤ x then x else 0 - x).toInt ∧ (if 0 ≤ x then x else 0 - x).toInt ≤ hi := by
    split
    · rename_i hc
      have := Int32.le_iff_toInt_le.mp hc
      omega
    · rename_i hc
      rw [Int32.le_iff_toInt_le] at hc
      rw [rg_sub (by omega) (by omega)]
      omega
  exact kk _ rfl h5.1 h5.2
theorem rg_min2 (h1 : a ≤ x.toInt) (h2 : x.toInt ≤ b) (h3 : c1 ≤ y.toInt) (h4 : y.toInt ≤ d) (g : (decide (lo ≤ a) && decide (lo ≤ c1) && (decide (b ≤ hi) || decide (d ≤ hi))) = true) : lo ≤ (if y < x then y else x).toInt ∧ (if y < x then y else x).toInt ≤ hi := by
  simp only [Bool.and_eq_true, Bool.or_eq_true, decide_eq_true_eq] at g
  split
  · rename_i hc
    have := Int32.lt_iff_toInt_lt.mp hc
    omega
  · rename_i hc
    rw [Int32.lt_iff_toInt_lt] at hc
    omega
theorem rg_mmin (h1 : a ≤ x.toInt) (h2 : x.toInt ≤ b) (h3 : c1 ≤ y.toInt) (h4 : y.toInt ≤ d) (g : (decide (lo ≤ a) && decide (lo ≤ c1) && (decide (b ≤ hi) || decide (d ≤ hi))) = true)
    (kk : ∀ z : Int32, z = (if y < x then y else x) → lo ≤ z.toInt → z.toInt ≤ hi → W p l e R s m args below meth c H locs cells slots Q (F0 m pc ls (.int z :: rest))) : W p l e R s m args below meth c H locs cells slots Q (F0 m pc ls (.int (if y < x then y else x) :: rest)) :=
  kk _ rfl (rg_min2 h1 h2 h3 h4 g).1 (rg_min2 h1 h2 h3 h4 g).2
theorem rg_mmax (h1 : a ≤ x.toInt) (h2 : x.toInt ≤ b) (h3 : c1 ≤ y.toInt) (h4 : y.toInt ≤ d) (g : (decide (b ≤ hi) && decide (d ≤ hi) && (decide (lo ≤ a) || decide (lo ≤ c1))) = true)
    (kk : ∀ z : Int32, z = (if x < y then y else x) → lo ≤ z.toInt → z.toInt ≤ hi → W p l e R s m args below meth c H locs cells slots Q (F0 m pc ls (.int z :: rest))) : W p l e R s m args below meth c H locs cells slots Q (F0 m pc ls (.int (if x < y then y else x) :: rest)) := by
  simp only [Bool.and_eq_true, Bool.or_eq_true, decide_eq_true_eq] at g
  have h5 : lo ≤ (if x < y then y else x).toInt ∧ (if x < y then y else x).toInt ≤ hi := by
    split
    · rename_i hc
      have := Int32.lt_iff_toInt_lt.mp hc
      omega
    · rename_i hc
      rw [Int32.lt_iff_toInt_lt] at hc
      omega
  exact kk _ rfl h5.1 h5.2
theorem rg_copy {own : String} {index a0 a1 n0 n1 : Nat} {f g : Nat → Int32} {sp dp n : Int32} (hx : p.tables.exec = Jvm.exec) (hb : c.code = cc) (hml : c.maxLocals = ls.size) (hown : s.vm.findClass own = some m.cls) (hlink : (Cond.methodLink own index arraycopyName).before args s = true) (hnat : (Cond.native arraycopyName).before args s = true) (hstat : (Cond.static arraycopyName).before args s = true) (hini : (Cond.initialized "java/lang/System").before args s = true)
    (hE : ms_EV D cA s) (hP : va_P D vwCl ws H) (hD : va_D A ws) (hS : va_S A s.heap H locs) (q0 q1 : Nat) (ha0 : ws[q0]? = some (a0, .inl (cA 0, n0, .inl f))) (ha1 : ws[q1]? = some (a1, .inl (cA 0, n1, .inl g))) (hsp : sp = nI 0) (hdp : dp = nI 0) (N : Nat) (hN : N < 65536) (hn : n = nI N) (h4 : N ≤ n0) (h5 : N ≤ n1)
    (hframes : 1 ≤ R.frames) (hlocals : (rest.map fun v => v.category).sum + (nativeFrameWords "java/lang/System" "arraycopy" 5 + 11) ≤ R.locals) (hdg : decode cc pc = .ok (.invokestatic index, 3))
    (kk : ∀ (h : Nat → Int32) (H1 : Heap) (locs1 : List Loc), h = va_cpy f g 0 0 N → va_P D vwCl (ws.set q1 (a1, .inl (cA 0, n1, .inl h))) H1 → va_D A (ws.set q1 (a1, .inl (cA 0, n1, .inl h))) → va_S A s.heap H1 locs1 → W p l e R s m args below meth c H1 locs1 cells slots Q (F0 m (pc + 3) ls rest)) : W p l e R s m args below meth c H locs cells slots Q (F0 m pc ls (.int n :: .int dp :: .ref a1 :: .int sp :: .ref a0 :: rest)) := by
  obtain ⟨g1, g2⟩ := ms_nn hn hN
  obtain ⟨g3, g4⟩ := ms_nn hsp (by decide)
  obtain ⟨g5, g6⟩ := ms_nn hdp (by decide)
  refine va_copyi hx hb hml hown hlink hnat hstat hini hE.1 hP hD hS q0 q1 0 0 ha0 ha1 rfl rfl rfl g3 g5 g1 (by rw [g4, g2]; omega) (by rw [g6, g2]; omega) (fun i _ => rfl) hframes hlocals hdg (fun H1 locs1 hP1 hD1 hS1 => ?_)
  rw [g4, g6, g2] at hP1 hD1
  exact kk _ H1 locs1 rfl hP1 hD1 hS1
end RGM
section SN
variable {p : Program} {l : Launch} {e : Env} {R : Room} {s : State} {m : MethodId} {args : Array Value} {below : List Frame} {meth : Method} {c : Code} {H : Heap} {locs : List Loc} {cells slots : Nat} {Q : State → Prop} {cc : ByteArray} {pc : Nat} {ls : Array Slot} {rest : List Value} {D : va_G} {cA : Nat → ClassId} {A : Nat → Prop} {S : Type}
  {ws wc wr : va_W} {st As : List Value} {b nL nP index maxL : Nat} {own : String} {y : MethodName} {bytes : ByteArray} {ret : Option FieldType} {Ts wd : List Cond} {rm : Room}
theorem ms_cSNi {post : Int32 → S → Prop} {w1 : S → va_W} {host : String} (F : CallFix p m c cc nL s args Ts own) (hE : ms_EV D cA s) (hM : ms_Mi l y wd rm D cA As wc post w1) (cw : va_CN R s args own index y host bytes maxL ret wd rm rm.cells rm.slots nP ∧ (Cond.static y).before args s = true ∧ True)
    (hP : va_P D vwCl ws H) (hD : va_D A ws) (hS : va_S A s.heap H locs) (hA : ∀ q, s.heap.size ≤ q → A q) (isC isR : List Nat) (hC : isC.map (fun i => ws[i]?) = wc.map some) (hR : isR.map (fun i => ws[i]?) = wr.map some) (hnC : va_nd isC = true) (hn : va_nd isR = true) (hdis : ∀ i ∈ isR, i ∉ isC)
    (hlen : As.length = nP) (hsz : ls.size = nL) (hst : st = As.reverse ++ rest) (hW : (rest.map fun v => v.category).sum ≤ 8) (hdg : decode cc pc = .ok (.invokestatic index, 3)) (hf : cells + rm.cells ≤ R.cells ∧ slots + rm.slots ≤ R.slots)
    (kk : ∀ (r : Int32) (u : S) (H1 : Heap) (locs1 : List Loc), post r u → va_P D vwCl (wr ++ w1 u) H1 → va_D A (wr ++ w1 u) → va_S A s.heap H1 locs1 → W p l e R s m args below meth c H1 locs1 (cells + rm.cells) (slots + rm.slots) Q (F0 m (pc + 3) ls (.int r :: rest))) : W p l e R s m args below meth c H locs cells slots Q (F0 m pc ls st) :=
  ms_goi hP hD hS hA isC isR hC hR hn hdis (va_runSN F (hM H.size) cw (ms_preS hE (hP.sub isC (ms_fm hC)) (hD.sub isC hnC hC)) rfl hlen hsz hst (lv_room hW) hdg hf) kk
end SN
theorem rg_shlv : ∀ k : Nat, k < 31 → ((1 : Int32) <<< (nI k &&& 31)).toInt = (2 : Int) ^ k := by decide +kernel
theorem rg_shl1 {p : Program} {l : Launch} {e : Env} {R : Room} {s : State} {m : MethodId} {args : Array Value} {below : List Frame} {meth : Method} {c : Code} {H : Heap} {locs : List Loc} {cells slots : Nat} {Q : State → Prop} {cc : ByteArray} {pc : Nat} {ls : Array Slot} {rest : List Value} {y : Int32} {a b lo hi : Int} (hx : p.tables.exec = Jvm.exec) (hb : c.code = cc) (hdg : decode cc pc = .ok (.ishl, 1)) (h1 : a ≤ y.toInt) (h2 : y.toInt ≤ b) (g : (decide (0 ≤ a) && decide (b ≤ 30) && decide (lo ≤ (2 : Int) ^ a.toNat) && decide ((2 : Int) ^ b.toNat ≤ hi)) = true)
    (kk : ∀ z : Int32, z = (1 : Int32) <<< (y &&& 31) → lo ≤ z.toInt → z.toInt ≤ hi → W p l e R s m args below meth c H locs cells slots Q (F0 m (pc + 1) ls (.int z :: rest))) : W p l e R s m args below meth c H locs cells slots Q (F0 m pc ls (.int y :: .int 1 :: rest)) := by
  simp only [Bool.and_eq_true, decide_eq_true_eq] at g
  obtain ⟨k, hk, ek⟩ : ∃ k : Nat, k < 31 ∧ y = nI k := by
    refine ⟨y.toInt.toNat, by omega, ?_⟩
    rw [← Int32.toInt_inj, nI_toInt (by omega)]
    omega
  have hy : y.toInt = (k : Int) := by rw [ek]; exact nI_toInt (by omega)
  have hv : ((1 : Int32) <<< (y &&& 31)).toInt = (2 : Int) ^ k := by rw [ek]; exact rg_shlv k hk
  have p1 : (2 : Int) ^ a.toNat ≤ (2 : Int) ^ k := by
    have := Nat.pow_le_pow_right (show 0 < 2 by decide) (show a.toNat ≤ k by omega)
    exact_mod_cast this
  have p2 : (2 : Int) ^ k ≤ (2 : Int) ^ b.toNat := by
    have := Nat.pow_le_pow_right (show 0 < 2 by decide) (show k ≤ b.toNat by omega)
    exact_mod_cast this
  exact lv_ishl hx hb hdg (kk _ rfl (by omega) (by omega))
theorem rg_ds {N : Int} {n : Nat} {x z k : Int} (h : x + 1 ≤ N + ((n + 1 : Nat) : Int)) (e : z = x + k) (g : decide (k ≤ -1) = true) : z + 1 ≤ N + (n : Int) := by
  have := of_decide_eq_true g
  omega
theorem rg_d0 {N x : Int} (h : x + 1 ≤ N + ((0 : Nat) : Int)) (h2 : N ≤ x) : False := by omega
theorem rg_di {N hi : Int} {x : Int32} {K : Nat} (h : x.toInt ≤ hi) (g : decide (hi + 1 ≤ N + (K : Int)) = true) : x.toInt + 1 ≤ N + (K : Int) := by
  have := of_decide_eq_true g
  omega
theorem rg_lne {x : Int32} {a : Int} (h : a ≤ x.toInt) (g : decide (1 ≤ a) = true) : ¬ x.toInt64 = 0 := by
  intro e
  have h1 := congrArg Int64.toInt e
  rw [Int32.toInt_toInt64] at h1
  have h2 : (0 : Int64).toInt = 0 := by decide
  have h3 := of_decide_eq_true g
  omega
theorem rg_nat {x : Int32} {a b : Int} (h1 : a ≤ x.toInt) (h2 : x.toInt ≤ b) (g : decide (0 ≤ a) = true) : ∃ k : Nat, (k : Int) ≤ b ∧ k < 2 ^ 31 ∧ x = nI k := by
  have h3 := of_decide_eq_true g
  have h4 := rg_max x
  refine ⟨x.toInt.toNat, by omega, by omega, ?_⟩
  rw [← Int32.toInt_inj, nI_toInt (by omega)]
  omega
theorem rg_norI (a b : Nat) : nI a ||| nI b = nI (a ||| b) := by
  apply Int32.toBitVec_inj.1
  rw [Int32.toBitVec_or]
  show BitVec.ofNat 32 a ||| BitVec.ofNat 32 b = BitVec.ofNat 32 (a ||| b)
  exact BitVec.ofNat_or.symm
section RGB
variable {p : Program} {l : Launch} {e : Env} {R : Room} {s : State} {m : MethodId} {args : Array Value} {below : List Frame} {meth : Method} {c : Code} {H : Heap} {locs : List Loc} {cells slots : Nat} {Q : State → Prop} {cc : ByteArray} {pc : Nat} {ls : Array Slot} {rest : List Value} {x y : Int32} {a b c1 d lo hi : Int}
theorem rg_ior {k : Nat} (hx : p.tables.exec = Jvm.exec) (hb : c.code = cc) (hdg : decode cc pc = .ok (.ior, 1)) (h1 : a ≤ x.toInt) (h2 : x.toInt ≤ b) (h3 : c1 ≤ y.toInt) (h4 : y.toInt ≤ d) (g : (decide (0 ≤ a) && decide (0 ≤ c1) && decide (b < (2 : Int) ^ k) && decide (d < (2 : Int) ^ k) && decide (k ≤ 30) && decide ((2 : Int) ^ k ≤ hi + 1)) = true)
    (kk : ∀ z : Int32, z = x ||| y → 0 ≤ z.toInt → z.toInt ≤ hi → W p l e R s m args below meth c H locs cells slots Q (F0 m (pc + 1) ls (.int z :: rest))) : W p l e R s m args below meth c H locs cells slots Q (F0 m pc ls (.int y :: .int x :: rest)) := by
  simp only [Bool.and_eq_true, decide_eq_true_eq] at g
  obtain ⟨i, hi1, hi2, ei⟩ := rg_nat h1 h2 (by simp only [decide_eq_true_eq]; omega)
  obtain ⟨j, hj1, hj2, ej⟩ := rg_nat h3 h4 (by simp only [decide_eq_true_eq]; omega)
  have q1 : i < 2 ^ k := by
    have : (i : Int) < (2 : Int) ^ k := by omega
    exact_mod_cast this
  have q2 : j < 2 ^ k := by
    have : (j : Int) < (2 : Int) ^ k := by omega
    exact_mod_cast this
  have q3 : i ||| j < 2 ^ k := Nat.or_lt_two_pow q1 q2
  have q4 : 2 ^ k ≤ 2 ^ 30 := Nat.pow_le_pow_right (by decide) (by omega)
  have q5 : (x ||| y).toInt = ((i ||| j : Nat) : Int) := by rw [ei, ej, rg_norI, nI_toInt (by omega)]
  have q6 : ((i ||| j : Nat) : Int) < (2 : Int) ^ k := by exact_mod_cast q3
  exact lv_ior hx hb hdg (kk _ rfl (by omega) (by omega))
theorem rg_iand (hx : p.tables.exec = Jvm.exec) (hb : c.code = cc) (hdg : decode cc pc = .ok (.iand, 1)) (h1 : a ≤ x.toInt) (h2 : x.toInt ≤ b) (g : (decide (0 ≤ a) && decide (b ≤ hi)) = true)
    (kk : ∀ z : Int32, z = x &&& y → 0 ≤ z.toInt → z.toInt ≤ hi → W p l e R s m args below meth c H locs cells slots Q (F0 m (pc + 1) ls (.int z :: rest))) : W p l e R s m args below meth c H locs cells slots Q (F0 m pc ls (.int y :: .int x :: rest)) := by
  simp only [Bool.and_eq_true, decide_eq_true_eq] at g
  obtain ⟨i, hi1, hi2, ei⟩ := rg_nat h1 h2 (by simp only [decide_eq_true_eq]; omega)
  have q0 : (x &&& y) = nI (i &&& y.toBitVec.toNat) := by
    apply Int32.toBitVec_inj.1
    apply BitVec.eq_of_toNat_eq
    rw [Int32.toBitVec_and, BitVec.toNat_and, ei, pk_tn (by omega), pk_tn (Nat.lt_of_le_of_lt Nat.and_le_left (by omega))]
  have q1 : i &&& y.toBitVec.toNat ≤ i := Nat.and_le_left
  have q5 : (x &&& y).toInt = ((i &&& y.toBitVec.toNat : Nat) : Int) := by rw [q0, nI_toInt (by omega)]
  exact lv_iand hx hb hdg (kk _ rfl (by omega) (by omega))
end RGB
def ms_oe (f g : Nat → Int32) (r : Nat) (t : Int32) : Int32 := if f r = t then g r else if g r = t then f r else -1
/-- how many of the nine lowest bits are set -/
def ms_pc (x : Int32) : Nat := ((List.range 9).filter (fun i => x.toBitVec.toNat.testBit i)).length
def ms_bcE (i : Int32) : Int32 :=
  let a := i - ((i.toUInt32 >>> ((1 : Int32).toUInt32 &&& Int32.toUInt32 31)).toInt32 &&& 1431655765)
  let b := (a &&& 858993459) + ((a.toUInt32 >>> ((2 : Int32).toUInt32 &&& Int32.toUInt32 31)).toInt32 &&& 858993459)
  let c := (b + (b.toUInt32 >>> ((4 : Int32).toUInt32 &&& Int32.toUInt32 31)).toInt32) &&& 252645135
  let d := c + (c.toUInt32 >>> ((8 : Int32).toUInt32 &&& Int32.toUInt32 31)).toInt32
  let e := d + (d.toUInt32 >>> ((16 : Int32).toUInt32 &&& Int32.toUInt32 31)).toInt32
  e &&& 63
theorem ms_bcN : ∀ n : Nat, n < 512 → ms_bcE (nI n) = nI (ms_pc (nI n)) := by decide +kernel
theorem ms_bc {x r : Int32} (h0 : 0 ≤ x.toInt) (h1 : x.toInt ≤ 511) (e : r = ms_bcE x) : r = nI (ms_pc x) := by
  obtain ⟨n, hn, -, rfl⟩ := rg_nat h0 h1 (by decide)
  rw [e]
  exact ms_bcN n (by omega)
theorem ms_pcLN : ∀ n : Nat, n < 512 → ∀ k : Nat, k < 9 → ¬ ((nI n >>> (nI k &&& 31)) &&& 1) = 0 → ms_pc (nI n &&& (((1 : Int32) <<< (nI k &&& 31)) ^^^ (-1))) + 1 = ms_pc (nI n) := by decide +kernel
theorem ms_pcL {x r t v q y z : Int32} {a b : Int} (h0 : 0 ≤ x.toInt) (h1 : x.toInt ≤ 511) (h2 : a ≤ r.toInt) (h3 : r.toInt ≤ b) (et : t = x >>> (r &&& 31)) (ev : v = (t &&& 1)) (c : ¬ v = 0) (eq : q = (1 : Int32) <<< (r &&& 31)) (ey : y = q ^^^ (-1)) (ez : z = x &&& y) (g : (decide (0 ≤ a) && decide (b ≤ 8)) = true := by decide) : ms_pc z + 1 = ms_pc x := by
  simp only [Bool.and_eq_true, decide_eq_true_eq] at g
  obtain ⟨n, hn, -, rfl⟩ := rg_nat h0 h1 (by decide)
  obtain ⟨k, hk, -, rfl⟩ := rg_nat h2 h3 (by simp only [decide_eq_true_eq]; omega)
  subst et; subst ev; subst eq; subst ey; subst ez
  exact ms_pcLN n (by omega) k (by omega) c
theorem ms_pcle {a b k m : Nat} (h : a + 1 = b) (h2 : a ≤ k) (g : decide (k + 1 ≤ m) = true) : b ≤ m := by
  have := of_decide_eq_true g
  omega
theorem ms_pc5 {r x : Int32} (e : r = nI (ms_pc x)) (h : ms_pc x ≤ 5) : 0 ≤ r.toInt ∧ r.toInt ≤ 5 := by
  rw [e, nI_toInt (by omega)]
  omega
theorem ms_pc1N : ∀ k : Nat, k < 6 → ms_pc ((1 : Int32) <<< (nI k &&& 31)) = 1 := by decide +kernel
theorem ms_pc1 {r q : Int32} {a b : Int} (h2 : a ≤ r.toInt) (h3 : r.toInt ≤ b) (eq : q = (1 : Int32) <<< (r &&& 31)) (g : (decide (0 ≤ a) && decide (b ≤ 5)) = true := by decide) : ms_pc q = 1 := by
  simp only [Bool.and_eq_true, decide_eq_true_eq] at g
  obtain ⟨k, hk, -, rfl⟩ := rg_nat h2 h3 (by simp only [decide_eq_true_eq]; omega)
  subst eq
  exact ms_pc1N k (by omega)
theorem ms_pcUN : ∀ n : Nat, n < 64 → ∀ k : Nat, k < 6 → ((nI n >>> (nI k &&& 31)) &&& 1) = 0 → ms_pc (nI n ||| ((1 : Int32) <<< (nI k &&& 31))) = ms_pc (nI n) + 1 := by decide +kernel
theorem ms_pcU {x r t v q z : Int32} {a b : Int} {n : Nat} (h0 : 0 ≤ x.toInt) (h1 : x.toInt ≤ 63) (h2 : a ≤ r.toInt) (h3 : r.toInt ≤ b) (et : t = x >>> (r &&& 31)) (ev : v = (t &&& 1)) (c : v = 0) (eq : q = (1 : Int32) <<< (r &&& 31)) (ez : z = x ||| q) (hn : ms_pc x = n) (g : (decide (0 ≤ a) && decide (b ≤ 5)) = true := by decide) : ms_pc z = n + 1 := by
  simp only [Bool.and_eq_true, decide_eq_true_eq] at g
  obtain ⟨j, hj, -, rfl⟩ := rg_nat h0 h1 (by decide)
  obtain ⟨k, hk, -, rfl⟩ := rg_nat h2 h3 (by simp only [decide_eq_true_eq]; omega)
  subst et; subst ev; subst eq; subst ez
  rw [ms_pcUN j (by omega) k (by omega) c, hn]
theorem ms_pc6N : ∀ n : Nat, n < 64 → ∀ k : Nat, k < 6 → ((nI n >>> (nI k &&& 31)) &&& 1) = 0 → ¬ ms_pc (nI n) = 6 := by decide +kernel
theorem ms_pc6 {x r t v : Int32} {a b : Int} (h0 : 0 ≤ x.toInt) (h1 : x.toInt ≤ 63) (h2 : a ≤ r.toInt) (h3 : r.toInt ≤ b) (et : t = x >>> (r &&& 31)) (ev : v = (t &&& 1)) (c : v = 0) (hn : ms_pc x = 6) (g : (decide (0 ≤ a) && decide (b ≤ 5)) = true := by decide) : False := by
  simp only [Bool.and_eq_true, decide_eq_true_eq] at g
  obtain ⟨j, hj, -, rfl⟩ := rg_nat h0 h1 (by decide)
  obtain ⟨k, hk, -, rfl⟩ := rg_nat h2 h3 (by simp only [decide_eq_true_eq]; omega)
  subst et; subst ev
  exact ms_pc6N j (by omega) k (by omega) c hn
/-- alike, but between two places -/
def rg_F (f g : Nat → Int32) (lo hi : Int) : Prop := ∀ j : Nat, (j : Int) < lo ∨ hi < (j : Int) → f j = g j
theorem rg_Frefl (f : Nat → Int32) (lo hi : Int) : rg_F f f lo hi := fun _ _ => rfl
theorem rg_Fst {f h : Nat → Int32} {x y : Int32} {a b : Int} (e : h = upd f x.toNatClampNeg y) (h1 : a ≤ x.toInt) (h2 : x.toInt ≤ b) (g : decide (0 ≤ a) = true) : rg_F h f a b := fun j hj => by
  subst e
  have h3 := rg_cl h1 h2 g
  exact pk_un (by omega)
theorem rg_Ftr {f g h : Nat → Int32} {a b c d lo hi : Int} (p : rg_F h f a b) (q : rg_F f g c d) (gd : (decide (lo ≤ a) && decide (lo ≤ c) && decide (b ≤ hi) && decide (d ≤ hi)) = true) : rg_F h g lo hi := fun j hj => by
  simp only [Bool.and_eq_true, decide_eq_true_eq] at gd
  exact (p j (by omega)).trans (q j (by omega))
theorem rg_Fmono {f g : Nat → Int32} {a b lo hi : Int} (p : rg_F f g a b) (gd : (decide (lo ≤ a) && decide (b ≤ hi)) = true) : rg_F f g lo hi := fun j hj => by
  simp only [Bool.and_eq_true, decide_eq_true_eq] at gd
  exact p j (by omega)
theorem rg_Fat {f g : Nat → Int32} {x : Int32} {a b lo hi : Int} (p : rg_F f g lo hi) (h1 : a ≤ x.toInt) (h2 : x.toInt ≤ b) (gd : (decide (0 ≤ a) && (decide (b < lo) || decide (hi < a))) = true) : f x.toNatClampNeg = g x.toNatClampNeg := by
  simp only [Bool.and_eq_true, Bool.or_eq_true, decide_eq_true_eq] at gd
  have h3 := rg_cl h1 h2 (by simp only [decide_eq_true_eq]; omega)
  exact p _ (by omega)
theorem rg_Scp {f g h : Nat → Int32} {s e k : Nat} {lo hi : Int} {x : Int32} (hf : rg_S f s e lo hi) (eh : h = upd f k x) (hg : rg_S g s e lo hi) (ex : x = g k) : rg_S h s e lo hi := fun j a b => by
  subst eh
  by_cases hj : j = k
  · subst hj; rw [pk_us, ex]; exact hg j a b
  · rw [pk_un hj]; exact hf j a b
theorem rg_msl {N : Int} {n : Nat} {x z : Int32} (h : N + 1 ≤ x.toInt + ((n + 1 : Nat) : Int)) (c : x < z) : N + 1 ≤ z.toInt + (n : Int) := by
  have := Int32.lt_iff_toInt_lt.mp c
  omega
theorem rg_msg {N : Int} {n : Nat} {x z k : Int} (h : N + 1 ≤ x + ((n + 1 : Nat) : Int)) (c : x + k ≤ z) (g : decide (1 ≤ k) = true) : N + 1 ≤ z + (n : Int) := by
  have := of_decide_eq_true g
  omega
theorem rg_getr (k : Int) {r x z d n : Int} (h : r + d ≤ x) (e : z = x + n) (g : decide (k ≤ d + n) = true) : r + k ≤ z := by
  have := of_decide_eq_true g
  omega
theorem rg_get2 (k : Int) {r x z d n : Int} (h : r + d ≤ x) (e : x + n ≤ z) (g : decide (k ≤ d + n) = true) : r + k ≤ z := by
  have := of_decide_eq_true g
  omega
theorem rg_gem {r x d k : Int} (h : r + d ≤ x) (g : decide (k ≤ d) = true) : r + k ≤ x := by
  have := of_decide_eq_true g
  omega
theorem rg_min64 (x : Int64) : -9223372036854775808 ≤ x.toInt := by have := Int64.le_toInt x; omega
theorem rg_max64 (x : Int64) : x.toInt ≤ 9223372036854775807 := by have := Int64.toInt_lt x; omega
theorem rg_o64l {x : Int32} {a : Int} (h : a ≤ x.toInt) : a ≤ x.toInt64.toInt := by rw [Int32.toInt_toInt64]; exact h
theorem rg_o64h {x : Int32} {a : Int} (h : x.toInt ≤ a) : x.toInt64.toInt ≤ a := by rw [Int32.toInt_toInt64]; exact h
theorem rg_fit64 {z : Int} (h1 : -9223372036854775808 ≤ z) (h2 : z ≤ 9223372036854775807) : z.bmod (2 ^ 64) = z := by
  rw [Int.bmod_def]
  split <;> omega
section RGL
variable {p : Program} {l : Launch} {e : Env} {R : Room} {s : State} {m : MethodId} {args : Array Value} {below : List Frame} {meth : Method} {c : Code} {H : Heap} {locs : List Loc} {cells slots : Nat} {Q : State → Prop} {cc : ByteArray} {pc : Nat} {ls : Array Slot} {rest : List Value} {x y : Int64} {a b c1 d lo hi : Int}
theorem rg_ladd (hx : p.tables.exec = Jvm.exec) (hb : c.code = cc) (hdg : decode cc pc = .ok (.ladd, 1)) (h1 : a ≤ x.toInt) (h2 : x.toInt ≤ b) (h3 : c1 ≤ y.toInt) (h4 : y.toInt ≤ d) (g : (decide (-9223372036854775808 ≤ a + c1) && decide (b + d ≤ 9223372036854775807) && decide (lo ≤ a + c1) && decide (b + d ≤ hi)) = true)
    (kk : ∀ z : Int64, z.toInt = x.toInt + y.toInt → lo ≤ z.toInt → z.toInt ≤ hi → W p l e R s m args below meth c H locs cells slots Q (F0 m (pc + 1) ls (.long z :: rest))) : W p l e R s m args below meth c H locs cells slots Q (F0 m pc ls (.long y :: .long x :: rest)) := by
  simp only [Bool.and_eq_true, decide_eq_true_eq] at g
  have h5 : (x + y).toInt = x.toInt + y.toInt := by rw [Int64.toInt_add]; exact rg_fit64 (by omega) (by omega)
  exact lv_ladd hx hb hdg (kk _ h5 (by omega) (by omega))
theorem rg_lmul (hx : p.tables.exec = Jvm.exec) (hb : c.code = cc) (hdg : decode cc pc = .ok (.lmul, 1)) (h1 : a ≤ x.toInt) (h2 : x.toInt ≤ b) (h3 : c1 ≤ y.toInt) (h4 : y.toInt ≤ d) (g : (decide (0 ≤ a) && decide (0 ≤ c1) && decide (b * d ≤ 9223372036854775807) && decide (lo ≤ a * c1) && decide (b * d ≤ hi)) = true)
    (kk : ∀ z : Int64, z.toInt = x.toInt * y.toInt → lo ≤ z.toInt → z.toInt ≤ hi → W p l e R s m args below meth c H locs cells slots Q (F0 m (pc + 1) ls (.long z :: rest))) : W p l e R s m args below meth c H locs cells slots Q (F0 m pc ls (.long y :: .long x :: rest)) := by
  simp only [Bool.and_eq_true, decide_eq_true_eq] at g
  have k1 : a * c1 ≤ x.toInt * y.toInt := Int.mul_le_mul h1 h3 (by omega) (by omega)
  have k2 : x.toInt * y.toInt ≤ b * d := Int.mul_le_mul h2 h4 (by omega) (by omega)
  have k3 : 0 ≤ a * c1 := Int.mul_nonneg (by omega) (by omega)
  have h5 : (x * y).toInt = x.toInt * y.toInt := by rw [Int64.toInt_mul]; exact rg_fit64 (by omega) (by omega)
  exact lv_lmul hx hb hdg (kk _ h5 (by omega) (by omega))
theorem rg_ldivI {x y : Int64} (hx0 : 0 ≤ x.toInt) (hy : 1 ≤ y.toInt) : (x / y).toInt = x.toInt / y.toInt := by
  rw [Int64.toInt_div, Int.tdiv_eq_ediv_of_nonneg hx0]
  have h1 := rg_max64 x
  have h2 : x.toInt / y.toInt ≤ x.toInt := Int.ediv_le_self _ hx0
  have h3 : 0 ≤ x.toInt / y.toInt := Int.ediv_nonneg hx0 (by omega)
  exact rg_fit64 (by omega) (by omega)
theorem rg_lremI {x y : Int64} (hx0 : 0 ≤ x.toInt) (hy : 1 ≤ y.toInt) : (x - x / y * y).toInt = x.toInt % y.toInt := by
  have h0 := rg_ldivI hx0 hy
  have h1 := rg_max64 x
  have h2 := Int.emod_add_mul_ediv x.toInt y.toInt
  have h3 := Int.emod_nonneg x.toInt (show y.toInt ≠ 0 by omega)
  have h4 : 0 ≤ x.toInt / y.toInt := Int.ediv_nonneg hx0 (by omega)
  have h5 : 0 ≤ x.toInt / y.toInt * y.toInt := Int.mul_nonneg h4 (by omega)
  have h6 : y.toInt * (x.toInt / y.toInt) = x.toInt / y.toInt * y.toInt := Int.mul_comm _ _
  have h7 : (x / y * y).toInt = x.toInt / y.toInt * y.toInt := by
    rw [Int64.toInt_mul, h0]
    exact rg_fit64 (by omega) (by omega)
  rw [Int64.toInt_sub, h7, rg_fit64 (by omega) (by omega)]
  omega
theorem rg_ldiv (hx : p.tables.exec = Jvm.exec) (hb : c.code = cc) (hdg : decode cc pc = .ok (.ldiv, 1)) (h1 : a ≤ x.toInt) (h2 : x.toInt ≤ b) (h3 : c1 ≤ y.toInt) (h4 : y.toInt ≤ c1) (g : (decide (0 ≤ a) && decide (1 ≤ c1) && decide (lo ≤ 0) && decide (b / c1 ≤ hi)) = true)
    (kk : ∀ z : Int64, z.toInt = x.toInt / y.toInt → lo ≤ z.toInt → z.toInt ≤ hi → W p l e R s m args below meth c H locs cells slots Q (F0 m (pc + 1) ls (.long z :: rest))) : W p l e R s m args below meth c H locs cells slots Q (F0 m pc ls (.long y :: .long x :: rest)) := by
  simp only [Bool.and_eq_true, decide_eq_true_eq] at g
  have h5 := rg_ldivI (x := x) (y := y) (by omega) (by omega)
  have h6 : x.toInt / y.toInt ≤ b / c1 := by
    rw [show y.toInt = c1 by omega]
    exact Int.ediv_le_ediv (by omega) h2
  have h7 : 0 ≤ x.toInt / y.toInt := Int.ediv_nonneg (by omega) (by omega)
  refine lv_ldiv hx hb hdg (fun h => ?_) (kk _ h5 (by omega) (by omega))
  rw [h] at h3
  have : (0 : Int64).toInt = 0 := by decide
  omega
theorem rg_lrem (hx : p.tables.exec = Jvm.exec) (hb : c.code = cc) (hdg : decode cc pc = .ok (.lrem, 1)) (h1 : a ≤ x.toInt) (h3 : c1 ≤ y.toInt) (h4 : y.toInt ≤ d) (g : (decide (0 ≤ a) && decide (1 ≤ c1) && decide (lo ≤ 0) && decide (d ≤ hi + 1)) = true)
    (kk : ∀ z : Int64, z.toInt = x.toInt % y.toInt → lo ≤ z.toInt → z.toInt ≤ hi → W p l e R s m args below meth c H locs cells slots Q (F0 m (pc + 1) ls (.long z :: rest))) : W p l e R s m args below meth c H locs cells slots Q (F0 m pc ls (.long y :: .long x :: rest)) := by
  simp only [Bool.and_eq_true, decide_eq_true_eq] at g
  have h5 := rg_lremI (x := x) (y := y) (by omega) (by omega)
  have h6 := Int.emod_nonneg x.toInt (show y.toInt ≠ 0 by omega)
  have h7 := Int.emod_lt_of_pos x.toInt (show 0 < y.toInt by omega)
  refine lv_lrem hx hb hdg (fun h => ?_) (kk _ h5 (by omega) (by omega))
  rw [h] at h3
  have : (0 : Int64).toInt = 0 := by decide
  omega
theorem rg_l2i (hx : p.tables.exec = Jvm.exec) (hb : c.code = cc) (hdg : decode cc pc = .ok (.l2i, 1)) (h1 : a ≤ x.toInt) (h2 : x.toInt ≤ b) (g : (decide (-2147483648 ≤ a) && decide (b ≤ 2147483647) && decide (lo ≤ a) && decide (b ≤ hi)) = true)
    (kk : ∀ z : Int32, z.toInt = x.toInt → lo ≤ z.toInt → z.toInt ≤ hi → W p l e R s m args below meth c H locs cells slots Q (F0 m (pc + 1) ls (.int z :: rest))) : W p l e R s m args below meth c H locs cells slots Q (F0 m pc ls (.long x :: rest)) := by
  simp only [Bool.and_eq_true, decide_eq_true_eq] at g
  have h5 : (x.toInt32).toInt = x.toInt := by rw [Int64.toInt_toInt32]; exact rg_fit (by omega) (by omega)
  exact lv_l2i (v := x.toInt32) hx hb hdg rfl (kk _ h5 (by omega) (by omega))
end RGL
