theorem ms_lowbit (x : Int32) (h : ¬ x = 0) : (x &&& (x - 1)).toBitVec.toNat < x.toBitVec.toNat := by
  have hx : x.toBitVec.toNat ≠ 0 := fun e => h (Int32.toBitVec_inj.1 (BitVec.eq_of_toNat_eq (by rw [e]; rfl)))
  have h1 : (x - 1).toBitVec.toNat = x.toBitVec.toNat - 1 := by
    rw [Int32.toBitVec_sub, BitVec.toNat_sub]
    have h2 : (1 : Int32).toBitVec.toNat = 1 := by decide
    have h3 := x.toBitVec.isLt
    rw [h2]
    omega
  rw [Int32.toBitVec_and, BitVec.toNat_and, h1]
  exact Nat.lt_of_le_of_lt Nat.and_le_right (by omega)
theorem ms_bsN : ∀ n : Nat, n < 512 → 0 < n → 0 ≤ (nI n &&& (nI n - 1)).toInt ∧ (nI n &&& (nI n - 1)).toInt ≤ 511 ∧ nI (ms_pc (nI n)) = 1 + nI (ms_pc (nI n &&& (nI n - 1))) := by decide +kernel
def ms_bsI (v x y : Int32) : Prop := 0 ≤ v.toInt → v.toInt ≤ 511 → 0 ≤ x.toInt ∧ x.toInt ≤ 511 ∧ y + nI (ms_pc x) = nI (ms_pc v)
theorem ms_bsS {v x y z : Int32} (h : ms_bsI v x y) (c : ¬ x = 0) (ez : y + Int32.ofInt 1 = z) : ms_bsI v (x &&& (x - 1)) z := by
  intro h0 h1
  obtain ⟨a0, a1, a2⟩ := h h0 h1
  obtain ⟨n, hn, hl, rfl⟩ := rg_nat a0 a1 (by decide)
  have hp : 0 < n := by
    apply Nat.pos_of_ne_zero
    intro q
    exact c (by rw [q]; decide)
  obtain ⟨b0, b1, b2⟩ := ms_bsN n (by omega) hp
  refine ⟨b0, b1, ?_⟩
  rw [← a2, b2, ← ez, show Int32.ofInt 1 = 1 from rfl, Int32.add_assoc]
theorem ms_bsZ {v x y : Int32} (h : ms_bsI v x y) (c : x = 0) : 0 ≤ v.toInt → v.toInt ≤ 511 → y = nI (ms_pc v) := by
  intro h0 h1
  obtain ⟨a0, a1, a2⟩ := h h0 h1
  rw [c] at a2
  rw [← a2, show nI (ms_pc 0) = 0 by decide, Int32.add_zero]
set_option maxHeartbeats 4000000 in
set_option maxRecDepth 100000 in
theorem c_bits (l : Launch) (D : va_G) (cA : Nat → ClassId) (v : Int32) : ms_Mi l yX11_bits wsX11_bits ({ frames := 0, cells := 0, slots := 0, locals := 0 } : Room) D cA [.int v] [] (fun (r : Int32) (_ : Unit) => 0 ≤ v.toInt → v.toInt ≤ 511 → r = nI (ms_pc v)) (fun _ => []) := by
  refine ms_Mi_of (cc := cX11_bits) (maxL := 3) (ret := (some .int)) (by decide) rfl (Nat.le_of_ble_eq_true rfl) ?_
  intro p e s m args below meth c A ls hB hE hA hP hD hS hl
  obtain ⟨hx, hb, hr, hml, hown, hts, hlk, hnm⟩ := hB
  have hl : lv_has ls 3 [(0, .int v)] := hl
  refine lv_iconst (v := 0) hx hb dX11_bits_0 (by decide) ?_
  refine lv_istore_n (lv' := [(1, .int 0), (0, .int v)]) hx hb dX11_bits_1 rfl hl (by decide) rfl (fun ls hl => ?_)
  refine lv_iload_n hx hb dX11_bits_2 rfl (lv_at hl 1 rfl) ?_
  refine lv_istore_n (lv' := [(2, .int v), (1, .int 0), (0, .int v)]) hx hb dX11_bits_3 rfl hl (by decide) rfl (fun ls hl => ?_)
  have lp : ∀ (n : Nat) (x y : Int32) (ls : Array Slot), x.toBitVec.toNat < n → ms_bsI v x y → lv_has ls 3 [(2, .int x), (1, .int y), (0, .int v)] → W p l e ({ frames := 0, cells := 0, slots := 0, locals := 0 } : Room) s m args below meth c s.heap [] 0 0 (MQ below (ms_Qi D A (fun (r : Int32) (_ : Unit) => 0 ≤ v.toInt → v.toInt ≤ 511 → r = nI (ms_pc v)) (fun _ => [])) args s 0 0 A) (F0 m 4 ls []) := by
    intro n
    induction n with
    | zero => intro x y ls h _; exact absurd h (Nat.not_lt_zero _)
    | succ n ih =>
      intro x y ls hn hbs hl
      refine lv_iload_n hx hb dX11_bits_4 rfl (lv_at hl 0 rfl) ?_
      refine lv_if_eq (tgt := 20) hx hb dX11_bits_5 (by decide) (fun c1 => ?_) (fun c1 => ?_)
      · refine lv_iload_n hx hb dX11_bits_20 rfl (lv_at hl 1 rfl) ?_
        exact ms_iret hx hb hr hlk () (ms_bsZ hbs c1) hP hD hS (Nat.le_of_ble_eq_true rfl) (Nat.le_of_ble_eq_true rfl) dX11_bits_21
      · obtain ⟨z, ez⟩ : ∃ z : Int32, y + Int32.ofInt 1 = z := ⟨_, rfl⟩
        refine lv_iinc (v := z) (lv' := [(1, .int z), (2, .int x), (0, .int v)]) hx hb dX11_bits_8 hl (k := 1) rfl ez (by decide) rfl (fun ls hl => ?_)
        refine lv_iload_n hx hb dX11_bits_11 rfl (lv_at hl 1 rfl) ?_
        refine lv_iload_n hx hb dX11_bits_12 rfl (lv_at hl 1 rfl) ?_
        refine lv_iconst (v := 1) hx hb dX11_bits_13 (by decide) ?_
        refine lv_isub hx hb dX11_bits_14 ?_
        refine lv_iand hx hb dX11_bits_15 ?_
        refine lv_istore_n (lv' := [(2, .int (x &&& (x - 1))), (1, .int z), (0, .int v)]) hx hb dX11_bits_16 rfl hl (by decide) rfl (fun ls hl => ?_)
        refine lv_goto (tgt := 4) hx hb dX11_bits_17 (by decide) ?_
        exact ih _ z ls (Nat.lt_of_lt_of_le (ms_lowbit x c1) (Nat.le_of_lt_succ hn)) (ms_bsS hbs c1 ez) hl
  exact lp (v.toBitVec.toNat + 1) v 0 ls (Nat.lt_succ_self _) (fun h0 h1 => ⟨h0, h1, by rw [Int32.zero_add]⟩) hl
theorem ms_lbitN : ∀ n : Nat, n < 64 → 0 < n → ∃ N : Nat, N < 6 ∧ ((nI n >>> (nI N &&& 31)) &&& 1) = 1 := by
  have h : ∀ n : Nat, n < 64 → 0 < n → (List.range 6).any (fun N => decide (((nI n >>> (nI N &&& 31)) &&& 1) = 1)) = true := by decide +kernel
  intro n h1 h2
  obtain ⟨N, hm, hd⟩ := List.any_eq_true.mp (h n h1 h2)
  exact ⟨N, List.mem_range.mp hm, of_decide_eq_true hd⟩
theorem ms_lbit {v : Int32} (h1 : 1 ≤ v.toInt) (h2 : v.toInt ≤ 63) : ∃ N : Nat, N < 6 ∧ ((v >>> (nI N &&& 31)) &&& 1) = 1 := by
  obtain ⟨n, hn, hl, rfl⟩ := rg_nat h1 h2 (by decide)
  have h3 : (nI n).toInt = (n : Int) := nI_toInt hl
  exact ms_lbitN n (by omega) (by omega)
def ms_hr (f : Nat → Int32) (a n : Int32) : Int32 := if a < n then f a.toNatClampNeg else -1
