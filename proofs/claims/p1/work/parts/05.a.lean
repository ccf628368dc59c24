/-! THE CLAIM OUT OF ONE WALK OF THE LAW'S BODY. Your part is whole_start (and what it stands on); all else here is the same for every law, but numbers. -/
def R_law : String := "MovedStonesLaw"
def lw_P (b : Addr) (xs : List Int32) (args : Array Value) (s : State) : Prop := args = #[.ref b] ∧ s.IntsAt b xs ∧ xs.length ≤ 4 ∧ (Jvm.Cond.and given_1 narrow_1).before args s = true
def lw_Q (_ : Array Value) (s : State) (o : Outcome) (t : State) : Prop := o = .returned (some (.int 1)) ∧ Framed s o t [] 600000 7302250
def lw_Z (below : List Frame) (a : Array Value) (s : State) : State → Prop := fun t => ∃ o, t.status = .running ∧ Ended t below o ∧ lw_Q a s o t
/-- the law's own end, with 1 on the stack, nothing written that was there before, its room as the claim has it -/
theorem lw_ret {p : Program} {l : Launch} {e : Env} {s : State} {m : MethodId} {below : List Frame} {meth : Method} {c : Code} {b : Nat} (hx : p.tables.exec = Jvm.exec) (hb : c.code = code) (hr : meth.sig.returnType = ret) (hlocks : meth.locks = false) {pc : Nat} {H : Heap} {ls : Array Slot} (hdg : decode code pc = .ok (.ireturn, 1)) : W p l e room_1 s m #[Value.ref b] below meth c H [] 600000 7302250 (lw_Z below #[Value.ref b] s) (F0 m pc ls [.int 1]) := by
  intro T hT X
  obtain ⟨fs, hret, hrun, hended, hW, hframe⟩ := X.leave (v := some (.int 1)) (hlocks := hlocks) (fun h => by rw [hr] at h; cases h)
  have hmeth' : T.vm.method? m = some meth := X.method'
  refine ⟨T.setFrames fs, ?_, .returned (some (.int 1)), hrun, hended, rfl, ⟨_, rfl⟩, hW, hframe⟩
  jvm_step X.here [X.here.top, hx, hb, hdg, hmeth', hr, ret, narrow_b1]
  (try refine ⟨rfl, ?_⟩); (try refine ⟨rfl, ?_⟩)
  first | (intro acts; rw [hret _ acts rfl rfl rfl]) | rw [hret _ _ rfl rfl rfl]
  exact Steps.refl _
/-- what holds at the law's entry: the machine, the code, the tables' words (any of lw_tbl by 'hts w (by decide +kernel)'), the script of L ints xs at the cell b, what the Statement gives of the start (any of its parts by flat_of_before) -/
def lw_At (p : Program) (s : State) (m : MethodId) (meth : Method) (c : Code) (b L : Nat) (xs : Nat → Int32) : Prop :=
  p.tables.exec = Jvm.exec ∧ c.code = code ∧ meth.sig.returnType = ret ∧ c.maxLocals = 4 ∧ s.vm.findClass R_law = some m.cls ∧ (∀ w ∈ lw_tbl, w.before #[Value.ref b] s = true) ∧ va_X b L xs s s.heap ∧ b < s.heap.size ∧ meth.locks = false ∧ (Jvm.Cond.and given_1 narrow_1).before #[Value.ref b] s = true
def ms_WX (cA : Nat → ClassId) (hx0 : Nat) (ux : Nat → Nat) : va_W := [(hx0, .inr (10, [.ref ((ux 0)), .ref ((ux 11)), .ref ((ux 20)), .ref ((ux 22)), .ref ((ux 24)), .int 0, .ref ((ux 31)), .ref ((ux 38)), .ref ((ux 41)), .ref ((ux 44)), .ref ((ux 47)), .ref ((ux 48))])), ((ux 0), .inr (6, [.ref ((ux 1)), .int 0, .int 0, .int 0, .int 0, .ref ((ux 2)), .int 0, .int (-1)])), ((ux 1), .inl (cA 0, 250, .inl ms_z)), ((ux 2), .inr (2, [.int 0, .int 0, .int 0, .int 0, .int 0, .ref ((ux 3)), .ref ((ux 4)), .ref ((ux 5)), .ref ((ux 6)), .ref ((ux 7)), .ref ((ux 8)), .ref ((ux 9)), .ref ((ux 10))])), ((ux 3), .inl (cA 0, 9, .inl ms_z)), ((ux 4), .inl (cA 0, 9, .inl ms_z)), ((ux 5), .inl (cA 0, 9, .inl ms_z)), ((ux 6), .inl (cA 0, 9, .inl ms_z)), ((ux 7), .inl (cA 0, 9, .inl ms_z)), ((ux 8), .inl (cA 0, 6, .inl ms_z)), ((ux 9), .inl (cA 0, 6, .inl ms_z)), ((ux 10), .inl (cA 0, 6, .inl ms_z)), ((ux 11), .inr (2, [.int 0, .int 0, .int 0, .int 0, .int 0, .ref ((ux 12)), .ref ((ux 13)), .ref ((ux 14)), .ref ((ux 15)), .ref ((ux 16)), .ref ((ux 17)), .ref ((ux 18)), .ref ((ux 19))])), ((ux 12), .inl (cA 0, 9, .inl ms_z)), ((ux 13), .inl (cA 0, 9, .inl ms_z)), ((ux 14), .inl (cA 0, 9, .inl ms_z)), ((ux 15), .inl (cA 0, 9, .inl ms_z)), ((ux 16), .inl (cA 0, 9, .inl ms_z)), ((ux 17), .inl (cA 0, 6, .inl ms_z)), ((ux 18), .inl (cA 0, 6, .inl ms_z)), ((ux 19), .inl (cA 0, 6, .inl ms_z)), ((ux 20), .inr (8, [.ref ((ux 21)), .int 0, .int 0, .int 0, .int (-1), .int (-1)])), ((ux 21), .inl (cA 0, 9, .inl ms_z)), ((ux 22), .inr (0, [.ref ((ux 23)), .int 0, .int 0])), ((ux 23), .inl (cA 3, 20, .inr (.inr (.inr (.inr (fun _ => none)))))), ((ux 24), .inl (cA 2, 2, .inr (.inr (.inr (.inr (va_up (va_up (fun _ => none) 0 (some ((ux 25)))) 1 (some ((ux 28))))))))), ((ux 25), .inr (1, [.ref ((ux 26)), .int 0, .int 0])), ((ux 26), .inr (8, [.ref ((ux 27)), .int 0, .int 0, .int 0, .int (-1), .int (-1)])), ((ux 27), .inl (cA 0, 9, .inl ms_z)), ((ux 28), .inr (1, [.ref ((ux 29)), .int 0, .int 0])), ((ux 29), .inr (8, [.ref ((ux 30)), .int 0, .int 0, .int 0, .int (-1), .int (-1)])), ((ux 30), .inl (cA 0, 9, .inl ms_z)), ((ux 31), .inr (5, [.ref ((ux 32)), .ref ((ux 33)), .ref ((ux 34)), .ref ((ux 35)), .int 0, .ref ((ux 36)), .ref ((ux 37)), .int 0])), ((ux 32), .inl (cA 0, 9, .inl ms_z)), ((ux 33), .inl (cA 0, 8, .inl ms_z)), ((ux 34), .inl (cA 0, 8, .inl ms_z)), ((ux 35), .inl (cA 0, 8, .inl ms_z)), ((ux 36), .inl (cA 0, 15, .inl ms_z)), ((ux 37), .inl (cA 0, 15, .inl ms_z)), ((ux 38), .inr (9, [.ref ((ux 39)), .ref ((ux 40)), .int 0])), ((ux 39), .inl (cA 0, 6, .inl ms_z)), ((ux 40), .inl (cA 0, 6, .inl ms_z)), ((ux 41), .inr (3, [.ref ((ux 42)), .ref ((ux 43))])), ((ux 42), .inl (cA 0, 9, .inl ms_z)), ((ux 43), .inl (cA 0, 6, .inl ms_z)), ((ux 44), .inr (4, [.ref ((ux 45)), .int 0, .ref ((ux 46)), .int 0])), ((ux 45), .inl (cA 0, 5, .inl ms_z)), ((ux 46), .inl (cA 0, 9, .inl ms_z)), ((ux 47), .inr (7, [.int 0, .int 0, .int 0, .int 0])), ((ux 48), .inl (cA 0, 9, .inl ms_z))]
def ms_WM (cA : Nat → ClassId) (hm0 : Nat) (um : Nat → Nat) : va_W := [(hm0, .inr (11, [.ref ((um 16)), .ref ((um 0)), .ref ((um 14)), .ref ((um 1)), .int 0, .ref ((um 2)), .ref ((um 15)), .long 0, .ref ((um 3)), .int 0, .int (-1), .ref ((um 17)), .ref ((um 4)), .int 0, .ref ((um 5)), .int 0, .int 0, .int 0, .int 0, .int 0, .int 0, .int 0, .ref ((um 6)), .ref ((um 7)), .ref ((um 8)), .int 0, .ref ((um 9)), .ref ((um 10)), .ref ((um 11)), .ref ((um 12)), .int 0, .ref ((um 13))])), ((um 0), .inl (cA 0, 68, .inl ms_z)), ((um 1), .inl (cA 0, 280, .inl ms_z)), ((um 2), .inl (cA 0, 30, .inl ms_z)), ((um 3), .inl (cA 0, 250, .inl ms_z)), ((um 4), .inl (cA 0, 16, .inl ms_z)), ((um 5), .inl (cA 0, 30, .inl ms_z)), ((um 6), .inl (cA 0, 6, .inl ms_z)), ((um 7), .inl (cA 0, 9, .inl ms_z)), ((um 8), .inl (cA 0, 6, .inl ms_z)), ((um 9), .inl (cA 0, 9, .inl ms_z)), ((um 10), .inl (cA 0, 9, .inl ms_z)), ((um 11), .inl (cA 0, 9, .inl ms_z)), ((um 12), .inl (cA 0, 5, .inl ms_z)), ((um 13), .inl (cA 0, 5, .inl ms_z)), ((um 14), .inl (cA 0, 14, .inl ms_n)), ((um 15), .inl (cA 1, 2, .inl ms_z)), ((um 16), .inl (cA 0, 68, .inl ms_z)), ((um 17), .inl (cA 0, 9, .inl ms_z))]
section SLD
variable {p : Program} {l : Launch} {e : Env} {R : Room} {s : State} {m : MethodId} {args : Array Value} {below : List Frame} {meth : Method} {c : Code} {H : Heap} {locs : List Loc} {cells slots : Nat} {Q : State → Prop} {cc : ByteArray} {pc : Nat} {ls : Array Slot} {rest : List Value} {A : Nat → Prop}
theorem ms_sld {b L : Nat} {xs : Nat → Int32} {i : Int32} (hx : p.tables.exec = Jvm.exec) (hb : c.code = cc) (hX : va_X b L xs s s.heap) (hbl : b < s.heap.size) (hbA : ¬ A b) (hS : va_S A s.heap H locs) (k : Nat) (hi : i = nI k) (hk : k < L) (hL : L < 2 ^ 31) (hdg : decode cc pc = .ok (.iaload, 1))
    (kk : W p l e R s m args below meth c H locs cells slots Q (F0 m (pc + 1) ls (.int (xs k) :: rest))) : W p l e R s m args below meth c H locs cells slots Q (F0 m pc ls (.int i :: .ref b :: rest)) := by
  obtain ⟨h1, h2⟩ := ms_ix hi hk hL
  refine va_sld hx hb hX hbl hbA hS h1 hdg ?_
  rw [h2]
  exact kk
end SLD
set_option maxHeartbeats 4000000 in
set_option maxRecDepth 100000 in
theorem law_end {p : Program} {l : Launch} {e : Env} {s : State} {m : MethodId} {below : List Frame} {meth : Method} {c : Code} {b : Nat} {xs : Nat → Int32} {H : Heap} {locs : List Loc} {ls : Array Slot} {cells slots : Nat} {x1 x2 : Nat} (C0 : lw_At p s m meth c b 4 xs) (hc : cells ≤ 600000) (hs : slots ≤ 7302250) (hS : va_S (fun q : Nat => s.heap.size ≤ q) s.heap H locs) (hl : lv_has ls 4 [(3, .int 0), (2, .ref x2), (1, .ref x1), (0, .ref b)]) : W p l e room_1 s m #[Value.ref b] below meth c H locs cells slots (lw_Z below #[Value.ref b] s) (F0 m 988 ls []) := by
  obtain ⟨hx, hb, hr, hml, hown, hts, hX, hbl, hlocks, hgv⟩ := C0
  have hb : c.code = cL_law := hb
  have hbA : ¬ (fun q : Nat => s.heap.size ≤ q) b := Nat.not_le.mpr hbl
  refine lv_iinc (v := 4) (lv' := [(3, .int 4), (2, .ref x2), (1, .ref x1), (0, .ref b)]) hx hb dL_law_988 hl (k := 0) rfl (by decide) (by decide) rfl (fun ls hl => ?_)
  refine lv_goto (tgt := 18) hx hb dL_law_991 (by decide) ?_
  refine lv_iload_n hx hb dL_law_18 rfl (lv_at hl 0 rfl) ?_
  refine lv_aload_n hx hb dL_law_19 rfl (lv_at hl 3 rfl) ?_
  refine va_slen hx hb hX hbl hbA hS dL_law_20 ?_
  refine lv_iconst (v := 4) hx hb dL_law_21 (by decide) ?_
  refine lv_isub hx hb dL_law_22 ?_
  refine ms_eqi (y := 0) (by decide) ?_
  refine lv_icmp_gt (tgt := 994) hx hb dL_law_23 (by decide) (fun _ => ?_) (fun c => absurd (by decide) c)
  refine lv_iconst (v := 1) hx hb dL_law_994 (by decide) ?_
  refine va_forget (fun q hq => hS.2.2 q hq) ?_
  refine W.widen (k := 600000) (n := 7302250) hc hs ?_
  exact lw_ret hx hb hr hlocks dL_law_995
