/-! contracts over a whole world out of contracts over some of its cells -/
theorem ms_subA {X wc pl : va_W} {isC : List Nat} {sz : Nat} (hC : isC.map (fun i => X[i]?) = wc.map some) : ∀ q, va_A wc sz q → va_A (X ++ pl) sz q := by
  intro q hq
  rw [ms_vaA] at hq ⊢
  rcases hq with ⟨e, he⟩ | he
  · refine Or.inl ⟨e, List.mem_append_left _ ?_⟩
    have h1 : some (q, e) ∈ wc.map some := List.mem_map.mpr ⟨_, he, rfl⟩
    rw [← hC] at h1
    obtain ⟨i, _, hi⟩ := List.mem_map.mp h1
    exact List.mem_of_getElem? hi
  · exact Or.inr he
theorem ms_subP {X wc pl : va_W} {isC : List Nat} {sz : Nat} (hC : isC.map (fun i => X[i]?) = wc.map some) : ∀ q, va_A (wc ++ pl) sz q → va_A (X ++ pl) sz q := by
  intro q hq
  rw [ms_vaA] at hq
  rcases hq with ⟨e, he⟩ | he
  · rcases List.mem_append.mp he with he | he
    · exact ms_subA hC q (ms_vaA.mpr (Or.inl ⟨e, he⟩))
    · exact ms_vaA.mpr (Or.inl ⟨e, List.mem_append_right _ he⟩)
  · exact ms_vaA.mpr (Or.inr he)
theorem ms_MiW {l : Launch} {y : MethodName} {wd : List Cond} {rm : Room} {D : va_G} {cA : Nat → ClassId} {av : List Value} {X wc wr pl : va_W} {S S' : Type} {post : Int32 → S → Prop} {w1 : S → va_W} {post' : Int32 → S' → Prop} {wF : S' → va_W} (h : ms_Mi l y wd rm D cA av wc post w1) (isC isR : List Nat) (hC : isC.map (fun i => X[i]?) = wc.map some) (hR : isR.map (fun i => X[i]?) = wr.map some) (hnC : va_nd isC = true) (hn : va_nd isR = true) (hdis : ∀ i ∈ isR, i ∉ isC)
    (hq : ∀ (r : Int32) (u : S), post r u → ∃ (u' : S') (X' : va_W) (isP : List Nat), wF u' = X' ++ pl ∧ isP.map (fun i => (wr ++ w1 u)[i]?) = X'.map some ∧ va_nd isP = true ∧ post' r u') : ms_Mi l y wd rm D cA av (X ++ pl) post' wF := by
  intro sz p e ha hc hk s m args below hf happ hP hC0
  obtain ⟨hav, hsz, hPp, hEV, hDd⟩ := hP
  obtain ⟨t, o, h1, h2, h3, ⟨⟨⟨r, u, ho, hpo, hP1, hD1⟩, hFr⟩, Lx, h5, h6⟩⟩ := h sz p e ha hc hk s m args below hf happ ⟨hav, hsz, (ms_leftP hPp).sub isC (ms_fm hC), hEV, (ms_leftD hDd).sub isC hnC hC⟩ hC0
  have hsub : ∀ q, va_A wc sz q → va_A (X ++ pl) sz q := ms_subA hC
  have hDA : va_D (va_A (X ++ pl) sz) (X ++ pl) := ⟨hDd.1, fun k q hk => Or.inl ⟨k, q.2, hk⟩⟩
  subst hsz
  obtain ⟨hP2, hD2⟩ := va_joinQ hPp hDA isC isR hC hR hn hdis hFr.2 hsub hP1 hD1
  obtain ⟨u', X', isP, e1, e2, e3, hp'⟩ := hq r u hpo
  exact ⟨t, o, h1, h2, h3, ⟨⟨⟨r, u', ho, hp', by rw [e1]; exact hP2.part isP e2, by rw [e1]; exact hD2.part isP e3 e2⟩, hFr.1, fun q a b => hFr.2 q a (fun z => b (hsub q z))⟩, Lx, h5, fun q hq => hsub _ (h6 q hq)⟩⟩
theorem ms_MiWP {l : Launch} {y : MethodName} {wd : List Cond} {rm : Room} {D : va_G} {cA : Nat → ClassId} {av : List Value} {X wc wr pl : va_W} {S S' : Type} {post : Int32 → S → Prop} {w1 p1 : S → va_W} {post' : Int32 → S' → Prop} {wF : S' → va_W} (h : ms_Mi l y wd rm D cA av (wc ++ pl) post (fun u => w1 u ++ p1 u)) (isC isR : List Nat) (hC : isC.map (fun i => X[i]?) = wc.map some) (hR : isR.map (fun i => X[i]?) = wr.map some) (hnC : va_nd isC = true) (hn : va_nd isR = true) (hdis : ∀ i ∈ isR, i ∉ isC)
    (hq : ∀ (r : Int32) (u : S), post r u → ∃ (u' : S') (X' : va_W) (isP : List Nat), wF u' = X' ++ p1 u ∧ isP.map (fun i => (wr ++ w1 u)[i]?) = X'.map some ∧ va_nd isP = true ∧ post' r u') : ms_Mi l y wd rm D cA av (X ++ pl) post' wF := by
  intro sz p e ha hc hk s m args below hf happ hP hC0
  obtain ⟨hav, hsz, hPp, hEV, hDd⟩ := hP
  obtain ⟨t, o, h1, h2, h3, ⟨⟨⟨r, u, ho, hpo, hP1, hD1⟩, hFr⟩, Lx, h5, h6⟩⟩ := h sz p e ha hc hk s m args below hf happ ⟨hav, hsz, hPp.part isC hC, hEV, hDd.part isC hnC hC⟩ hC0
  have hsub : ∀ q, va_A (wc ++ pl) sz q → va_A (X ++ pl) sz q := ms_subP hC
  have hDA : va_D (va_A (X ++ pl) sz) (X ++ pl) := ⟨hDd.1, fun k q hk => Or.inl ⟨k, q.2, hk⟩⟩
  subst hsz
  obtain ⟨hP2, hD2⟩ := va_joinP hPp hDA isC isR hC hR hn hdis hFr.2 hsub hP1 hD1
  obtain ⟨u', X', isP, e1, e2, e3, hp'⟩ := hq r u hpo
  exact ⟨t, o, h1, h2, h3, ⟨⟨⟨r, u', ho, hp', by rw [e1]; exact hP2.part isP e2, by rw [e1]; exact hD2.part isP e3 e2⟩, hFr.1, fun q a b => hFr.2 q a (fun z => b (hsub q z))⟩, Lx, h5, fun q hq => hsub _ (h6 q hq)⟩⟩
theorem ms_MiWN {l : Launch} {y : MethodName} {wd : List Cond} {rm : Room} {D : va_G} {cA : Nat → ClassId} {av : List Value} {X wc wr : va_W} {S S' : Type} {post : Int32 → S → Prop} {w1 : S → va_W} {post' : Int32 → S' → Prop} {wF : S' → va_W} (h : ms_Mi l y wd rm D cA av wc post w1) (isC isR : List Nat) (hC : isC.map (fun i => X[i]?) = wc.map some) (hR : isR.map (fun i => X[i]?) = wr.map some) (hnC : va_nd isC = true) (hn : va_nd isR = true) (hdis : ∀ i ∈ isR, i ∉ isC)
    (hq : ∀ (r : Int32) (u : S), post r u → ∃ (u' : S') (isP : List Nat), isP.map (fun i => (wr ++ w1 u)[i]?) = (wF u').map some ∧ va_nd isP = true ∧ post' r u') : ms_Mi l y wd rm D cA av X post' wF := by
  have h9 := ms_MiW (pl := []) (wF := fun u => wF u ++ []) h isC isR hC hR hnC hn hdis (post' := post') (fun r u hp => by
    obtain ⟨u', isP, e2, e3, hp'⟩ := hq r u hp
    exact ⟨u', wF u', isP, rfl, e2, e3, hp'⟩)
  simpa only [List.append_nil] using h9
/-! feed, exactly -/
def ms_fd (len a r len' : Int32) (f f' : Nat → Int32) : Prop :=
  (¬ (0 ≤ a.toInt ∧ a.toInt ≤ 255) ∧ r = -1000000002 ∧ len' = len ∧ f' = f) ∨ ((0 ≤ a.toInt ∧ a.toInt ≤ 255) ∧ 250 ≤ len.toInt ∧ r = -1000000004 ∧ len' = len ∧ f' = f) ∨ ((0 ≤ a.toInt ∧ a.toInt ≤ 255) ∧ len.toInt ≤ 249 ∧ r = len' ∧ len'.toInt = len.toInt + 1 ∧ f' = upd f len.toNatClampNeg a)
theorem ms_fd1 {len a : Int32} {f : Nat → Int32} (h : a.toInt ≤ -1) : ms_fd len a (-1000000002) len f f := Or.inl ⟨fun q => by omega, rfl, rfl, rfl⟩
theorem ms_fd2 {len a : Int32} {f : Nat → Int32} (h : 256 ≤ a.toInt) : ms_fd len a (-1000000002) len f f := Or.inl ⟨fun q => by omega, rfl, rfl, rfl⟩
theorem ms_fd3 {len a : Int32} {f : Nat → Int32} (h1 : 0 ≤ a.toInt) (h2 : a.toInt ≤ 255) (h3 : 250 ≤ len.toInt) : ms_fd len a (-1000000004) len f f := Or.inr (Or.inl ⟨⟨h1, h2⟩, h3, rfl, rfl, rfl⟩)
theorem ms_fd4 {len len' a : Int32} {f f' : Nat → Int32} (h1 : 0 ≤ a.toInt) (h2 : a.toInt ≤ 255) (h3 : len.toInt ≤ 249) (h4 : len'.toInt = len.toInt + 1) (h5 : f' = upd f len.toNatClampNeg a) : ms_fd len a len' len' f f' := Or.inr (Or.inr ⟨⟨h1, h2⟩, h3, rfl, h4, h5⟩)
theorem ms_fd5 {len a : Int32} {f : Nat → Int32} (h : ¬ ((0 : Int64).toInt ≤ (a.toInt64).toInt ∧ (a.toInt64).toInt ≤ (255 : Int64).toInt)) : ms_fd len a (-1000000002) len f f := Or.inl ⟨fun q => h (by
  have e0 : (0 : Int64).toInt = 0 := by decide
  have e1 : (255 : Int64).toInt = 255 := by decide
  have e2 : a.toInt64.toInt = a.toInt := Int32.toInt_toInt64 _
  rw [e0, e1, e2]
  exact q), rfl, rfl, rfl⟩
theorem ms_fd_eq {len a r len1 r2 len2 : Int32} {f f1 f2 : Nat → Int32} (h : ms_fd len a r len1 f f1) (h2 : ms_fd len a r2 len2 f f2) : r = r2 ∧ len1 = len2 ∧ f1 = f2 := by
  rcases h with ⟨g1, rfl, rfl, rfl⟩ | ⟨g1, g2, rfl, rfl, rfl⟩ | ⟨g1, g2, rfl, g3, rfl⟩ <;> rcases h2 with ⟨k1, rfl, rfl, rfl⟩ | ⟨k1, k2, rfl, rfl, rfl⟩ | ⟨k1, k2, rfl, k3, rfl⟩
  · exact ⟨rfl, rfl, rfl⟩
  · exact absurd k1 g1
  · exact absurd k1 g1
  · exact absurd g1 k1
  · exact ⟨rfl, rfl, rfl⟩
  · omega
  · exact absurd g1 k1
  · omega
  · exact ⟨Int32.toInt_inj.mp (by rw [g3, k3]), Int32.toInt_inj.mp (by rw [g3, k3]), rfl⟩
theorem ms_fd6 {len len' a : Int32} {f f' : Nat → Int32} (h1 : 0 ≤ a.toInt) (h2 : a.toInt ≤ 255) (h3 : 250 ≤ len'.toInt) (e1 : len' = len) (e2 : f' = f) : ms_fd len a (-1000000004) len' f f' := by
  subst e1 e2
  exact ms_fd3 h1 h2 h3
theorem ms_fd7 {len len' a : Int32} {f f' : Nat → Int32} (h1 : 0 ≤ a.toInt) (h2 : a.toInt ≤ 255) (h3 : len'.toInt ≤ 250) (h4 : len'.toInt = len.toInt + 1) (h5 : f' = upd f len.toNatClampNeg a) : ms_fd len a len' len' f f' := ms_fd4 h1 h2 (by omega) h4 h5
/-! keep's answer -/
def ms_kr (a r : Int32) : Prop := ((0 ≤ a.toInt ∧ a.toInt ≤ 1) ∧ r = 1) ∨ (¬ (0 ≤ a.toInt ∧ a.toInt ≤ 1) ∧ r = -1000000001)
theorem ms_kr1 {a : Int32} (h : a.toInt ≤ -1) : ms_kr a (-1000000001) := Or.inr ⟨fun q => by omega, rfl⟩
theorem ms_kr2 {a : Int32} (h : 2 ≤ a.toInt) : ms_kr a (-1000000001) := Or.inr ⟨fun q => by omega, rfl⟩
theorem ms_kr5 {a : Int32} (h : ¬ ((0 : Int64).toInt ≤ (a.toInt64).toInt ∧ (a.toInt64).toInt ≤ (1 : Int64).toInt)) : ms_kr a (-1000000001) := Or.inr ⟨fun q => h (by
  have e0 : (0 : Int64).toInt = 0 := by decide
  have e1 : (1 : Int64).toInt = 1 := by decide
  have e2 : a.toInt64.toInt = a.toInt := Int32.toInt_toInt64 _
  rw [e0, e1, e2]
  exact q), rfl⟩
theorem ms_kreq {a r r2 : Int32} (h : ms_kr a r) (h2 : ms_kr a r2) : r = r2 := by
  rcases h with ⟨g, rfl⟩ | ⟨g, rfl⟩ <;> rcases h2 with ⟨k, rfl⟩ | ⟨k, rfl⟩
  · rfl
  · exact absurd g k
  · exact absurd k g
  · rfl
