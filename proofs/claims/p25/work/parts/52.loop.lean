set_option maxHeartbeats 4000000 in
set_option maxRecDepth 100000 in
theorem law_exit {l : Launch} {ma xa : Nat} {p : Program} {e : Env} {s : State} {m : MethodId} {below : List Frame} {meth : Method} {c : Code} {b0 L : Nat} {xs : Nat → Int32} {H : Heap} {locs : List Loc} {ls : Array Slot} {n : Nat} (C0 : lw_At p s m meth c b0 L xs) (hn : n ≤ 64) (hc : ¬ 4 * n + 4 ≤ L) (hL : L ≤ 256) (hS : va_S (fun q : Nat => s.heap.size ≤ q) s.heap H locs) (hl : lv_has ls 4 [(3, .int (nI (4 * n))), (2, .ref ma), (1, .ref xa), (0, .ref b0)]) : W p l e room_1 s m #[Value.ref b0] below meth c H locs (69 + 2 * n) (1489 + 15 * n) (lw_Z below #[Value.ref b0] s) (F0 m 18 ls []) := by
  obtain ⟨hx, hb, hr, hml, hown, hts, hX, hbl, hlocks, hgv⟩ := C0
  have hb : c.code = cL_law := hb
  have hbA : ¬ (fun q : Nat => s.heap.size ≤ q) b0 := Nat.not_le.mpr hbl
  refine lv_iload_n hx hb dL_law_18 rfl (lv_at hl 0 rfl) ?_
  refine lv_aload_n hx hb dL_law_19 rfl (lv_at hl 3 rfl) ?_
  refine va_slen hx hb hX hbl hbA hS dL_law_20 ?_
  refine lv_iconst (v := 4) hx hb dL_law_21 (by decide) ?_
  refine lv_isub hx hb dL_law_22 ?_
  refine lv_icmp_gt (tgt := 994) hx hb dL_law_23 (by decide) (fun _ => ?_) (fun q => absurd ((ms_hd hL hn).mpr (by omega)) q)
  refine lv_iconst (v := 1) hx hb dL_law_994 (by decide) ?_
  refine va_forget (fun q hq => hS.2.2 q hq) ?_
  refine W.widen (k := 600000) (n := 7302250) (by omega) (by omega) ?_
  exact lw_ret hx hb hr hlocks dL_law_995
set_option maxHeartbeats 4000000 in
set_option maxRecDepth 100000 in
theorem law_loop (l : Launch) (D : va_G) (cA : Nat → ClassId) (xa ma : Nat) (b : Nat → Nat) {p : Program} {e : Env} {s : State} {m : MethodId} {below : List Frame} {meth : Method} {c : Code} {b0 L : Nat} {xs : Nat → Int32} (C0 : lw_At p s m meth c b0 L xs) (hE : ms_EV D cA s) (hL : L ≤ 256) : ∀ (k n : Nat) (a : Nat → Nat) (i : Nat → Int32) (f : Nat → Nat → Int32) (o : Nat → Option Nat) (pl : va_W) (j : Nat → Int32) (g : Nat → Nat → Int32) (t : Nat → Int64) (H : Heap) (locs : List Loc) (ls : Array Slot), 64 ≤ n + k → n ≤ 64 → va_P D vwCl ((ms_WX cA xa a i f o ++ ms_WM cA ma b j g t) ++ pl) H → va_D (fun q : Nat => s.heap.size ≤ q) ((ms_WX cA xa a i f o ++ ms_WM cA ma b j g t) ++ pl) → va_S (fun q : Nat => s.heap.size ≤ q) s.heap H locs → lv_has ls 4 [(3, .int (nI (4 * n))), (2, .ref ma), (1, .ref xa), (0, .ref b0)] → ms_BX i f → ms_BM j g t → ms_hq cA o pl → ms_rel i f j g → W p l e room_1 s m #[Value.ref b0] below meth c H locs (69 + 2 * n) (1489 + 15 * n) (lw_Z below #[Value.ref b0] s) (F0 m 18 ls []) := by
  intro k
  induction k with
  | zero => intro n a i f o pl j g t H locs ls h1 h2 hP hD hS hl hB hM hq hrel; exact law_exit C0 h2 (by omega) hL hS hl
  | succ k ih =>
    intro n a i f o pl j g t H locs ls h1 h2 hP hD hS hl hB hM hq hrel
    by_cases hc : 4 * n + 4 ≤ L
    · obtain ⟨hx, hb, hr, hml, hown, hts0, hX, hbl, hlocks, hgv⟩ := id C0
      have hb : c.code = cL_law := hb
      have hbA : ¬ (fun q : Nat => s.heap.size ≤ q) b0 := Nat.not_le.mpr hbl
      have kk : ∀ (a : Nat → Nat) (i : Nat → Int32) (f : Nat → Nat → Int32) (o : Nat → Option Nat) (pl : va_W) (j : Nat → Int32) (g : Nat → Nat → Int32) (t : Nat → Int64) (H : Heap) (locs : List Loc) (ls : Array Slot), va_P D vwCl ((ms_WX cA xa a i f o ++ ms_WM cA ma b j g t) ++ pl) H → va_D (fun q : Nat => s.heap.size ≤ q) ((ms_WX cA xa a i f o ++ ms_WM cA ma b j g t) ++ pl) → va_S (fun q : Nat => s.heap.size ≤ q) s.heap H locs → lv_has ls 4 [(3, .int (nI (4 * n))), (2, .ref ma), (1, .ref xa), (0, .ref b0)] → ms_BX i f → ms_BM j g t → ms_hq cA o pl → ms_rel i f j g → W p l e room_1 s m #[Value.ref b0] below meth c H locs (69 + 2 * (n + 1)) (1489 + 15 * (n + 1)) (lw_Z below #[Value.ref b0] s) (F0 m 988 ls []) := by
        intro a i f o pl j g t H locs ls hP hD hS hl hB hM hq hrel
        refine lv_iinc (v := nI (4 * (n + 1))) (lv' := [(3, .int (nI (4 * (n + 1)))), (2, .ref ma), (1, .ref xa), (0, .ref b0)]) hx hb dL_law_988 hl (k := 0) rfl (nI_add (4 * n) 4) (by decide) rfl (fun ls hl => ?_)
        refine lv_goto (tgt := 18) hx hb dL_law_991 (by decide) ?_
        exact ih (n + 1) a i f o pl j g t H locs ls (by omega) (by omega) hP hD hS hl hB hM hq hrel
      refine lv_iload_n hx hb dL_law_18 rfl (lv_at hl 0 rfl) ?_
      refine lv_aload_n hx hb dL_law_19 rfl (lv_at hl 3 rfl) ?_
      refine va_slen hx hb hX hbl hbA hS dL_law_20 ?_
      refine lv_iconst (v := 4) hx hb dL_law_21 (by decide) ?_
      refine lv_isub hx hb dL_law_22 ?_
      refine lv_icmp_gt (tgt := 994) hx hb dL_law_23 (by decide) (fun q => absurd ((ms_hd hL h2).mp q) (by omega)) (fun _ => ?_)
      refine lv_aload_n hx hb dL_law_26 rfl (lv_at hl 3 rfl) ?_
      refine lv_iload_n hx hb dL_law_27 rfl (lv_at hl 0 rfl) ?_
      refine ms_sld hx hb hX hbl hbA hS (4 * n) rfl (by omega) (by omega) dL_law_28 ?_
      refine lv_bipush (v := 31) hx hb dL_law_29 (by decide) ?_
      refine lv_iand hx hb dL_law_31 ?_
      obtain ⟨z, hz, ez⟩ := pk_andE (xs (4 * n)) (m := 31) 5 (by decide)
      refine ms_eqi (y := nI z) ez ?_
      rcases (show z = 0 ∨ z = 1 ∨ z = 2 ∨ z = 3 ∨ z = 4 ∨ z = 5 ∨ z = 6 ∨ z = 7 ∨ z = 8 ∨ z = 9 ∨ z = 10 ∨ z = 11 ∨ z = 12 ∨ z = 13 ∨ z = 14 ∨ z = 15 ∨ z = 16 ∨ z = 17 ∨ z = 18 ∨ z = 19 ∨ z = 20 ∨ z = 21 ∨ z = 22 ∨ z = 23 ∨ z = 24 ∨ z = 25 ∨ z = 26 ∨ z = 27 ∨ z = 28 ∨ z = 29 ∨ z = 30 ∨ z = 31 by omega) with rfl | rfl | rfl | rfl | rfl | rfl | rfl | rfl | rfl | rfl | rfl | rfl | rfl | rfl | rfl | rfl | rfl | rfl | rfl | rfl | rfl | rfl | rfl | rfl | rfl | rfl | rfl | rfl | rfl | rfl | rfl | rfl
      · exact lv_tableIn (off := 144) (tgt := 176) hx hb dL_law_32 (by decide) (by decide) (by decide) (by decide) (law_0 l D cA xa ma a b i f o pl j g t C0 hE hc hL hP hD hS hl hB hM hq hrel kk)
      · exact lv_tableIn (off := 167) (tgt := 199) hx hb dL_law_32 (by decide) (by decide) (by decide) (by decide) (law_1 l D cA xa ma a b i f o pl j g t C0 hE hc hL hP hD hS hl hB hM hq hrel kk)
      · exact lv_tableIn (off := 180) (tgt := 212) hx hb dL_law_32 (by decide) (by decide) (by decide) (by decide) (law_2 l D cA xa ma a b i f o pl j g t C0 hE hc hL hP hD hS hl hB hM hq hrel kk)
      · exact lv_tableIn (off := 193) (tgt := 225) hx hb dL_law_32 (by decide) (by decide) (by decide) (by decide) (law_3 l D cA xa ma a b i f o pl j g t C0 hE hc hL hP hD hS hl hB hM hq hrel kk)
      · exact lv_tableIn (off := 216) (tgt := 248) hx hb dL_law_32 (by decide) (by decide) (by decide) (by decide) (law_4 l D cA xa ma a b i f o pl j g t C0 hE hc hL hP hD hS hl hB hM hq hrel kk)
      · exact lv_tableIn (off := 249) (tgt := 281) hx hb dL_law_32 (by decide) (by decide) (by decide) (by decide) (law_5 l D cA xa ma a b i f o pl j g t C0 hE hc hL hP hD hS hl hB hM hq hrel kk)
      · exact lv_tableIn (off := 282) (tgt := 314) hx hb dL_law_32 (by decide) (by decide) (by decide) (by decide) (law_6 l D cA xa ma a b i f o pl j g t C0 hE hc hL hP hD hS hl hB hM hq hrel kk)
      · exact lv_tableIn (off := 315) (tgt := 347) hx hb dL_law_32 (by decide) (by decide) (by decide) (by decide) (law_7 l D cA xa ma a b i f o pl j g t C0 hE hc hL hP hD hS hl hB hM hq hrel kk)
      · exact lv_tableIn (off := 338) (tgt := 370) hx hb dL_law_32 (by decide) (by decide) (by decide) (by decide) (law_8 l D cA xa ma a b i f o pl j g t C0 hE hc hL hP hD hS hl hB hM hq hrel kk)
      · exact lv_tableIn (off := 351) (tgt := 383) hx hb dL_law_32 (by decide) (by decide) (by decide) (by decide) (law_9 l D cA xa ma a b i f o pl j g t C0 hE hc hL hP hD hS hl hB hM hq hrel kk)
      · exact lv_tableIn (off := 374) (tgt := 406) hx hb dL_law_32 (by decide) (by decide) (by decide) (by decide) (law_10 l D cA xa ma a b i f o pl j g t C0 hE hc hL hP hD hS hl hB hM hq hrel kk)
      · exact lv_tableIn (off := 387) (tgt := 419) hx hb dL_law_32 (by decide) (by decide) (by decide) (by decide) (law_11 l D cA xa ma a b i f o pl j g t C0 hE hc hL hP hD hS hl hB hM hq hrel kk)
      · exact lv_tableIn (off := 446) (tgt := 478) hx hb dL_law_32 (by decide) (by decide) (by decide) (by decide) (law_12 l D cA xa ma a b i f o pl j g t C0 hE hc hL hP hD hS hl hB hM hq hrel kk)
      · exact lv_tableIn (off := 489) (tgt := 521) hx hb dL_law_32 (by decide) (by decide) (by decide) (by decide) (law_13 l D cA xa ma a b i f o pl j g t C0 hE hc hL hP hD hS hl hB hM hq hrel kk)
      · exact lv_tableIn (off := 502) (tgt := 534) hx hb dL_law_32 (by decide) (by decide) (by decide) (by decide) (law_14 l D cA xa ma a b i f o pl j g t C0 hE hc hL hP hD hS hl hB hM hq hrel kk)
      · exact lv_tableIn (off := 525) (tgt := 557) hx hb dL_law_32 (by decide) (by decide) (by decide) (by decide) (law_15 l D cA xa ma a b i f o pl j g t C0 hE hc hL hP hD hS hl hB hM hq hrel kk)
      · exact lv_tableIn (off := 558) (tgt := 590) hx hb dL_law_32 (by decide) (by decide) (by decide) (by decide) (law_16 l D cA xa ma a b i f o pl j g t C0 hE hc hL hP hD hS hl hB hM hq hrel kk)
      · exact lv_tableIn (off := 581) (tgt := 613) hx hb dL_law_32 (by decide) (by decide) (by decide) (by decide) (law_17 l D cA xa ma a b i f o pl j g t C0 hE hc hL hP hD hS hl hB hM hq hrel kk)
      · exact lv_tableIn (off := 604) (tgt := 636) hx hb dL_law_32 (by decide) (by decide) (by decide) (by decide) (law_18 l D cA xa ma a b i f o pl j g t C0 hE hc hL hP hD hS hl hB hM hq hrel kk)
      · exact lv_tableIn (off := 637) (tgt := 669) hx hb dL_law_32 (by decide) (by decide) (by decide) (by decide) (law_19 l D cA xa ma a b i f o pl j g t C0 hE hc hL hP hD hS hl hB hM hq hrel kk)
      · exact lv_tableIn (off := 680) (tgt := 712) hx hb dL_law_32 (by decide) (by decide) (by decide) (by decide) (law_20 l D cA xa ma a b i f o pl j g t C0 hE hc hL hP hD hS hl hB hM hq hrel kk)
      · exact lv_tableIn (off := 703) (tgt := 735) hx hb dL_law_32 (by decide) (by decide) (by decide) (by decide) (law_21 l D cA xa ma a b i f o pl j g t C0 hE hc hL hP hD hS hl hB hM hq hrel kk)
      · exact lv_tableIn (off := 716) (tgt := 748) hx hb dL_law_32 (by decide) (by decide) (by decide) (by decide) (law_22 l D cA xa ma a b i f o pl j g t C0 hE hc hL hP hD hS hl hB hM hq hrel kk)
      · exact lv_tableIn (off := 749) (tgt := 781) hx hb dL_law_32 (by decide) (by decide) (by decide) (by decide) (law_23 l D cA xa ma a b i f o pl j g t C0 hE hc hL hP hD hS hl hB hM hq hrel kk)
      · exact lv_tableIn (off := 782) (tgt := 814) hx hb dL_law_32 (by decide) (by decide) (by decide) (by decide) (law_24 l D cA xa ma a b i f o pl j g t C0 hE hc hL hP hD hS hl hB hM hq hrel kk)
      · exact lv_tableIn (off := 795) (tgt := 827) hx hb dL_law_32 (by decide) (by decide) (by decide) (by decide) (law_25 l D cA xa ma a b i f o pl j g t C0 hE hc hL hP hD hS hl hB hM hq hrel kk)
      · exact lv_tableIn (off := 828) (tgt := 860) hx hb dL_law_32 (by decide) (by decide) (by decide) (by decide) (law_26 l D cA xa ma a b i f o pl j g t C0 hE hc hL hP hD hS hl hB hM hq hrel kk)
      · exact lv_tableIn (off := 861) (tgt := 893) hx hb dL_law_32 (by decide) (by decide) (by decide) (by decide) (law_27 l D cA xa ma a b i f o pl j g t C0 hE hc hL hP hD hS hl hB hM hq hrel kk)
      · exact lv_tableIn (off := 874) (tgt := 906) hx hb dL_law_32 (by decide) (by decide) (by decide) (by decide) (law_28 l D cA xa ma a b i f o pl j g t C0 hE hc hL hP hD hS hl hB hM hq hrel kk)
      · exact lv_tableIn (off := 887) (tgt := 919) hx hb dL_law_32 (by decide) (by decide) (by decide) (by decide) (law_29 l D cA xa ma a b i f o pl j g t C0 hE hc hL hP hD hS hl hB hM hq hrel kk)
      · exact lv_tableIn (off := 910) (tgt := 942) hx hb dL_law_32 (by decide) (by decide) (by decide) (by decide) (law_30 l D cA xa ma a b i f o pl j g t C0 hE hc hL hP hD hS hl hB hM hq hrel kk)
      · exact lv_tableIn (off := 933) (tgt := 965) hx hb dL_law_32 (by decide) (by decide) (by decide) (by decide) (law_31 l D cA xa ma a b i f o pl j g t C0 hE hc hL hP hD hS hl hB hM hq hrel kk)
    · exact law_exit C0 h2 hc hL hS hl
