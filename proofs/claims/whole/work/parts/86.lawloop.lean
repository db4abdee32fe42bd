-- the law's loop
theorem and31 (a : Int32) : ∃ k, k < 32 ∧ a &&& nI 31 = nI k := by
  obtain ⟨n, hn, rfl⟩ := nat_of a
  exact ⟨n % 2 ^ 5, Nat.mod_lt _ (by decide), pk_andN hn 5 (by decide)⟩
set_option maxHeartbeats 4000000 in
set_option maxRecDepth 100000 in
theorem law_step {p : Program} {l : Launch} {e : Env} {s : State} {m : MethodId} {below : List Frame} {meth : Method} {c : Code} {b L : Nat} {xs : Nat → Int32} {G : GG} {A : Nat → Prop} {ad sd hd md rd be : Nat → Nat} {beD : Nat → Nat → Nat} {cad : Nat → Nat} (C : LC p s m c b L xs G A) (hAz : ∀ q, A q → s.heap.size ≤ q) (hr : meth.sig.returnType = ret) (hlocks : meth.locks = false) {i : Nat} (hi2 : i ≤ 2052) (hL : L ≤ 2048) {H : Heap} {locs : List Loc} {ls : Array Slot} (I : WI G ad sd hd md rd be beD cad A s H locs) (hl : lv_has ls 4 [(3, .int (nI i)), (2, .ref (cad 0)), (1, .ref (ad 0)), (0, .ref b)]) (rec : i + 4 ≤ L → ∀ (H : Heap) (locs : List Loc) (ls : Array Slot), WI G ad sd hd md rd be beD cad A s H locs → lv_has ls 4 [(3, .int (nI (i + 4))), (2, .ref (cad 0)), (1, .ref (ad 0)), (0, .ref b)] → W p l e room_1 s m #[Value.ref b] below meth c H locs 600000 7302249 (lw_Z below #[Value.ref b] s) (F0 m 18 ls [])) : W p l e room_1 s m #[Value.ref b] below meth c H locs 600000 7302249 (lw_Z below #[Value.ref b] s) (F0 m 18 ls []) := by
  obtain ⟨hx, hb, hml, hown, hts, hX, hbl, hbA, hK, hZ, hA⟩ := id C
  have hS : va_S A s.heap H locs := by
    obtain ⟨er, inp, otp, tc, fc, on, ze, ou, wd, lo, up, hc, sa, sv, ab, tr, rt, kn, ct, bu, bl, tu, tl, bd, bm, d0, d1, d2, d3, d4, d5, nw, ps, er2, us, un, od, li, st, lm, hs, hR, hP, hD, hS⟩ := I
    exact hS
  refine lv_iload_n hx hb dL_law_18 rfl (lv_at hl 0 rfl) ?_
  refine lv_aload_n hx hb dL_law_19 rfl (lv_at hl 3 rfl) ?_
  refine va_slen hx hb hX hbl hbA hS dL_law_20 ?_
  refine lv_iconst (v := nI 4) hx hb dL_law_21 (by decide) ?_
  refine lv_isub hx hb dL_law_22 ?_
  refine lv_icmp_gt (tgt := 747) hx hb dL_law_23 (by decide) (fun cg => ?_) (fun cg => ?_)
  · refine lv_iconst (v := 1) hx hb dL_law_747 (by decide) ?_
    refine va_forget (fun q hq => hAz _ (hS.2.2 q hq)) ?_
    exact lw_ret hx hb hr hlocks dL_law_748
  · have cg : ¬ nI L - nI 4 < nI i := cg
    rw [Int32.lt_iff_toInt_lt, pk_sub_toInt (by omega) (by decide), nI_toInt (by omega)] at cg
    have h4 : i + 4 ≤ L := by omega
    refine lv_aload_n hx hb dL_law_26 rfl (lv_at hl 3 rfl) ?_
    refine lv_iload_n hx hb dL_law_27 rfl (lv_at hl 0 rfl) ?_
    refine va_sld hx hb hX hbl hbA hS (vp_in_nI (by omega) (by omega)) dL_law_28 ?_
    refine lv_bipush (v := nI 31) hx hb dL_law_29 (by decide) ?_
    refine lv_iand hx hb dL_law_31 ?_
    obtain ⟨k, hk, ek⟩ := and31 (xs (nI i).toNatClampNeg)
    rw [ek]
    have e4 : nI i + Int32.ofInt 4 = nI (i + 4) := by
      rw [show Int32.ofInt 4 = nI 4 by decide, nI_add]
    have next : ∀ (H : Heap) (locs : List Loc), WI G ad sd hd md rd be beD cad A s H locs → W p l e room_1 s m #[Value.ref b] below meth c H locs 600000 7302249 (lw_Z below #[Value.ref b] s) (F0 m 741 ls []) := by
      intro H locs I
      refine lv_iinc (v := nI (i + 4)) (lv' := [(3, .int (nI (i + 4))), (2, .ref (cad 0)), (1, .ref (ad 0)), (0, .ref b)]) hx hb dL_law_741 hl (k := 0) rfl e4 (by decide) rfl (fun ls hl => ?_)
      refine lv_goto (tgt := 18) hx hb dL_law_744 (by decide) ?_
      exact rec h4 H locs ls I hl
    rcases (show k = 0 ∨ k = 1 ∨ k = 2 ∨ k = 3 ∨ k = 4 ∨ k = 5 ∨ k = 6 ∨ k = 7 ∨ k = 8 ∨ k = 9 ∨ k = 10 ∨ k = 11 ∨ k = 12 ∨ k = 13 ∨ k = 14 ∨ k = 15 ∨ k = 16 ∨ k = 17 ∨ k = 18 ∨ k = 19 ∨ k = 20 ∨ k = 21 ∨ k = 22 ∨ k = 23 ∨ k = 24 ∨ k = 25 ∨ 26 ≤ k by omega) with rfl | rfl | rfl | rfl | rfl | rfl | rfl | rfl | rfl | rfl | rfl | rfl | rfl | rfl | rfl | rfl | rfl | rfl | rfl | rfl | rfl | rfl | rfl | rfl | rfl | rfl | hk26
    · exact lv_tableIn (tgt := 152) (off := 120) hx hb dL_law_32 (by decide +kernel) (by decide +kernel) (by decide +kernel) (by decide) (law_0 C h4 hL I hl next)
    · exact lv_tableIn (tgt := 185) (off := 153) hx hb dL_law_32 (by decide +kernel) (by decide +kernel) (by decide +kernel) (by decide) (law_1 C h4 hL I hl next)
    · exact lv_tableIn (tgt := 228) (off := 196) hx hb dL_law_32 (by decide +kernel) (by decide +kernel) (by decide +kernel) (by decide) (law_2 C h4 hL I hl next)
    · exact lv_tableIn (tgt := 251) (off := 219) hx hb dL_law_32 (by decide +kernel) (by decide +kernel) (by decide +kernel) (by decide) (law_3 C h4 hL I hl next)
    · exact lv_tableIn (tgt := 264) (off := 232) hx hb dL_law_32 (by decide +kernel) (by decide +kernel) (by decide +kernel) (by decide) (law_4 C h4 hL I hl next)
    · exact lv_tableIn (tgt := 287) (off := 255) hx hb dL_law_32 (by decide +kernel) (by decide +kernel) (by decide +kernel) (by decide) (law_5 C h4 hL I hl next)
    · exact lv_tableIn (tgt := 310) (off := 278) hx hb dL_law_32 (by decide +kernel) (by decide +kernel) (by decide +kernel) (by decide) (law_6 C h4 hL I hl next)
    · exact lv_tableIn (tgt := 333) (off := 301) hx hb dL_law_32 (by decide +kernel) (by decide +kernel) (by decide +kernel) (by decide) (law_7 C h4 hL I hl next)
    · exact lv_tableIn (tgt := 356) (off := 324) hx hb dL_law_32 (by decide +kernel) (by decide +kernel) (by decide +kernel) (by decide) (law_8 C h4 hL I hl next)
    · exact lv_tableIn (tgt := 369) (off := 337) hx hb dL_law_32 (by decide +kernel) (by decide +kernel) (by decide +kernel) (by decide) (law_9 C h4 hL I hl next)
    · exact lv_tableIn (tgt := 392) (off := 360) hx hb dL_law_32 (by decide +kernel) (by decide +kernel) (by decide +kernel) (by decide) (law_10 C h4 hL I hl next)
    · exact lv_tableIn (tgt := 425) (off := 393) hx hb dL_law_32 (by decide +kernel) (by decide +kernel) (by decide +kernel) (by decide) (law_11 C h4 hL I hl next)
    · exact lv_tableIn (tgt := 458) (off := 426) hx hb dL_law_32 (by decide +kernel) (by decide +kernel) (by decide +kernel) (by decide) (law_12 C h4 hL I hl next)
    · exact lv_tableIn (tgt := 481) (off := 449) hx hb dL_law_32 (by decide +kernel) (by decide +kernel) (by decide +kernel) (by decide) (law_13 C h4 hL I hl next)
    · exact lv_tableIn (tgt := 504) (off := 472) hx hb dL_law_32 (by decide +kernel) (by decide +kernel) (by decide +kernel) (by decide) (law_14 C h4 hL I hl next)
    · exact lv_tableIn (tgt := 517) (off := 485) hx hb dL_law_32 (by decide +kernel) (by decide +kernel) (by decide +kernel) (by decide) (law_15 C h4 hL I hl next)
    · exact lv_tableIn (tgt := 540) (off := 508) hx hb dL_law_32 (by decide +kernel) (by decide +kernel) (by decide +kernel) (by decide) (law_16 C h4 hL I hl next)
    · exact lv_tableIn (tgt := 563) (off := 531) hx hb dL_law_32 (by decide +kernel) (by decide +kernel) (by decide +kernel) (by decide) (law_17 C h4 hL I hl next)
    · exact lv_tableIn (tgt := 596) (off := 564) hx hb dL_law_32 (by decide +kernel) (by decide +kernel) (by decide +kernel) (by decide) (law_18 C h4 hL I hl next)
    · exact lv_tableIn (tgt := 609) (off := 577) hx hb dL_law_32 (by decide +kernel) (by decide +kernel) (by decide +kernel) (by decide) (law_19 C h4 hL I hl next)
    · exact lv_tableIn (tgt := 632) (off := 600) hx hb dL_law_32 (by decide +kernel) (by decide +kernel) (by decide +kernel) (by decide) (law_20 C h4 hL I hl next)
    · exact lv_tableIn (tgt := 655) (off := 623) hx hb dL_law_32 (by decide +kernel) (by decide +kernel) (by decide +kernel) (by decide) (law_21 C h4 hL I hl next)
    · exact lv_tableIn (tgt := 678) (off := 646) hx hb dL_law_32 (by decide +kernel) (by decide +kernel) (by decide +kernel) (by decide) (law_22 C h4 hL I hl next)
    · exact lv_tableIn (tgt := 691) (off := 659) hx hb dL_law_32 (by decide +kernel) (by decide +kernel) (by decide +kernel) (by decide) (law_23 C h4 hL I hl next)
    · exact lv_tableIn (tgt := 704) (off := 672) hx hb dL_law_32 (by decide +kernel) (by decide +kernel) (by decide +kernel) (by decide) (law_24 C h4 hL I hl next)
    · exact lv_tableIn (tgt := 727) (off := 695) hx hb dL_law_32 (by decide +kernel) (by decide +kernel) (by decide +kernel) (by decide) (law_25 C h4 hL I hl next)
    · exact lv_tableOut (tgt := 741) hx hb dL_law_32 (Or.inr (by rw [nI_toInt (by omega)]; omega)) (by decide) (next H locs I)
theorem law_loop {p : Program} {l : Launch} {e : Env} {s : State} {m : MethodId} {below : List Frame} {meth : Method} {c : Code} {b L : Nat} {xs : Nat → Int32} {G : GG} {A : Nat → Prop} {ad sd hd md rd be : Nat → Nat} {beD : Nat → Nat → Nat} {cad : Nat → Nat} (C : LC p s m c b L xs G A) (hAz : ∀ q, A q → s.heap.size ≤ q) (hr : meth.sig.returnType = ret) (hlocks : meth.locks = false) (hL : L ≤ 2048) : ∀ (n i : Nat), i ≤ 2052 → L < i + n → ∀ (H : Heap) (locs : List Loc) (ls : Array Slot), WI G ad sd hd md rd be beD cad A s H locs → lv_has ls 4 [(3, .int (nI i)), (2, .ref (cad 0)), (1, .ref (ad 0)), (0, .ref b)] → W p l e room_1 s m #[Value.ref b] below meth c H locs 600000 7302249 (lw_Z below #[Value.ref b] s) (F0 m 18 ls [])
  | 0, i, hi, hn, H, locs, ls, I, hl => law_step C hAz hr hlocks hi hL I hl (fun h4 => absurd h4 (by omega))
  | n + 1, i, hi, hn, H, locs, ls, I, hl => law_step C hAz hr hlocks hi hL I hl (fun h4 H locs ls I hl => law_loop C hAz hr hlocks hL n (i + 4) (by omega) (by omega) H locs ls I hl)
