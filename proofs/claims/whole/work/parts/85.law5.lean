set_option maxHeartbeats 4000000 in
set_option maxRecDepth 100000 in
theorem law_20 {p : Program} {l : Launch} {e : Env} {s : State} {m : MethodId} {below : List Frame} {meth : Method} {c : Code} {b L : Nat} {xs : Nat → Int32} {G : GG} {A : Nat → Prop} {Q : State → Prop} {ad sd hd md rd be : Nat → Nat} {beD : Nat → Nat → Nat} {cad : Nat → Nat} (C : LC p s m c b L xs G A) {i : Nat} (hi : i + 4 ≤ L) (hL : L ≤ 2048) {H : Heap} {locs : List Loc} {ls : Array Slot} (I : WI G ad sd hd md rd be beD cad A s H locs) (hl : lv_has ls 4 [(3, .int (nI i)), (2, .ref (cad 0)), (1, .ref (ad 0)), (0, .ref b)]) (next : ∀ (H : Heap) (locs : List Loc), WI G ad sd hd md rd be beD cad A s H locs → W p l e room_1 s m #[Value.ref b] below meth c H locs 600000 7302249 Q (F0 m 741 ls [])) : W p l e room_1 s m #[Value.ref b] below meth c H locs 600000 7302249 Q (F0 m 632 ls []) := by
  obtain ⟨hx, hb, hml, hown, hts, hX, hbl, hbA, hK, hZ, hA⟩ := C
  obtain ⟨er, inp, otp, tc, fc, on, ze, ou, wd, lo, up, hc, sa, sv, ab, tr, rt, kn, ct, bu, bl, tu, tl, bd, bm, d0, d1, d2, d3, d4, d5, nw, ps, er2, us, un, od, li, st, lm, hs, hR, hP, hD, hS⟩ := I
  refine lv_aload_n hx hb dL_law_632 rfl (lv_at hl 2 rfl) ?_
  refine lv_aload_n hx hb dL_law_633 rfl (lv_at hl 3 rfl) ?_
  refine lv_iload_n hx hb dL_law_634 rfl (lv_at hl 0 rfl) ?_
  refine lv_iconst (v := nI 1) hx hb dL_law_635 (by decide) ?_
  refine lv_iadd hx hb dL_law_636 ?_
  refine va_sld hx hb hX hbl hbA hS (ixs hi (by decide) hL) dL_law_637 ?_
  refine kp_i (wr := wM G cad nw ps er2 us un od li st lm hs) (va_runV (As := [.int (xs (nI i + nI 1).toNatClampNeg)]) (rest := []) ⟨hx, hb, hml, hown, hts⟩ (c_X5_bestUpper l G ad sd hd md rd be beD _ er inp otp tc fc on ze ou wd lo up hc sa sv ab tr rt kn ct bu bl tu tl bd bm d0 d1 d2 d3 d4 d5 (xs (nI i + nI 1).toNatClampNeg) (m_bestUpper (tu := tu) (tl := tl) (bd := bd) (bm := bm) (d1 := d1) (d2 := d2) (d3 := d3) (d4 := d4) (d5 := d5) (us := us) (un := un) (od := od) (li := li) (lm := lm) hR)) (cwV 1 hts gL_law_X5_bestUpper rfl rfl rfl (by decide +kernel) ⟨Nat.le_of_ble_eq_true rfl, Nat.le_of_ble_eq_true rfl⟩) (kpVp hK hP hD hZ hS hA List.perm_append_comm (q0 := 0) (ci := 5) rfl rfl) rfl rfl hl.1 rfl (lv_room (Nat.le_of_ble_eq_true rfl)) dL_law_638 ⟨Nat.le_of_ble_eq_true rfl, Nat.le_of_ble_eq_true rfl⟩) hP hD hS hA List.perm_append_comm (fun r5 w5 H locs h hP hD hS => ?_)
  obtain ⟨er', kn', ct', bu', bl', tu', tl', bd', bm', d1', d2', d3', d4', d5'⟩ := w5
  have hP : va_P G.1 vwCl ((wM G cad nw ps er2 us un od li st lm hs) ++ (wP G ad sd hd md rd be er' ++ (wS G sd inp otp tc fc on ze ou wd lo up ++ (wH G hd hc sa sv ++ (wD G md ab ++ (wR G rd tr rt ++ (wB G be beD kn' ct' bu' bl' tu' tl' bd' bm' d0 d1' d2' d3' d4' d5'))))))) H := hP
  have hD : va_D A ((wM G cad nw ps er2 us un od li st lm hs) ++ (wP G ad sd hd md rd be er' ++ (wS G sd inp otp tc fc on ze ou wd lo up ++ (wH G hd hc sa sv ++ (wD G md ab ++ (wR G rd tr rt ++ (wB G be beD kn' ct' bu' bl' tu' tl' bd' bm' d0 d1' d2' d3' d4' d5'))))))) := hD
  try dsimp only at h
  refine lv_aload_n hx hb dL_law_641 rfl (lv_at hl 1 rfl) ?_
  refine lv_aload_n hx hb dL_law_642 rfl (lv_at hl 3 rfl) ?_
  refine lv_iload_n hx hb dL_law_643 rfl (lv_at hl 0 rfl) ?_
  refine lv_iconst (v := nI 1) hx hb dL_law_644 (by decide) ?_
  refine lv_iadd hx hb dL_law_645 ?_
  refine va_sld hx hb hX hbl hbA hS (ixs hi (by decide) hL) dL_law_646 ?_
  refine kp_i (wr := wP G ad sd hd md rd be er' ++ (wS G sd inp otp tc fc on ze ou wd lo up ++ (wH G hd hc sa sv ++ (wD G md ab ++ (wR G rd tr rt ++ (wB G be beD kn' ct' bu' bl' tu' tl' bd' bm' d0 d1' d2' d3' d4' d5')))))) (va_runV (As := [.int (xs (nI i + nI 1).toNatClampNeg)]) (rest := [.int r5]) ⟨hx, hb, hml, hown, hts⟩ (c_X6_bestUpper l G cad _ nw ps er2 us un od li st lm hs (xs (nI i + nI 1).toNatClampNeg) h) (cwV 1 hts gL_law_X6_bestUpper rfl rfl rfl (by decide +kernel) ⟨Nat.le_of_ble_eq_true rfl, Nat.le_of_ble_eq_true rfl⟩) (kpVp hK hP hD hZ hS hA List.perm_append_comm (q0 := 0) (ci := 6) rfl rfl) rfl rfl hl.1 rfl (lv_room (Nat.le_of_ble_eq_true rfl)) dL_law_647 ⟨Nat.le_of_ble_eq_true rfl, Nat.le_of_ble_eq_true rfl⟩) hP hD hS hA List.perm_append_comm (fun r6 w6 H locs h hP hD hS => ?_)
  obtain ⟨er2', us', un', od', li', lm'⟩ := w6
  have hP : va_P G.1 vwCl ((wP G ad sd hd md rd be er' ++ (wS G sd inp otp tc fc on ze ou wd lo up ++ (wH G hd hc sa sv ++ (wD G md ab ++ (wR G rd tr rt ++ (wB G be beD kn' ct' bu' bl' tu' tl' bd' bm' d0 d1' d2' d3' d4' d5')))))) ++ wM G cad nw ps er2' us' un' od' li' st lm' hs) H := hP
  have hD : va_D A ((wP G ad sd hd md rd be er' ++ (wS G sd inp otp tc fc on ze ou wd lo up ++ (wH G hd hc sa sv ++ (wD G md ab ++ (wR G rd tr rt ++ (wB G be beD kn' ct' bu' bl' tu' tl' bd' bm' d0 d1' d2' d3' d4' d5')))))) ++ wM G cad nw ps er2' us' un' od' li' st lm' hs) := hD
  try dsimp only at h
  obtain ⟨he, hR⟩ := h
  exact lv_icmp_eq (tgt := 741) hx hb dL_law_650 (by decide) (fun _ => next _ _ ⟨er', inp, otp, tc, fc, on, ze, ou, wd, lo, up, hc, sa, sv, ab, tr, rt, kn', ct', bu', bl', tu', tl', bd', bm', d0, d1', d2', d3', d4', d5', nw, ps, er2', us', un', od', li', st, lm', hs, hR, hP, hD, hS⟩) (fun hne => absurd he hne)
set_option maxHeartbeats 4000000 in
set_option maxRecDepth 100000 in
theorem law_21 {p : Program} {l : Launch} {e : Env} {s : State} {m : MethodId} {below : List Frame} {meth : Method} {c : Code} {b L : Nat} {xs : Nat → Int32} {G : GG} {A : Nat → Prop} {Q : State → Prop} {ad sd hd md rd be : Nat → Nat} {beD : Nat → Nat → Nat} {cad : Nat → Nat} (C : LC p s m c b L xs G A) {i : Nat} (hi : i + 4 ≤ L) (hL : L ≤ 2048) {H : Heap} {locs : List Loc} {ls : Array Slot} (I : WI G ad sd hd md rd be beD cad A s H locs) (hl : lv_has ls 4 [(3, .int (nI i)), (2, .ref (cad 0)), (1, .ref (ad 0)), (0, .ref b)]) (next : ∀ (H : Heap) (locs : List Loc), WI G ad sd hd md rd be beD cad A s H locs → W p l e room_1 s m #[Value.ref b] below meth c H locs 600000 7302249 Q (F0 m 741 ls [])) : W p l e room_1 s m #[Value.ref b] below meth c H locs 600000 7302249 Q (F0 m 655 ls []) := by
  obtain ⟨hx, hb, hml, hown, hts, hX, hbl, hbA, hK, hZ, hA⟩ := C
  obtain ⟨er, inp, otp, tc, fc, on, ze, ou, wd, lo, up, hc, sa, sv, ab, tr, rt, kn, ct, bu, bl, tu, tl, bd, bm, d0, d1, d2, d3, d4, d5, nw, ps, er2, us, un, od, li, st, lm, hs, hR, hP, hD, hS⟩ := I
  refine lv_aload_n hx hb dL_law_655 rfl (lv_at hl 2 rfl) ?_
  refine lv_aload_n hx hb dL_law_656 rfl (lv_at hl 3 rfl) ?_
  refine lv_iload_n hx hb dL_law_657 rfl (lv_at hl 0 rfl) ?_
  refine lv_iconst (v := nI 1) hx hb dL_law_658 (by decide) ?_
  refine lv_iadd hx hb dL_law_659 ?_
  refine va_sld hx hb hX hbl hbA hS (ixs hi (by decide) hL) dL_law_660 ?_
  refine kp_i (wr := wM G cad nw ps er2 us un od li st lm hs) (va_runV (As := [.int (xs (nI i + nI 1).toNatClampNeg)]) (rest := []) ⟨hx, hb, hml, hown, hts⟩ (c_X5_bestLower l G ad sd hd md rd be beD _ er inp otp tc fc on ze ou wd lo up hc sa sv ab tr rt kn ct bu bl tu tl bd bm d0 d1 d2 d3 d4 d5 (xs (nI i + nI 1).toNatClampNeg) (m_bestLower (tu := tu) (tl := tl) (bd := bd) (bm := bm) (d1 := d1) (d2 := d2) (d3 := d3) (d4 := d4) (d5 := d5) (us := us) (un := un) (od := od) (li := li) (lm := lm) hR)) (cwV 1 hts gL_law_X5_bestLower rfl rfl rfl (by decide +kernel) ⟨Nat.le_of_ble_eq_true rfl, Nat.le_of_ble_eq_true rfl⟩) (kpVp hK hP hD hZ hS hA List.perm_append_comm (q0 := 0) (ci := 5) rfl rfl) rfl rfl hl.1 rfl (lv_room (Nat.le_of_ble_eq_true rfl)) dL_law_661 ⟨Nat.le_of_ble_eq_true rfl, Nat.le_of_ble_eq_true rfl⟩) hP hD hS hA List.perm_append_comm (fun r5 w5 H locs h hP hD hS => ?_)
  obtain ⟨er', kn', ct', bu', bl', tu', tl', bd', bm', d1', d2', d3', d4', d5'⟩ := w5
  have hP : va_P G.1 vwCl ((wM G cad nw ps er2 us un od li st lm hs) ++ (wP G ad sd hd md rd be er' ++ (wS G sd inp otp tc fc on ze ou wd lo up ++ (wH G hd hc sa sv ++ (wD G md ab ++ (wR G rd tr rt ++ (wB G be beD kn' ct' bu' bl' tu' tl' bd' bm' d0 d1' d2' d3' d4' d5'))))))) H := hP
  have hD : va_D A ((wM G cad nw ps er2 us un od li st lm hs) ++ (wP G ad sd hd md rd be er' ++ (wS G sd inp otp tc fc on ze ou wd lo up ++ (wH G hd hc sa sv ++ (wD G md ab ++ (wR G rd tr rt ++ (wB G be beD kn' ct' bu' bl' tu' tl' bd' bm' d0 d1' d2' d3' d4' d5'))))))) := hD
  try dsimp only at h
  refine lv_aload_n hx hb dL_law_664 rfl (lv_at hl 1 rfl) ?_
  refine lv_aload_n hx hb dL_law_665 rfl (lv_at hl 3 rfl) ?_
  refine lv_iload_n hx hb dL_law_666 rfl (lv_at hl 0 rfl) ?_
  refine lv_iconst (v := nI 1) hx hb dL_law_667 (by decide) ?_
  refine lv_iadd hx hb dL_law_668 ?_
  refine va_sld hx hb hX hbl hbA hS (ixs hi (by decide) hL) dL_law_669 ?_
  refine kp_i (wr := wP G ad sd hd md rd be er' ++ (wS G sd inp otp tc fc on ze ou wd lo up ++ (wH G hd hc sa sv ++ (wD G md ab ++ (wR G rd tr rt ++ (wB G be beD kn' ct' bu' bl' tu' tl' bd' bm' d0 d1' d2' d3' d4' d5')))))) (va_runV (As := [.int (xs (nI i + nI 1).toNatClampNeg)]) (rest := [.int r5]) ⟨hx, hb, hml, hown, hts⟩ (c_X6_bestLower l G cad _ nw ps er2 us un od li st lm hs (xs (nI i + nI 1).toNatClampNeg) h) (cwV 1 hts gL_law_X6_bestLower rfl rfl rfl (by decide +kernel) ⟨Nat.le_of_ble_eq_true rfl, Nat.le_of_ble_eq_true rfl⟩) (kpVp hK hP hD hZ hS hA List.perm_append_comm (q0 := 0) (ci := 6) rfl rfl) rfl rfl hl.1 rfl (lv_room (Nat.le_of_ble_eq_true rfl)) dL_law_670 ⟨Nat.le_of_ble_eq_true rfl, Nat.le_of_ble_eq_true rfl⟩) hP hD hS hA List.perm_append_comm (fun r6 w6 H locs h hP hD hS => ?_)
  obtain ⟨er2', us', un', od', li', lm'⟩ := w6
  have hP : va_P G.1 vwCl ((wP G ad sd hd md rd be er' ++ (wS G sd inp otp tc fc on ze ou wd lo up ++ (wH G hd hc sa sv ++ (wD G md ab ++ (wR G rd tr rt ++ (wB G be beD kn' ct' bu' bl' tu' tl' bd' bm' d0 d1' d2' d3' d4' d5')))))) ++ wM G cad nw ps er2' us' un' od' li' st lm' hs) H := hP
  have hD : va_D A ((wP G ad sd hd md rd be er' ++ (wS G sd inp otp tc fc on ze ou wd lo up ++ (wH G hd hc sa sv ++ (wD G md ab ++ (wR G rd tr rt ++ (wB G be beD kn' ct' bu' bl' tu' tl' bd' bm' d0 d1' d2' d3' d4' d5')))))) ++ wM G cad nw ps er2' us' un' od' li' st lm' hs) := hD
  try dsimp only at h
  obtain ⟨he, hR⟩ := h
  exact lv_icmp_eq (tgt := 741) hx hb dL_law_673 (by decide) (fun _ => next _ _ ⟨er', inp, otp, tc, fc, on, ze, ou, wd, lo, up, hc, sa, sv, ab, tr, rt, kn', ct', bu', bl', tu', tl', bd', bm', d0, d1', d2', d3', d4', d5', nw, ps, er2', us', un', od', li', st, lm', hs, hR, hP, hD, hS⟩) (fun hne => absurd he hne)
set_option maxHeartbeats 4000000 in
set_option maxRecDepth 100000 in
theorem law_22 {p : Program} {l : Launch} {e : Env} {s : State} {m : MethodId} {below : List Frame} {meth : Method} {c : Code} {b L : Nat} {xs : Nat → Int32} {G : GG} {A : Nat → Prop} {Q : State → Prop} {ad sd hd md rd be : Nat → Nat} {beD : Nat → Nat → Nat} {cad : Nat → Nat} (C : LC p s m c b L xs G A) {i : Nat} (hi : i + 4 ≤ L) (hL : L ≤ 2048) {H : Heap} {locs : List Loc} {ls : Array Slot} (I : WI G ad sd hd md rd be beD cad A s H locs) (hl : lv_has ls 4 [(3, .int (nI i)), (2, .ref (cad 0)), (1, .ref (ad 0)), (0, .ref b)]) (next : ∀ (H : Heap) (locs : List Loc), WI G ad sd hd md rd be beD cad A s H locs → W p l e room_1 s m #[Value.ref b] below meth c H locs 600000 7302249 Q (F0 m 741 ls [])) : W p l e room_1 s m #[Value.ref b] below meth c H locs 600000 7302249 Q (F0 m 678 ls []) := by
  obtain ⟨hx, hb, hml, hown, hts, hX, hbl, hbA, hK, hZ, hA⟩ := C
  obtain ⟨er, inp, otp, tc, fc, on, ze, ou, wd, lo, up, hc, sa, sv, ab, tr, rt, kn, ct, bu, bl, tu, tl, bd, bm, d0, d1, d2, d3, d4, d5, nw, ps, er2, us, un, od, li, st, lm, hs, hR, hP, hD, hS⟩ := I
  refine lv_aload_n hx hb dL_law_678 rfl (lv_at hl 2 rfl) ?_
  refine kp_i (wr := wM G cad nw ps er2 us un od li st lm hs) (va_runV (As := []) (rest := []) ⟨hx, hb, hml, hown, hts⟩ (c_X5_foldBest l G ad sd hd md rd be beD _ er inp otp tc fc on ze ou wd lo up hc sa sv ab tr rt kn ct bu bl tu tl bd bm d0 d1 d2 d3 d4 d5  (m_foldBest (sa := sa) (tu := tu) (tl := tl) (bd := bd) (bm := bm) (d1 := d1) (d2 := d2) (d3 := d3) (d4 := d4) (d5 := d5) (us := us) (un := un) (od := od) (li := li) (lm := lm) hR)) (cwV 0 hts gL_law_X5_foldBest rfl rfl rfl (by decide +kernel) ⟨Nat.le_of_ble_eq_true rfl, Nat.le_of_ble_eq_true rfl⟩) (kpVp hK hP hD hZ hS hA List.perm_append_comm (q0 := 0) (ci := 5) rfl rfl) rfl rfl hl.1 rfl (lv_room (Nat.le_of_ble_eq_true rfl)) dL_law_679 ⟨Nat.le_of_ble_eq_true rfl, Nat.le_of_ble_eq_true rfl⟩) hP hD hS hA List.perm_append_comm (fun r5 w5 H locs h hP hD hS => ?_)
  obtain ⟨fc', lo', up', hc', sa', sv', ab', tr', rt', kn', ct', bu', bl', tu', tl', bd', bm', d1', d2', d3', d4', d5'⟩ := w5
  have hP : va_P G.1 vwCl ((wM G cad nw ps er2 us un od li st lm hs) ++ (wP G ad sd hd md rd be er ++ (wS G sd inp otp tc fc' on ze ou wd lo' up' ++ (wH G hd hc' sa' sv' ++ (wD G md ab' ++ (wR G rd tr' rt' ++ (wB G be beD kn' ct' bu' bl' tu' tl' bd' bm' d0 d1' d2' d3' d4' d5'))))))) H := hP
  have hD : va_D A ((wM G cad nw ps er2 us un od li st lm hs) ++ (wP G ad sd hd md rd be er ++ (wS G sd inp otp tc fc' on ze ou wd lo' up' ++ (wH G hd hc' sa' sv' ++ (wD G md ab' ++ (wR G rd tr' rt' ++ (wB G be beD kn' ct' bu' bl' tu' tl' bd' bm' d0 d1' d2' d3' d4' d5'))))))) := hD
  try dsimp only at h
  refine lv_aload_n hx hb dL_law_682 rfl (lv_at hl 1 rfl) ?_
  refine kp_i (wr := wP G ad sd hd md rd be er ++ (wS G sd inp otp tc fc' on ze ou wd lo' up' ++ (wH G hd hc' sa' sv' ++ (wD G md ab' ++ (wR G rd tr' rt' ++ (wB G be beD kn' ct' bu' bl' tu' tl' bd' bm' d0 d1' d2' d3' d4' d5')))))) (va_runV (As := []) (rest := [.int r5]) ⟨hx, hb, hml, hown, hts⟩ (c_X6_foldBest l G cad _ nw ps er2 us un od li st lm hs  h) (cwV 0 hts gL_law_X6_foldBest rfl rfl rfl (by decide +kernel) ⟨Nat.le_of_ble_eq_true rfl, Nat.le_of_ble_eq_true rfl⟩) (kpVp hK hP hD hZ hS hA List.perm_append_comm (q0 := 0) (ci := 6) rfl rfl) rfl rfl hl.1 rfl (lv_room (Nat.le_of_ble_eq_true rfl)) dL_law_683 ⟨Nat.le_of_ble_eq_true rfl, Nat.le_of_ble_eq_true rfl⟩) hP hD hS hA List.perm_append_comm (fun r6 w6 H locs h hP hD hS => ?_)
  obtain ⟨nw', ps', us', un', od', li', st', lm'⟩ := w6
  have hP : va_P G.1 vwCl ((wP G ad sd hd md rd be er ++ (wS G sd inp otp tc fc' on ze ou wd lo' up' ++ (wH G hd hc' sa' sv' ++ (wD G md ab' ++ (wR G rd tr' rt' ++ (wB G be beD kn' ct' bu' bl' tu' tl' bd' bm' d0 d1' d2' d3' d4' d5')))))) ++ wM G cad nw' ps' er2 us' un' od' li' st' lm' hs) H := hP
  have hD : va_D A ((wP G ad sd hd md rd be er ++ (wS G sd inp otp tc fc' on ze ou wd lo' up' ++ (wH G hd hc' sa' sv' ++ (wD G md ab' ++ (wR G rd tr' rt' ++ (wB G be beD kn' ct' bu' bl' tu' tl' bd' bm' d0 d1' d2' d3' d4' d5')))))) ++ wM G cad nw' ps' er2 us' un' od' li' st' lm' hs) := hD
  try dsimp only at h
  obtain ⟨he, hR⟩ := h
  exact lv_icmp_eq (tgt := 741) hx hb dL_law_686 (by decide) (fun _ => next _ _ ⟨er, inp, otp, tc, fc', on, ze, ou, wd, lo', up', hc', sa', sv', ab', tr', rt', kn', ct', bu', bl', tu', tl', bd', bm', d0, d1', d2', d3', d4', d5', nw', ps', er2, us', un', od', li', st', lm', hs, hR, hP, hD, hS⟩) (fun hne => absurd he hne)
set_option maxHeartbeats 4000000 in
set_option maxRecDepth 100000 in
theorem law_23 {p : Program} {l : Launch} {e : Env} {s : State} {m : MethodId} {below : List Frame} {meth : Method} {c : Code} {b L : Nat} {xs : Nat → Int32} {G : GG} {A : Nat → Prop} {Q : State → Prop} {ad sd hd md rd be : Nat → Nat} {beD : Nat → Nat → Nat} {cad : Nat → Nat} (C : LC p s m c b L xs G A) {i : Nat} (hi : i + 4 ≤ L) (hL : L ≤ 2048) {H : Heap} {locs : List Loc} {ls : Array Slot} (I : WI G ad sd hd md rd be beD cad A s H locs) (hl : lv_has ls 4 [(3, .int (nI i)), (2, .ref (cad 0)), (1, .ref (ad 0)), (0, .ref b)]) (next : ∀ (H : Heap) (locs : List Loc), WI G ad sd hd md rd be beD cad A s H locs → W p l e room_1 s m #[Value.ref b] below meth c H locs 600000 7302249 Q (F0 m 741 ls [])) : W p l e room_1 s m #[Value.ref b] below meth c H locs 600000 7302249 Q (F0 m 691 ls []) := by
  obtain ⟨hx, hb, hml, hown, hts, hX, hbl, hbA, hK, hZ, hA⟩ := C
  obtain ⟨er, inp, otp, tc, fc, on, ze, ou, wd, lo, up, hc, sa, sv, ab, tr, rt, kn, ct, bu, bl, tu, tl, bd, bm, d0, d1, d2, d3, d4, d5, nw, ps, er2, us, un, od, li, st, lm, hs, hR, hP, hD, hS⟩ := I
  refine lv_aload_n hx hb dL_law_691 rfl (lv_at hl 2 rfl) ?_
  refine kp_i (wr := wM G cad nw ps er2 us un od li st lm hs) (va_runV (As := []) (rest := []) ⟨hx, hb, hml, hown, hts⟩ (c_X5_undo l G ad sd hd md rd be beD _ er inp otp tc fc on ze ou wd lo up hc sa sv ab tr rt kn ct bu bl tu tl bd bm d0 d1 d2 d3 d4 d5  (m_undo  hR)) (cwV 0 hts gL_law_X5_undo rfl rfl rfl (by decide +kernel) ⟨Nat.le_of_ble_eq_true rfl, Nat.le_of_ble_eq_true rfl⟩) (kpVp hK hP hD hZ hS hA List.perm_append_comm (q0 := 0) (ci := 5) rfl rfl) rfl rfl hl.1 rfl (lv_room (Nat.le_of_ble_eq_true rfl)) dL_law_692 ⟨Nat.le_of_ble_eq_true rfl, Nat.le_of_ble_eq_true rfl⟩) hP hD hS hA List.perm_append_comm (fun r5 w5 H locs h hP hD hS => ?_)
  obtain ⟨er', inp', otp', tc', fc', on', ze', ou', wd', lo', up', hc', ab', tr', rt', kn'⟩ := w5
  have hP : va_P G.1 vwCl ((wM G cad nw ps er2 us un od li st lm hs) ++ (wP G ad sd hd md rd be er' ++ (wS G sd inp' otp' tc' fc' on' ze' ou' wd' lo' up' ++ (wH G hd hc' sa sv ++ (wD G md ab' ++ (wR G rd tr' rt' ++ (wB G be beD kn' ct bu bl tu tl bd bm d0 d1 d2 d3 d4 d5))))))) H := hP
  have hD : va_D A ((wM G cad nw ps er2 us un od li st lm hs) ++ (wP G ad sd hd md rd be er' ++ (wS G sd inp' otp' tc' fc' on' ze' ou' wd' lo' up' ++ (wH G hd hc' sa sv ++ (wD G md ab' ++ (wR G rd tr' rt' ++ (wB G be beD kn' ct bu bl tu tl bd bm d0 d1 d2 d3 d4 d5))))))) := hD
  try dsimp only at h
  refine lv_aload_n hx hb dL_law_695 rfl (lv_at hl 1 rfl) ?_
  refine kp_i (wr := wP G ad sd hd md rd be er' ++ (wS G sd inp' otp' tc' fc' on' ze' ou' wd' lo' up' ++ (wH G hd hc' sa sv ++ (wD G md ab' ++ (wR G rd tr' rt' ++ (wB G be beD kn' ct bu bl tu tl bd bm d0 d1 d2 d3 d4 d5)))))) (va_runV (As := []) (rest := [.int r5]) ⟨hx, hb, hml, hown, hts⟩ (c_X6_undo l G cad _ nw ps er2 us un od li st lm hs  h) (cwV 0 hts gL_law_X6_undo rfl rfl rfl (by decide +kernel) ⟨Nat.le_of_ble_eq_true rfl, Nat.le_of_ble_eq_true rfl⟩) (kpVp hK hP hD hZ hS hA List.perm_append_comm (q0 := 0) (ci := 6) rfl rfl) rfl rfl hl.1 rfl (lv_room (Nat.le_of_ble_eq_true rfl)) dL_law_696 ⟨Nat.le_of_ble_eq_true rfl, Nat.le_of_ble_eq_true rfl⟩) hP hD hS hA List.perm_append_comm (fun r6 w6 H locs h hP hD hS => ?_)
  obtain ⟨nw', er2', st'⟩ := w6
  have hP : va_P G.1 vwCl ((wP G ad sd hd md rd be er' ++ (wS G sd inp' otp' tc' fc' on' ze' ou' wd' lo' up' ++ (wH G hd hc' sa sv ++ (wD G md ab' ++ (wR G rd tr' rt' ++ (wB G be beD kn' ct bu bl tu tl bd bm d0 d1 d2 d3 d4 d5)))))) ++ wM G cad nw' ps er2' us un od li st' lm hs) H := hP
  have hD : va_D A ((wP G ad sd hd md rd be er' ++ (wS G sd inp' otp' tc' fc' on' ze' ou' wd' lo' up' ++ (wH G hd hc' sa sv ++ (wD G md ab' ++ (wR G rd tr' rt' ++ (wB G be beD kn' ct bu bl tu tl bd bm d0 d1 d2 d3 d4 d5)))))) ++ wM G cad nw' ps er2' us un od li st' lm hs) := hD
  try dsimp only at h
  obtain ⟨he, hR⟩ := h
  exact lv_icmp_eq (tgt := 741) hx hb dL_law_699 (by decide) (fun _ => next _ _ ⟨er', inp', otp', tc', fc', on', ze', ou', wd', lo', up', hc', sa, sv, ab', tr', rt', kn', ct, bu, bl, tu, tl, bd, bm, d0, d1, d2, d3, d4, d5, nw', ps, er2', us, un, od, li, st', lm, hs, hR, hP, hD, hS⟩) (fun hne => absurd he hne)
set_option maxHeartbeats 4000000 in
set_option maxRecDepth 100000 in
theorem law_24 {p : Program} {l : Launch} {e : Env} {s : State} {m : MethodId} {below : List Frame} {meth : Method} {c : Code} {b L : Nat} {xs : Nat → Int32} {G : GG} {A : Nat → Prop} {Q : State → Prop} {ad sd hd md rd be : Nat → Nat} {beD : Nat → Nat → Nat} {cad : Nat → Nat} (C : LC p s m c b L xs G A) {i : Nat} (hi : i + 4 ≤ L) (hL : L ≤ 2048) {H : Heap} {locs : List Loc} {ls : Array Slot} (I : WI G ad sd hd md rd be beD cad A s H locs) (hl : lv_has ls 4 [(3, .int (nI i)), (2, .ref (cad 0)), (1, .ref (ad 0)), (0, .ref b)]) (next : ∀ (H : Heap) (locs : List Loc), WI G ad sd hd md rd be beD cad A s H locs → W p l e room_1 s m #[Value.ref b] below meth c H locs 600000 7302249 Q (F0 m 741 ls [])) : W p l e room_1 s m #[Value.ref b] below meth c H locs 600000 7302249 Q (F0 m 704 ls []) := by
  obtain ⟨hx, hb, hml, hown, hts, hX, hbl, hbA, hK, hZ, hA⟩ := C
  obtain ⟨er, inp, otp, tc, fc, on, ze, ou, wd, lo, up, hc, sa, sv, ab, tr, rt, kn, ct, bu, bl, tu, tl, bd, bm, d0, d1, d2, d3, d4, d5, nw, ps, er2, us, un, od, li, st, lm, hs, hR, hP, hD, hS⟩ := I
  refine lv_aload_n hx hb dL_law_704 rfl (lv_at hl 2 rfl) ?_
  refine lv_aload_n hx hb dL_law_705 rfl (lv_at hl 3 rfl) ?_
  refine lv_iload_n hx hb dL_law_706 rfl (lv_at hl 0 rfl) ?_
  refine lv_iconst (v := nI 1) hx hb dL_law_707 (by decide) ?_
  refine lv_iadd hx hb dL_law_708 ?_
  refine va_sld hx hb hX hbl hbA hS (ixs hi (by decide) hL) dL_law_709 ?_
  refine kp_i (wr := wM G cad nw ps er2 us un od li st lm hs) (va_runV (As := [.int (xs (nI i + nI 1).toNatClampNeg)]) (rest := []) ⟨hx, hb, hml, hown, hts⟩ (c_X5_errorCount l G ad sd hd md rd be beD _ er inp otp tc fc on ze ou wd lo up hc sa sv ab tr rt kn ct bu bl tu tl bd bm d0 d1 d2 d3 d4 d5 (xs (nI i + nI 1).toNatClampNeg) (m_errorCount  hR)) (cwV 1 hts gL_law_X5_errorCount rfl rfl rfl (by decide +kernel) ⟨Nat.le_of_ble_eq_true rfl, Nat.le_of_ble_eq_true rfl⟩) (kpVp hK hP hD hZ hS hA List.perm_append_comm (q0 := 0) (ci := 5) rfl rfl) rfl rfl hl.1 rfl (lv_room (Nat.le_of_ble_eq_true rfl)) dL_law_710 ⟨Nat.le_of_ble_eq_true rfl, Nat.le_of_ble_eq_true rfl⟩) hP hD hS hA List.perm_append_comm (fun r5 w5 H locs h hP hD hS => ?_)
  obtain ⟨er', rfl⟩ : ∃ z, z = w5 := ⟨_, rfl⟩
  have hP : va_P G.1 vwCl ((wM G cad nw ps er2 us un od li st lm hs) ++ (wP G ad sd hd md rd be er' ++ (wS G sd inp otp tc fc on ze ou wd lo up ++ (wH G hd hc sa sv ++ (wD G md ab ++ (wR G rd tr rt ++ (wB G be beD kn ct bu bl tu tl bd bm d0 d1 d2 d3 d4 d5))))))) H := hP
  have hD : va_D A ((wM G cad nw ps er2 us un od li st lm hs) ++ (wP G ad sd hd md rd be er' ++ (wS G sd inp otp tc fc on ze ou wd lo up ++ (wH G hd hc sa sv ++ (wD G md ab ++ (wR G rd tr rt ++ (wB G be beD kn ct bu bl tu tl bd bm d0 d1 d2 d3 d4 d5))))))) := hD
  try dsimp only at h
  refine lv_aload_n hx hb dL_law_713 rfl (lv_at hl 1 rfl) ?_
  refine lv_aload_n hx hb dL_law_714 rfl (lv_at hl 3 rfl) ?_
  refine lv_iload_n hx hb dL_law_715 rfl (lv_at hl 0 rfl) ?_
  refine lv_iconst (v := nI 1) hx hb dL_law_716 (by decide) ?_
  refine lv_iadd hx hb dL_law_717 ?_
  refine va_sld hx hb hX hbl hbA hS (ixs hi (by decide) hL) dL_law_718 ?_
  refine kp_i (wr := wP G ad sd hd md rd be er' ++ (wS G sd inp otp tc fc on ze ou wd lo up ++ (wH G hd hc sa sv ++ (wD G md ab ++ (wR G rd tr rt ++ (wB G be beD kn ct bu bl tu tl bd bm d0 d1 d2 d3 d4 d5)))))) (va_runV (As := [.int (xs (nI i + nI 1).toNatClampNeg)]) (rest := [.int r5]) ⟨hx, hb, hml, hown, hts⟩ (c_X6_errorCount l G cad _ nw ps er2 us un od li st lm hs (xs (nI i + nI 1).toNatClampNeg) h) (cwV 1 hts gL_law_X6_errorCount rfl rfl rfl (by decide +kernel) ⟨Nat.le_of_ble_eq_true rfl, Nat.le_of_ble_eq_true rfl⟩) (kpVp hK hP hD hZ hS hA List.perm_append_comm (q0 := 0) (ci := 6) rfl rfl) rfl rfl hl.1 rfl (lv_room (Nat.le_of_ble_eq_true rfl)) dL_law_719 ⟨Nat.le_of_ble_eq_true rfl, Nat.le_of_ble_eq_true rfl⟩) hP hD hS hA List.perm_append_comm (fun r6 w6 H locs h hP hD hS => ?_)
  obtain ⟨er2', rfl⟩ : ∃ z, z = w6 := ⟨_, rfl⟩
  have hP : va_P G.1 vwCl ((wP G ad sd hd md rd be er' ++ (wS G sd inp otp tc fc on ze ou wd lo up ++ (wH G hd hc sa sv ++ (wD G md ab ++ (wR G rd tr rt ++ (wB G be beD kn ct bu bl tu tl bd bm d0 d1 d2 d3 d4 d5)))))) ++ wM G cad nw ps er2' us un od li st lm hs) H := hP
  have hD : va_D A ((wP G ad sd hd md rd be er' ++ (wS G sd inp otp tc fc on ze ou wd lo up ++ (wH G hd hc sa sv ++ (wD G md ab ++ (wR G rd tr rt ++ (wB G be beD kn ct bu bl tu tl bd bm d0 d1 d2 d3 d4 d5)))))) ++ wM G cad nw ps er2' us un od li st lm hs) := hD
  try dsimp only at h
  obtain ⟨he, hR⟩ := h
  exact lv_icmp_eq (tgt := 741) hx hb dL_law_722 (by decide) (fun _ => next _ _ ⟨er', inp, otp, tc, fc, on, ze, ou, wd, lo, up, hc, sa, sv, ab, tr, rt, kn, ct, bu, bl, tu, tl, bd, bm, d0, d1, d2, d3, d4, d5, nw, ps, er2', us, un, od, li, st, lm, hs, hR, hP, hD, hS⟩) (fun hne => absurd he hne)
set_option maxHeartbeats 4000000 in
set_option maxRecDepth 100000 in
theorem law_25 {p : Program} {l : Launch} {e : Env} {s : State} {m : MethodId} {below : List Frame} {meth : Method} {c : Code} {b L : Nat} {xs : Nat → Int32} {G : GG} {A : Nat → Prop} {Q : State → Prop} {ad sd hd md rd be : Nat → Nat} {beD : Nat → Nat → Nat} {cad : Nat → Nat} (C : LC p s m c b L xs G A) {i : Nat} (hi : i + 4 ≤ L) (hL : L ≤ 2048) {H : Heap} {locs : List Loc} {ls : Array Slot} (I : WI G ad sd hd md rd be beD cad A s H locs) (hl : lv_has ls 4 [(3, .int (nI i)), (2, .ref (cad 0)), (1, .ref (ad 0)), (0, .ref b)]) (next : ∀ (H : Heap) (locs : List Loc), WI G ad sd hd md rd be beD cad A s H locs → W p l e room_1 s m #[Value.ref b] below meth c H locs 600000 7302249 Q (F0 m 741 ls [])) : W p l e room_1 s m #[Value.ref b] below meth c H locs 600000 7302249 Q (F0 m 727 ls []) := by
  obtain ⟨hx, hb, hml, hown, hts, hX, hbl, hbA, hK, hZ, hA⟩ := C
  obtain ⟨er, inp, otp, tc, fc, on, ze, ou, wd, lo, up, hc, sa, sv, ab, tr, rt, kn, ct, bu, bl, tu, tl, bd, bm, d0, d1, d2, d3, d4, d5, nw, ps, er2, us, un, od, li, st, lm, hs, hR, hP, hD, hS⟩ := I
  refine lv_aload_n hx hb dL_law_727 rfl (lv_at hl 2 rfl) ?_
  refine kp_l (wr := wM G cad nw ps er2 us un od li st lm hs) (va_runV (As := []) (rest := []) ⟨hx, hb, hml, hown, hts⟩ (c_X5_digest l G ad sd hd md rd be beD _ er inp otp tc fc on ze ou wd lo up hc sa sv ab tr rt kn ct bu bl tu tl bd bm d0 d1 d2 d3 d4 d5  (m_digest (tu := tu) (tl := tl) (bd := bd) (bm := bm) (d1 := d1) (d2 := d2) (d3 := d3) (d4 := d4) (d5 := d5) (us := us) (un := un) (od := od) (li := li) (lm := lm) (hs := hs) hR)) (cwV 0 hts gL_law_X5_digest rfl rfl rfl (by decide +kernel) ⟨Nat.le_of_ble_eq_true rfl, Nat.le_of_ble_eq_true rfl⟩) (kpVp hK hP hD hZ hS hA List.perm_append_comm (q0 := 0) (ci := 5) rfl rfl) rfl rfl hl.1 rfl (lv_room (Nat.le_of_ble_eq_true rfl)) dL_law_728 ⟨Nat.le_of_ble_eq_true rfl, Nat.le_of_ble_eq_true rfl⟩) hP hD hS hA List.perm_append_comm (fun r5 w5 H locs h hP hD hS => ?_)
  obtain ⟨kn', ct', bu', bl', tu', tl', bd', bm', d1', d2', d3', d4', d5'⟩ := w5
  have hP : va_P G.1 vwCl ((wM G cad nw ps er2 us un od li st lm hs) ++ (wP G ad sd hd md rd be er ++ (wS G sd inp otp tc fc on ze ou wd lo up ++ (wH G hd hc sa sv ++ (wD G md ab ++ (wR G rd tr rt ++ (wB G be beD kn' ct' bu' bl' tu' tl' bd' bm' d0 d1' d2' d3' d4' d5'))))))) H := hP
  have hD : va_D A ((wM G cad nw ps er2 us un od li st lm hs) ++ (wP G ad sd hd md rd be er ++ (wS G sd inp otp tc fc on ze ou wd lo up ++ (wH G hd hc sa sv ++ (wD G md ab ++ (wR G rd tr rt ++ (wB G be beD kn' ct' bu' bl' tu' tl' bd' bm' d0 d1' d2' d3' d4' d5'))))))) := hD
  try dsimp only at h
  refine lv_aload_n hx hb dL_law_731 rfl (lv_at hl 1 rfl) ?_
  refine kp_l (wr := wP G ad sd hd md rd be er ++ (wS G sd inp otp tc fc on ze ou wd lo up ++ (wH G hd hc sa sv ++ (wD G md ab ++ (wR G rd tr rt ++ (wB G be beD kn' ct' bu' bl' tu' tl' bd' bm' d0 d1' d2' d3' d4' d5')))))) (va_runV (As := []) (rest := [.long r5]) ⟨hx, hb, hml, hown, hts⟩ (c_X6_digest l G cad _ nw ps er2 us un od li st lm hs  h) (cwV 0 hts gL_law_X6_digest rfl rfl rfl (by decide +kernel) ⟨Nat.le_of_ble_eq_true rfl, Nat.le_of_ble_eq_true rfl⟩) (kpVp hK hP hD hZ hS hA List.perm_append_comm (q0 := 0) (ci := 6) rfl rfl) rfl rfl hl.1 rfl (lv_room (Nat.le_of_ble_eq_true rfl)) dL_law_732 ⟨Nat.le_of_ble_eq_true rfl, Nat.le_of_ble_eq_true rfl⟩) hP hD hS hA List.perm_append_comm (fun r6 w6 H locs h hP hD hS => ?_)
  obtain ⟨us', un', od', li', lm', hs'⟩ := w6
  have hP : va_P G.1 vwCl ((wP G ad sd hd md rd be er ++ (wS G sd inp otp tc fc on ze ou wd lo up ++ (wH G hd hc sa sv ++ (wD G md ab ++ (wR G rd tr rt ++ (wB G be beD kn' ct' bu' bl' tu' tl' bd' bm' d0 d1' d2' d3' d4' d5')))))) ++ wM G cad nw ps er2 us' un' od' li' st lm' hs') H := hP
  have hD : va_D A ((wP G ad sd hd md rd be er ++ (wS G sd inp otp tc fc on ze ou wd lo up ++ (wH G hd hc sa sv ++ (wD G md ab ++ (wR G rd tr rt ++ (wB G be beD kn' ct' bu' bl' tu' tl' bd' bm' d0 d1' d2' d3' d4' d5')))))) ++ wM G cad nw ps er2 us' un' od' li' st lm' hs') := hD
  try dsimp only at h
  obtain ⟨he, hR⟩ := h
  refine W.lcmp hx hb dL_law_735 ?_
  exact lv_if_eq (tgt := 741) hx hb dL_law_736 (by decide) (fun _ => next _ _ ⟨er, inp, otp, tc, fc, on, ze, ou, wd, lo, up, hc, sa, sv, ab, tr, rt, kn', ct', bu', bl', tu', tl', bd', bm', d0, d1', d2', d3', d4', d5', nw, ps, er2, us', un', od', li', st, lm', hs', hR, hP, hD, hS⟩) (fun hne => absurd (by rw [lg_cmp_eq]; exact he) hne)
