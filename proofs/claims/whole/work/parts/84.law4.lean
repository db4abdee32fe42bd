set_option maxHeartbeats 4000000 in
set_option maxRecDepth 100000 in
theorem law_15 {p : Program} {l : Launch} {e : Env} {s : State} {m : MethodId} {below : List Frame} {meth : Method} {c : Code} {b L : Nat} {xs : Nat → Int32} {G : GG} {A : Nat → Prop} {Q : State → Prop} {ad sd hd md rd be : Nat → Nat} {beD : Nat → Nat → Nat} {cad : Nat → Nat} (C : LC p s m c b L xs G A) {i : Nat} (hi : i + 4 ≤ L) (hL : L ≤ 2048) {H : Heap} {locs : List Loc} {ls : Array Slot} (I : WI G ad sd hd md rd be beD cad A s H locs) (hl : lv_has ls 4 [(3, .int (nI i)), (2, .ref (cad 0)), (1, .ref (ad 0)), (0, .ref b)]) (next : ∀ (H : Heap) (locs : List Loc), WI G ad sd hd md rd be beD cad A s H locs → W p l e room_1 s m #[Value.ref b] below meth c H locs 600000 7302249 Q (F0 m 741 ls [])) : W p l e room_1 s m #[Value.ref b] below meth c H locs 600000 7302249 Q (F0 m 517 ls []) := by
  obtain ⟨hx, hb, hml, hown, hts, hX, hbl, hbA, hK, hZ, hA⟩ := C
  obtain ⟨er, inp, otp, tc, fc, on, ze, ou, wd, lo, up, hc, sa, sv, ab, tr, rt, kn, ct, bu, bl, tu, tl, bd, bm, d0, d1, d2, d3, d4, d5, nw, ps, er2, us, un, od, li, st, lm, hs, hR, hP, hD, hS⟩ := I
  refine lv_aload_n hx hb dL_law_517 rfl (lv_at hl 2 rfl) ?_
  refine lv_aload_n hx hb dL_law_518 rfl (lv_at hl 3 rfl) ?_
  refine lv_iload_n hx hb dL_law_519 rfl (lv_at hl 0 rfl) ?_
  refine lv_iconst (v := nI 1) hx hb dL_law_520 (by decide) ?_
  refine lv_iadd hx hb dL_law_521 ?_
  refine va_sld hx hb hX hbl hbA hS (ixs hi (by decide) hL) dL_law_522 ?_
  refine kp_i (wr := wM G cad nw ps er2 us un od li st lm hs) (va_runV (As := [.int (xs (nI i + nI 1).toNatClampNeg)]) (rest := []) ⟨hx, hb, hml, hown, hts⟩ (c_X5_termAt l G ad sd hd md rd be beD _ er inp otp tc fc on ze ou wd lo up hc sa sv ab tr rt kn ct bu bl tu tl bd bm d0 d1 d2 d3 d4 d5 (xs (nI i + nI 1).toNatClampNeg) (m_termAt (us := us) (un := un) (od := od) hR)) (cwV 1 hts gL_law_X5_termAt rfl rfl rfl (by decide +kernel) ⟨Nat.le_of_ble_eq_true rfl, Nat.le_of_ble_eq_true rfl⟩) (kpVp hK hP hD hZ hS hA List.perm_append_comm (q0 := 0) (ci := 5) rfl rfl) rfl rfl hl.1 rfl (lv_room (Nat.le_of_ble_eq_true rfl)) dL_law_523 ⟨Nat.le_of_ble_eq_true rfl, Nat.le_of_ble_eq_true rfl⟩) hP hD hS hA List.perm_append_comm (fun r5 w5 H locs h hP hD hS => ?_)
  obtain ⟨er', rfl⟩ : ∃ z, z = w5 := ⟨_, rfl⟩
  have hP : va_P G.1 vwCl ((wM G cad nw ps er2 us un od li st lm hs) ++ (wP G ad sd hd md rd be er' ++ (wS G sd inp otp tc fc on ze ou wd lo up ++ (wH G hd hc sa sv ++ (wD G md ab ++ (wR G rd tr rt ++ (wB G be beD kn ct bu bl tu tl bd bm d0 d1 d2 d3 d4 d5))))))) H := hP
  have hD : va_D A ((wM G cad nw ps er2 us un od li st lm hs) ++ (wP G ad sd hd md rd be er' ++ (wS G sd inp otp tc fc on ze ou wd lo up ++ (wH G hd hc sa sv ++ (wD G md ab ++ (wR G rd tr rt ++ (wB G be beD kn ct bu bl tu tl bd bm d0 d1 d2 d3 d4 d5))))))) := hD
  try dsimp only at h
  refine lv_aload_n hx hb dL_law_526 rfl (lv_at hl 1 rfl) ?_
  refine lv_aload_n hx hb dL_law_527 rfl (lv_at hl 3 rfl) ?_
  refine lv_iload_n hx hb dL_law_528 rfl (lv_at hl 0 rfl) ?_
  refine lv_iconst (v := nI 1) hx hb dL_law_529 (by decide) ?_
  refine lv_iadd hx hb dL_law_530 ?_
  refine va_sld hx hb hX hbl hbA hS (ixs hi (by decide) hL) dL_law_531 ?_
  refine kp_i (wr := wP G ad sd hd md rd be er' ++ (wS G sd inp otp tc fc on ze ou wd lo up ++ (wH G hd hc sa sv ++ (wD G md ab ++ (wR G rd tr rt ++ (wB G be beD kn ct bu bl tu tl bd bm d0 d1 d2 d3 d4 d5)))))) (va_runV (As := [.int (xs (nI i + nI 1).toNatClampNeg)]) (rest := [.int r5]) ⟨hx, hb, hml, hown, hts⟩ (c_X6_termAt l G cad _ nw ps er2 us un od li st lm hs (xs (nI i + nI 1).toNatClampNeg) h) (cwV 1 hts gL_law_X6_termAt rfl rfl rfl (by decide +kernel) ⟨Nat.le_of_ble_eq_true rfl, Nat.le_of_ble_eq_true rfl⟩) (kpVp hK hP hD hZ hS hA List.perm_append_comm (q0 := 0) (ci := 6) rfl rfl) rfl rfl hl.1 rfl (lv_room (Nat.le_of_ble_eq_true rfl)) dL_law_532 ⟨Nat.le_of_ble_eq_true rfl, Nat.le_of_ble_eq_true rfl⟩) hP hD hS hA List.perm_append_comm (fun r6 w6 H locs h hP hD hS => ?_)
  obtain ⟨er2', us', un', od'⟩ := w6
  have hP : va_P G.1 vwCl ((wP G ad sd hd md rd be er' ++ (wS G sd inp otp tc fc on ze ou wd lo up ++ (wH G hd hc sa sv ++ (wD G md ab ++ (wR G rd tr rt ++ (wB G be beD kn ct bu bl tu tl bd bm d0 d1 d2 d3 d4 d5)))))) ++ wM G cad nw ps er2' us' un' od' li st lm hs) H := hP
  have hD : va_D A ((wP G ad sd hd md rd be er' ++ (wS G sd inp otp tc fc on ze ou wd lo up ++ (wH G hd hc sa sv ++ (wD G md ab ++ (wR G rd tr rt ++ (wB G be beD kn ct bu bl tu tl bd bm d0 d1 d2 d3 d4 d5)))))) ++ wM G cad nw ps er2' us' un' od' li st lm hs) := hD
  try dsimp only at h
  obtain ⟨he, hR⟩ := h
  exact lv_icmp_eq (tgt := 741) hx hb dL_law_535 (by decide) (fun _ => next _ _ ⟨er', inp, otp, tc, fc, on, ze, ou, wd, lo, up, hc, sa, sv, ab, tr, rt, kn, ct, bu, bl, tu, tl, bd, bm, d0, d1, d2, d3, d4, d5, nw, ps, er2', us', un', od', li, st, lm, hs, hR, hP, hD, hS⟩) (fun hne => absurd he hne)
set_option maxHeartbeats 4000000 in
set_option maxRecDepth 100000 in
theorem law_16 {p : Program} {l : Launch} {e : Env} {s : State} {m : MethodId} {below : List Frame} {meth : Method} {c : Code} {b L : Nat} {xs : Nat → Int32} {G : GG} {A : Nat → Prop} {Q : State → Prop} {ad sd hd md rd be : Nat → Nat} {beD : Nat → Nat → Nat} {cad : Nat → Nat} (C : LC p s m c b L xs G A) {i : Nat} (hi : i + 4 ≤ L) (hL : L ≤ 2048) {H : Heap} {locs : List Loc} {ls : Array Slot} (I : WI G ad sd hd md rd be beD cad A s H locs) (hl : lv_has ls 4 [(3, .int (nI i)), (2, .ref (cad 0)), (1, .ref (ad 0)), (0, .ref b)]) (next : ∀ (H : Heap) (locs : List Loc), WI G ad sd hd md rd be beD cad A s H locs → W p l e room_1 s m #[Value.ref b] below meth c H locs 600000 7302249 Q (F0 m 741 ls [])) : W p l e room_1 s m #[Value.ref b] below meth c H locs 600000 7302249 Q (F0 m 540 ls []) := by
  obtain ⟨hx, hb, hml, hown, hts, hX, hbl, hbA, hK, hZ, hA⟩ := C
  obtain ⟨er, inp, otp, tc, fc, on, ze, ou, wd, lo, up, hc, sa, sv, ab, tr, rt, kn, ct, bu, bl, tu, tl, bd, bm, d0, d1, d2, d3, d4, d5, nw, ps, er2, us, un, od, li, st, lm, hs, hR, hP, hD, hS⟩ := I
  refine lv_aload_n hx hb dL_law_540 rfl (lv_at hl 2 rfl) ?_
  refine lv_aload_n hx hb dL_law_541 rfl (lv_at hl 3 rfl) ?_
  refine lv_iload_n hx hb dL_law_542 rfl (lv_at hl 0 rfl) ?_
  refine lv_iconst (v := nI 1) hx hb dL_law_543 (by decide) ?_
  refine lv_iadd hx hb dL_law_544 ?_
  refine va_sld hx hb hX hbl hbA hS (ixs hi (by decide) hL) dL_law_545 ?_
  refine kp_i (wr := wM G cad nw ps er2 us un od li st lm hs) (va_runV (As := [.int (xs (nI i + nI 1).toNatClampNeg)]) (rest := []) ⟨hx, hb, hml, hown, hts⟩ (c_X5_rowOf l G ad sd hd md rd be beD _ er inp otp tc fc on ze ou wd lo up hc sa sv ab tr rt kn ct bu bl tu tl bd bm d0 d1 d2 d3 d4 d5 (xs (nI i + nI 1).toNatClampNeg) (m_rowOf (us := us) (un := un) (od := od) hR)) (cwV 1 hts gL_law_X5_rowOf rfl rfl rfl (by decide +kernel) ⟨Nat.le_of_ble_eq_true rfl, Nat.le_of_ble_eq_true rfl⟩) (kpVp hK hP hD hZ hS hA List.perm_append_comm (q0 := 0) (ci := 5) rfl rfl) rfl rfl hl.1 rfl (lv_room (Nat.le_of_ble_eq_true rfl)) dL_law_546 ⟨Nat.le_of_ble_eq_true rfl, Nat.le_of_ble_eq_true rfl⟩) hP hD hS hA List.perm_append_comm (fun r5 w5 H locs h hP hD hS => ?_)
  obtain ⟨er', rfl⟩ : ∃ z, z = w5 := ⟨_, rfl⟩
  have hP : va_P G.1 vwCl ((wM G cad nw ps er2 us un od li st lm hs) ++ (wP G ad sd hd md rd be er' ++ (wS G sd inp otp tc fc on ze ou wd lo up ++ (wH G hd hc sa sv ++ (wD G md ab ++ (wR G rd tr rt ++ (wB G be beD kn ct bu bl tu tl bd bm d0 d1 d2 d3 d4 d5))))))) H := hP
  have hD : va_D A ((wM G cad nw ps er2 us un od li st lm hs) ++ (wP G ad sd hd md rd be er' ++ (wS G sd inp otp tc fc on ze ou wd lo up ++ (wH G hd hc sa sv ++ (wD G md ab ++ (wR G rd tr rt ++ (wB G be beD kn ct bu bl tu tl bd bm d0 d1 d2 d3 d4 d5))))))) := hD
  try dsimp only at h
  refine lv_aload_n hx hb dL_law_549 rfl (lv_at hl 1 rfl) ?_
  refine lv_aload_n hx hb dL_law_550 rfl (lv_at hl 3 rfl) ?_
  refine lv_iload_n hx hb dL_law_551 rfl (lv_at hl 0 rfl) ?_
  refine lv_iconst (v := nI 1) hx hb dL_law_552 (by decide) ?_
  refine lv_iadd hx hb dL_law_553 ?_
  refine va_sld hx hb hX hbl hbA hS (ixs hi (by decide) hL) dL_law_554 ?_
  refine kp_i (wr := wP G ad sd hd md rd be er' ++ (wS G sd inp otp tc fc on ze ou wd lo up ++ (wH G hd hc sa sv ++ (wD G md ab ++ (wR G rd tr rt ++ (wB G be beD kn ct bu bl tu tl bd bm d0 d1 d2 d3 d4 d5)))))) (va_runV (As := [.int (xs (nI i + nI 1).toNatClampNeg)]) (rest := [.int r5]) ⟨hx, hb, hml, hown, hts⟩ (c_X6_rowOf l G cad _ nw ps er2 us un od li st lm hs (xs (nI i + nI 1).toNatClampNeg) h) (cwV 1 hts gL_law_X6_rowOf rfl rfl rfl (by decide +kernel) ⟨Nat.le_of_ble_eq_true rfl, Nat.le_of_ble_eq_true rfl⟩) (kpVp hK hP hD hZ hS hA List.perm_append_comm (q0 := 0) (ci := 6) rfl rfl) rfl rfl hl.1 rfl (lv_room (Nat.le_of_ble_eq_true rfl)) dL_law_555 ⟨Nat.le_of_ble_eq_true rfl, Nat.le_of_ble_eq_true rfl⟩) hP hD hS hA List.perm_append_comm (fun r6 w6 H locs h hP hD hS => ?_)
  obtain ⟨er2', us', un', od'⟩ := w6
  have hP : va_P G.1 vwCl ((wP G ad sd hd md rd be er' ++ (wS G sd inp otp tc fc on ze ou wd lo up ++ (wH G hd hc sa sv ++ (wD G md ab ++ (wR G rd tr rt ++ (wB G be beD kn ct bu bl tu tl bd bm d0 d1 d2 d3 d4 d5)))))) ++ wM G cad nw ps er2' us' un' od' li st lm hs) H := hP
  have hD : va_D A ((wP G ad sd hd md rd be er' ++ (wS G sd inp otp tc fc on ze ou wd lo up ++ (wH G hd hc sa sv ++ (wD G md ab ++ (wR G rd tr rt ++ (wB G be beD kn ct bu bl tu tl bd bm d0 d1 d2 d3 d4 d5)))))) ++ wM G cad nw ps er2' us' un' od' li st lm hs) := hD
  try dsimp only at h
  obtain ⟨he, hR⟩ := h
  exact lv_icmp_eq (tgt := 741) hx hb dL_law_558 (by decide) (fun _ => next _ _ ⟨er', inp, otp, tc, fc, on, ze, ou, wd, lo, up, hc, sa, sv, ab, tr, rt, kn, ct, bu, bl, tu, tl, bd, bm, d0, d1, d2, d3, d4, d5, nw, ps, er2', us', un', od', li, st, lm, hs, hR, hP, hD, hS⟩) (fun hne => absurd he hne)
set_option maxHeartbeats 4000000 in
set_option maxRecDepth 100000 in
theorem law_17 {p : Program} {l : Launch} {e : Env} {s : State} {m : MethodId} {below : List Frame} {meth : Method} {c : Code} {b L : Nat} {xs : Nat → Int32} {G : GG} {A : Nat → Prop} {Q : State → Prop} {ad sd hd md rd be : Nat → Nat} {beD : Nat → Nat → Nat} {cad : Nat → Nat} (C : LC p s m c b L xs G A) {i : Nat} (hi : i + 4 ≤ L) (hL : L ≤ 2048) {H : Heap} {locs : List Loc} {ls : Array Slot} (I : WI G ad sd hd md rd be beD cad A s H locs) (hl : lv_has ls 4 [(3, .int (nI i)), (2, .ref (cad 0)), (1, .ref (ad 0)), (0, .ref b)]) (next : ∀ (H : Heap) (locs : List Loc), WI G ad sd hd md rd be beD cad A s H locs → W p l e room_1 s m #[Value.ref b] below meth c H locs 600000 7302249 Q (F0 m 741 ls [])) : W p l e room_1 s m #[Value.ref b] below meth c H locs 600000 7302249 Q (F0 m 563 ls []) := by
  obtain ⟨hx, hb, hml, hown, hts, hX, hbl, hbA, hK, hZ, hA⟩ := C
  obtain ⟨er, inp, otp, tc, fc, on, ze, ou, wd, lo, up, hc, sa, sv, ab, tr, rt, kn, ct, bu, bl, tu, tl, bd, bm, d0, d1, d2, d3, d4, d5, nw, ps, er2, us, un, od, li, st, lm, hs, hR, hP, hD, hS⟩ := I
  refine lv_aload_n hx hb dL_law_563 rfl (lv_at hl 2 rfl) ?_
  refine lv_aload_n hx hb dL_law_564 rfl (lv_at hl 3 rfl) ?_
  refine lv_iload_n hx hb dL_law_565 rfl (lv_at hl 0 rfl) ?_
  refine lv_iconst (v := nI 1) hx hb dL_law_566 (by decide) ?_
  refine lv_iadd hx hb dL_law_567 ?_
  refine va_sld hx hb hX hbl hbA hS (ixs hi (by decide) hL) dL_law_568 ?_
  refine lv_aload_n hx hb dL_law_569 rfl (lv_at hl 3 rfl) ?_
  refine lv_iload_n hx hb dL_law_570 rfl (lv_at hl 0 rfl) ?_
  refine lv_iconst (v := nI 2) hx hb dL_law_571 (by decide) ?_
  refine lv_iadd hx hb dL_law_572 ?_
  refine va_sld hx hb hX hbl hbA hS (ixs hi (by decide) hL) dL_law_573 ?_
  refine kp_i (wr := wM G cad nw ps er2 us un od li st lm hs) (va_runV (As := [.int (xs (nI i + nI 1).toNatClampNeg), .int (xs (nI i + nI 2).toNatClampNeg)]) (rest := []) ⟨hx, hb, hml, hown, hts⟩ (c_X5_mustPrecede l G ad sd hd md rd be beD _ er inp otp tc fc on ze ou wd lo up hc sa sv ab tr rt kn ct bu bl tu tl bd bm d0 d1 d2 d3 d4 d5 (xs (nI i + nI 1).toNatClampNeg) (xs (nI i + nI 2).toNatClampNeg) (m_mustPrecede (us := us) (un := un) hR)) (cwV 2 hts gL_law_X5_mustPrecede rfl rfl rfl (by decide +kernel) ⟨Nat.le_of_ble_eq_true rfl, Nat.le_of_ble_eq_true rfl⟩) (kpVp hK hP hD hZ hS hA List.perm_append_comm (q0 := 0) (ci := 5) rfl rfl) rfl rfl hl.1 rfl (lv_room (Nat.le_of_ble_eq_true rfl)) dL_law_574 ⟨Nat.le_of_ble_eq_true rfl, Nat.le_of_ble_eq_true rfl⟩) hP hD hS hA List.perm_append_comm (fun r5 w5 H locs h hP hD hS => ?_)
  obtain ⟨er', rfl⟩ : ∃ z, z = w5 := ⟨_, rfl⟩
  have hP : va_P G.1 vwCl ((wM G cad nw ps er2 us un od li st lm hs) ++ (wP G ad sd hd md rd be er' ++ (wS G sd inp otp tc fc on ze ou wd lo up ++ (wH G hd hc sa sv ++ (wD G md ab ++ (wR G rd tr rt ++ (wB G be beD kn ct bu bl tu tl bd bm d0 d1 d2 d3 d4 d5))))))) H := hP
  have hD : va_D A ((wM G cad nw ps er2 us un od li st lm hs) ++ (wP G ad sd hd md rd be er' ++ (wS G sd inp otp tc fc on ze ou wd lo up ++ (wH G hd hc sa sv ++ (wD G md ab ++ (wR G rd tr rt ++ (wB G be beD kn ct bu bl tu tl bd bm d0 d1 d2 d3 d4 d5))))))) := hD
  try dsimp only at h
  refine lv_aload_n hx hb dL_law_577 rfl (lv_at hl 1 rfl) ?_
  refine lv_aload_n hx hb dL_law_578 rfl (lv_at hl 3 rfl) ?_
  refine lv_iload_n hx hb dL_law_579 rfl (lv_at hl 0 rfl) ?_
  refine lv_iconst (v := nI 1) hx hb dL_law_580 (by decide) ?_
  refine lv_iadd hx hb dL_law_581 ?_
  refine va_sld hx hb hX hbl hbA hS (ixs hi (by decide) hL) dL_law_582 ?_
  refine lv_aload_n hx hb dL_law_583 rfl (lv_at hl 3 rfl) ?_
  refine lv_iload_n hx hb dL_law_584 rfl (lv_at hl 0 rfl) ?_
  refine lv_iconst (v := nI 2) hx hb dL_law_585 (by decide) ?_
  refine lv_iadd hx hb dL_law_586 ?_
  refine va_sld hx hb hX hbl hbA hS (ixs hi (by decide) hL) dL_law_587 ?_
  refine kp_i (wr := wP G ad sd hd md rd be er' ++ (wS G sd inp otp tc fc on ze ou wd lo up ++ (wH G hd hc sa sv ++ (wD G md ab ++ (wR G rd tr rt ++ (wB G be beD kn ct bu bl tu tl bd bm d0 d1 d2 d3 d4 d5)))))) (va_runV (As := [.int (xs (nI i + nI 1).toNatClampNeg), .int (xs (nI i + nI 2).toNatClampNeg)]) (rest := [.int r5]) ⟨hx, hb, hml, hown, hts⟩ (c_X6_mustPrecede l G cad _ nw ps er2 us un od li st lm hs (xs (nI i + nI 1).toNatClampNeg) (xs (nI i + nI 2).toNatClampNeg) h) (cwV 2 hts gL_law_X6_mustPrecede rfl rfl rfl (by decide +kernel) ⟨Nat.le_of_ble_eq_true rfl, Nat.le_of_ble_eq_true rfl⟩) (kpVp hK hP hD hZ hS hA List.perm_append_comm (q0 := 0) (ci := 6) rfl rfl) rfl rfl hl.1 rfl (lv_room (Nat.le_of_ble_eq_true rfl)) dL_law_588 ⟨Nat.le_of_ble_eq_true rfl, Nat.le_of_ble_eq_true rfl⟩) hP hD hS hA List.perm_append_comm (fun r6 w6 H locs h hP hD hS => ?_)
  obtain ⟨er2', us', un'⟩ := w6
  have hP : va_P G.1 vwCl ((wP G ad sd hd md rd be er' ++ (wS G sd inp otp tc fc on ze ou wd lo up ++ (wH G hd hc sa sv ++ (wD G md ab ++ (wR G rd tr rt ++ (wB G be beD kn ct bu bl tu tl bd bm d0 d1 d2 d3 d4 d5)))))) ++ wM G cad nw ps er2' us' un' od li st lm hs) H := hP
  have hD : va_D A ((wP G ad sd hd md rd be er' ++ (wS G sd inp otp tc fc on ze ou wd lo up ++ (wH G hd hc sa sv ++ (wD G md ab ++ (wR G rd tr rt ++ (wB G be beD kn ct bu bl tu tl bd bm d0 d1 d2 d3 d4 d5)))))) ++ wM G cad nw ps er2' us' un' od li st lm hs) := hD
  try dsimp only at h
  obtain ⟨he, hR⟩ := h
  exact lv_icmp_eq (tgt := 741) hx hb dL_law_591 (by decide) (fun _ => next _ _ ⟨er', inp, otp, tc, fc, on, ze, ou, wd, lo, up, hc, sa, sv, ab, tr, rt, kn, ct, bu, bl, tu, tl, bd, bm, d0, d1, d2, d3, d4, d5, nw, ps, er2', us', un', od, li, st, lm, hs, hR, hP, hD, hS⟩) (fun hne => absurd he hne)
set_option maxHeartbeats 4000000 in
set_option maxRecDepth 100000 in
theorem law_18 {p : Program} {l : Launch} {e : Env} {s : State} {m : MethodId} {below : List Frame} {meth : Method} {c : Code} {b L : Nat} {xs : Nat → Int32} {G : GG} {A : Nat → Prop} {Q : State → Prop} {ad sd hd md rd be : Nat → Nat} {beD : Nat → Nat → Nat} {cad : Nat → Nat} (C : LC p s m c b L xs G A) {i : Nat} (hi : i + 4 ≤ L) (hL : L ≤ 2048) {H : Heap} {locs : List Loc} {ls : Array Slot} (I : WI G ad sd hd md rd be beD cad A s H locs) (hl : lv_has ls 4 [(3, .int (nI i)), (2, .ref (cad 0)), (1, .ref (ad 0)), (0, .ref b)]) (next : ∀ (H : Heap) (locs : List Loc), WI G ad sd hd md rd be beD cad A s H locs → W p l e room_1 s m #[Value.ref b] below meth c H locs 600000 7302249 Q (F0 m 741 ls [])) : W p l e room_1 s m #[Value.ref b] below meth c H locs 600000 7302249 Q (F0 m 596 ls []) := by
  obtain ⟨hx, hb, hml, hown, hts, hX, hbl, hbA, hK, hZ, hA⟩ := C
  obtain ⟨er, inp, otp, tc, fc, on, ze, ou, wd, lo, up, hc, sa, sv, ab, tr, rt, kn, ct, bu, bl, tu, tl, bd, bm, d0, d1, d2, d3, d4, d5, nw, ps, er2, us, un, od, li, st, lm, hs, hR, hP, hD, hS⟩ := I
  refine lv_aload_n hx hb dL_law_596 rfl (lv_at hl 2 rfl) ?_
  refine kp_i (wr := wM G cad nw ps er2 us un od li st lm hs) (va_runV (As := []) (rest := []) ⟨hx, hb, hml, hown, hts⟩ (c_X5_area l G ad sd hd md rd be beD _ er inp otp tc fc on ze ou wd lo up hc sa sv ab tr rt kn ct bu bl tu tl bd bm d0 d1 d2 d3 d4 d5  (m_area  hR)) (cwV 0 hts gL_law_X5_area rfl rfl rfl (by decide +kernel) ⟨Nat.le_of_ble_eq_true rfl, Nat.le_of_ble_eq_true rfl⟩) (kpVp hK hP hD hZ hS hA List.perm_append_comm (q0 := 0) (ci := 5) rfl rfl) rfl rfl hl.1 rfl (lv_room (Nat.le_of_ble_eq_true rfl)) dL_law_597 ⟨Nat.le_of_ble_eq_true rfl, Nat.le_of_ble_eq_true rfl⟩) hP hD hS hA List.perm_append_comm (fun r5 w5 H locs h hP hD hS => ?_)
  have hP : va_P G.1 vwCl ((wM G cad nw ps er2 us un od li st lm hs) ++ (wP G ad sd hd md rd be er ++ (wS G sd inp otp tc fc on ze ou wd lo up ++ (wH G hd hc sa sv ++ (wD G md ab ++ (wR G rd tr rt ++ (wB G be beD kn ct bu bl tu tl bd bm d0 d1 d2 d3 d4 d5))))))) H := hP
  have hD : va_D A ((wM G cad nw ps er2 us un od li st lm hs) ++ (wP G ad sd hd md rd be er ++ (wS G sd inp otp tc fc on ze ou wd lo up ++ (wH G hd hc sa sv ++ (wD G md ab ++ (wR G rd tr rt ++ (wB G be beD kn ct bu bl tu tl bd bm d0 d1 d2 d3 d4 d5))))))) := hD
  try dsimp only at h
  refine lv_aload_n hx hb dL_law_600 rfl (lv_at hl 1 rfl) ?_
  refine kp_i (wr := wP G ad sd hd md rd be er ++ (wS G sd inp otp tc fc on ze ou wd lo up ++ (wH G hd hc sa sv ++ (wD G md ab ++ (wR G rd tr rt ++ (wB G be beD kn ct bu bl tu tl bd bm d0 d1 d2 d3 d4 d5)))))) (va_runV (As := []) (rest := [.int r5]) ⟨hx, hb, hml, hown, hts⟩ (c_X6_area l G cad _ nw ps er2 us un od li st lm hs  h) (cwV 0 hts gL_law_X6_area rfl rfl rfl (by decide +kernel) ⟨Nat.le_of_ble_eq_true rfl, Nat.le_of_ble_eq_true rfl⟩) (kpVp hK hP hD hZ hS hA List.perm_append_comm (q0 := 0) (ci := 6) rfl rfl) rfl rfl hl.1 rfl (lv_room (Nat.le_of_ble_eq_true rfl)) dL_law_601 ⟨Nat.le_of_ble_eq_true rfl, Nat.le_of_ble_eq_true rfl⟩) hP hD hS hA List.perm_append_comm (fun r6 w6 H locs h hP hD hS => ?_)
  have hP : va_P G.1 vwCl ((wP G ad sd hd md rd be er ++ (wS G sd inp otp tc fc on ze ou wd lo up ++ (wH G hd hc sa sv ++ (wD G md ab ++ (wR G rd tr rt ++ (wB G be beD kn ct bu bl tu tl bd bm d0 d1 d2 d3 d4 d5)))))) ++ wM G cad nw ps er2 us un od li st lm hs) H := hP
  have hD : va_D A ((wP G ad sd hd md rd be er ++ (wS G sd inp otp tc fc on ze ou wd lo up ++ (wH G hd hc sa sv ++ (wD G md ab ++ (wR G rd tr rt ++ (wB G be beD kn ct bu bl tu tl bd bm d0 d1 d2 d3 d4 d5)))))) ++ wM G cad nw ps er2 us un od li st lm hs) := hD
  try dsimp only at h
  obtain ⟨he, hR⟩ := h
  exact lv_icmp_eq (tgt := 741) hx hb dL_law_604 (by decide) (fun _ => next _ _ ⟨er, inp, otp, tc, fc, on, ze, ou, wd, lo, up, hc, sa, sv, ab, tr, rt, kn, ct, bu, bl, tu, tl, bd, bm, d0, d1, d2, d3, d4, d5, nw, ps, er2, us, un, od, li, st, lm, hs, hR, hP, hD, hS⟩) (fun hne => absurd he hne)
set_option maxHeartbeats 4000000 in
set_option maxRecDepth 100000 in
theorem law_19 {p : Program} {l : Launch} {e : Env} {s : State} {m : MethodId} {below : List Frame} {meth : Method} {c : Code} {b L : Nat} {xs : Nat → Int32} {G : GG} {A : Nat → Prop} {Q : State → Prop} {ad sd hd md rd be : Nat → Nat} {beD : Nat → Nat → Nat} {cad : Nat → Nat} (C : LC p s m c b L xs G A) {i : Nat} (hi : i + 4 ≤ L) (hL : L ≤ 2048) {H : Heap} {locs : List Loc} {ls : Array Slot} (I : WI G ad sd hd md rd be beD cad A s H locs) (hl : lv_has ls 4 [(3, .int (nI i)), (2, .ref (cad 0)), (1, .ref (ad 0)), (0, .ref b)]) (next : ∀ (H : Heap) (locs : List Loc), WI G ad sd hd md rd be beD cad A s H locs → W p l e room_1 s m #[Value.ref b] below meth c H locs 600000 7302249 Q (F0 m 741 ls [])) : W p l e room_1 s m #[Value.ref b] below meth c H locs 600000 7302249 Q (F0 m 609 ls []) := by
  obtain ⟨hx, hb, hml, hown, hts, hX, hbl, hbA, hK, hZ, hA⟩ := C
  obtain ⟨er, inp, otp, tc, fc, on, ze, ou, wd, lo, up, hc, sa, sv, ab, tr, rt, kn, ct, bu, bl, tu, tl, bd, bm, d0, d1, d2, d3, d4, d5, nw, ps, er2, us, un, od, li, st, lm, hs, hR, hP, hD, hS⟩ := I
  refine lv_aload_n hx hb dL_law_609 rfl (lv_at hl 2 rfl) ?_
  refine lv_aload_n hx hb dL_law_610 rfl (lv_at hl 3 rfl) ?_
  refine lv_iload_n hx hb dL_law_611 rfl (lv_at hl 0 rfl) ?_
  refine lv_iconst (v := nI 1) hx hb dL_law_612 (by decide) ?_
  refine lv_iadd hx hb dL_law_613 ?_
  refine va_sld hx hb hX hbl hbA hS (ixs hi (by decide) hL) dL_law_614 ?_
  refine kp_i (wr := wM G cad nw ps er2 us un od li st lm hs) (va_runV (As := [.int (xs (nI i + nI 1).toNatClampNeg)]) (rest := []) ⟨hx, hb, hml, hown, hts⟩ (c_X5_span l G ad sd hd md rd be beD _ er inp otp tc fc on ze ou wd lo up hc sa sv ab tr rt kn ct bu bl tu tl bd bm d0 d1 d2 d3 d4 d5 (xs (nI i + nI 1).toNatClampNeg) (m_span (us := us) (un := un) (od := od) hR)) (cwV 1 hts gL_law_X5_span rfl rfl rfl (by decide +kernel) ⟨Nat.le_of_ble_eq_true rfl, Nat.le_of_ble_eq_true rfl⟩) (kpVp hK hP hD hZ hS hA List.perm_append_comm (q0 := 0) (ci := 5) rfl rfl) rfl rfl hl.1 rfl (lv_room (Nat.le_of_ble_eq_true rfl)) dL_law_615 ⟨Nat.le_of_ble_eq_true rfl, Nat.le_of_ble_eq_true rfl⟩) hP hD hS hA List.perm_append_comm (fun r5 w5 H locs h hP hD hS => ?_)
  obtain ⟨er', rfl⟩ : ∃ z, z = w5 := ⟨_, rfl⟩
  have hP : va_P G.1 vwCl ((wM G cad nw ps er2 us un od li st lm hs) ++ (wP G ad sd hd md rd be er' ++ (wS G sd inp otp tc fc on ze ou wd lo up ++ (wH G hd hc sa sv ++ (wD G md ab ++ (wR G rd tr rt ++ (wB G be beD kn ct bu bl tu tl bd bm d0 d1 d2 d3 d4 d5))))))) H := hP
  have hD : va_D A ((wM G cad nw ps er2 us un od li st lm hs) ++ (wP G ad sd hd md rd be er' ++ (wS G sd inp otp tc fc on ze ou wd lo up ++ (wH G hd hc sa sv ++ (wD G md ab ++ (wR G rd tr rt ++ (wB G be beD kn ct bu bl tu tl bd bm d0 d1 d2 d3 d4 d5))))))) := hD
  try dsimp only at h
  refine lv_aload_n hx hb dL_law_618 rfl (lv_at hl 1 rfl) ?_
  refine lv_aload_n hx hb dL_law_619 rfl (lv_at hl 3 rfl) ?_
  refine lv_iload_n hx hb dL_law_620 rfl (lv_at hl 0 rfl) ?_
  refine lv_iconst (v := nI 1) hx hb dL_law_621 (by decide) ?_
  refine lv_iadd hx hb dL_law_622 ?_
  refine va_sld hx hb hX hbl hbA hS (ixs hi (by decide) hL) dL_law_623 ?_
  refine kp_i (wr := wP G ad sd hd md rd be er' ++ (wS G sd inp otp tc fc on ze ou wd lo up ++ (wH G hd hc sa sv ++ (wD G md ab ++ (wR G rd tr rt ++ (wB G be beD kn ct bu bl tu tl bd bm d0 d1 d2 d3 d4 d5)))))) (va_runV (As := [.int (xs (nI i + nI 1).toNatClampNeg)]) (rest := [.int r5]) ⟨hx, hb, hml, hown, hts⟩ (c_X6_span l G cad _ nw ps er2 us un od li st lm hs (xs (nI i + nI 1).toNatClampNeg) h) (cwV 1 hts gL_law_X6_span rfl rfl rfl (by decide +kernel) ⟨Nat.le_of_ble_eq_true rfl, Nat.le_of_ble_eq_true rfl⟩) (kpVp hK hP hD hZ hS hA List.perm_append_comm (q0 := 0) (ci := 6) rfl rfl) rfl rfl hl.1 rfl (lv_room (Nat.le_of_ble_eq_true rfl)) dL_law_624 ⟨Nat.le_of_ble_eq_true rfl, Nat.le_of_ble_eq_true rfl⟩) hP hD hS hA List.perm_append_comm (fun r6 w6 H locs h hP hD hS => ?_)
  obtain ⟨er2', us', un', od'⟩ := w6
  have hP : va_P G.1 vwCl ((wP G ad sd hd md rd be er' ++ (wS G sd inp otp tc fc on ze ou wd lo up ++ (wH G hd hc sa sv ++ (wD G md ab ++ (wR G rd tr rt ++ (wB G be beD kn ct bu bl tu tl bd bm d0 d1 d2 d3 d4 d5)))))) ++ wM G cad nw ps er2' us' un' od' li st lm hs) H := hP
  have hD : va_D A ((wP G ad sd hd md rd be er' ++ (wS G sd inp otp tc fc on ze ou wd lo up ++ (wH G hd hc sa sv ++ (wD G md ab ++ (wR G rd tr rt ++ (wB G be beD kn ct bu bl tu tl bd bm d0 d1 d2 d3 d4 d5)))))) ++ wM G cad nw ps er2' us' un' od' li st lm hs) := hD
  try dsimp only at h
  obtain ⟨he, hR⟩ := h
  exact lv_icmp_eq (tgt := 741) hx hb dL_law_627 (by decide) (fun _ => next _ _ ⟨er', inp, otp, tc, fc, on, ze, ou, wd, lo, up, hc, sa, sv, ab, tr, rt, kn, ct, bu, bl, tu, tl, bd, bm, d0, d1, d2, d3, d4, d5, nw, ps, er2', us', un', od', li, st, lm, hs, hR, hP, hD, hS⟩) (fun hne => absurd he hne)
