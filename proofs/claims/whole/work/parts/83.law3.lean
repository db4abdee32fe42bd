set_option maxHeartbeats 4000000 in
set_option maxRecDepth 100000 in
theorem law_10 {p : Program} {l : Launch} {e : Env} {s : State} {m : MethodId} {below : List Frame} {meth : Method} {c : Code} {b L : Nat} {xs : Nat → Int32} {G : GG} {A : Nat → Prop} {Q : State → Prop} {ad sd hd md rd be : Nat → Nat} {beD : Nat → Nat → Nat} {cad : Nat → Nat} (C : LC p s m c b L xs G A) {i : Nat} (hi : i + 4 ≤ L) (hL : L ≤ 2048) {H : Heap} {locs : List Loc} {ls : Array Slot} (I : WI G ad sd hd md rd be beD cad A s H locs) (hl : lv_has ls 4 [(3, .int (nI i)), (2, .ref (cad 0)), (1, .ref (ad 0)), (0, .ref b)]) (next : ∀ (H : Heap) (locs : List Loc), WI G ad sd hd md rd be beD cad A s H locs → W p l e room_1 s m #[Value.ref b] below meth c H locs 600000 7302249 Q (F0 m 741 ls [])) : W p l e room_1 s m #[Value.ref b] below meth c H locs 600000 7302249 Q (F0 m 392 ls []) := by
  obtain ⟨hx, hb, hml, hown, hts, hX, hbl, hbA, hK, hZ, hA⟩ := C
  obtain ⟨er, inp, otp, tc, fc, on, ze, ou, wd, lo, up, hc, sa, sv, ab, tr, rt, kn, ct, bu, bl, tu, tl, bd, bm, d0, d1, d2, d3, d4, d5, nw, ps, er2, us, un, od, li, st, lm, hs, hR, hP, hD, hS⟩ := I
  refine lv_aload_n hx hb dL_law_392 rfl (lv_at hl 2 rfl) ?_
  refine lv_aload_n hx hb dL_law_393 rfl (lv_at hl 3 rfl) ?_
  refine lv_iload_n hx hb dL_law_394 rfl (lv_at hl 0 rfl) ?_
  refine lv_iconst (v := nI 1) hx hb dL_law_395 (by decide) ?_
  refine lv_iadd hx hb dL_law_396 ?_
  refine va_sld hx hb hX hbl hbA hS (ixs hi (by decide) hL) dL_law_397 ?_
  refine lv_aload_n hx hb dL_law_398 rfl (lv_at hl 3 rfl) ?_
  refine lv_iload_n hx hb dL_law_399 rfl (lv_at hl 0 rfl) ?_
  refine lv_iconst (v := nI 2) hx hb dL_law_400 (by decide) ?_
  refine lv_iadd hx hb dL_law_401 ?_
  refine va_sld hx hb hX hbl hbA hS (ixs hi (by decide) hL) dL_law_402 ?_
  refine kp_i (wr := wM G cad nw ps er2 us un od li st lm hs) (va_runV (As := [.int (xs (nI i + nI 1).toNatClampNeg), .int (xs (nI i + nI 2).toNatClampNeg)]) (rest := []) ⟨hx, hb, hml, hown, hts⟩ (c_X5_canFold l G ad sd hd md rd be beD _ er inp otp tc fc on ze ou wd lo up hc sa sv ab tr rt kn ct bu bl tu tl bd bm d0 d1 d2 d3 d4 d5 (xs (nI i + nI 1).toNatClampNeg) (xs (nI i + nI 2).toNatClampNeg) (m_canFold (us := us) hR)) (cwV 2 hts gL_law_X5_canFold rfl rfl rfl (by decide +kernel) ⟨Nat.le_of_ble_eq_true rfl, Nat.le_of_ble_eq_true rfl⟩) (kpVp hK hP hD hZ hS hA List.perm_append_comm (q0 := 0) (ci := 5) rfl rfl) rfl rfl hl.1 rfl (lv_room (Nat.le_of_ble_eq_true rfl)) dL_law_403 ⟨Nat.le_of_ble_eq_true rfl, Nat.le_of_ble_eq_true rfl⟩) hP hD hS hA List.perm_append_comm (fun r5 w5 H locs h hP hD hS => ?_)
  obtain ⟨er', rfl⟩ : ∃ z, z = w5 := ⟨_, rfl⟩
  have hP : va_P G.1 vwCl ((wM G cad nw ps er2 us un od li st lm hs) ++ (wP G ad sd hd md rd be er' ++ (wS G sd inp otp tc fc on ze ou wd lo up ++ (wH G hd hc sa sv ++ (wD G md ab ++ (wR G rd tr rt ++ (wB G be beD kn ct bu bl tu tl bd bm d0 d1 d2 d3 d4 d5))))))) H := hP
  have hD : va_D A ((wM G cad nw ps er2 us un od li st lm hs) ++ (wP G ad sd hd md rd be er' ++ (wS G sd inp otp tc fc on ze ou wd lo up ++ (wH G hd hc sa sv ++ (wD G md ab ++ (wR G rd tr rt ++ (wB G be beD kn ct bu bl tu tl bd bm d0 d1 d2 d3 d4 d5))))))) := hD
  try dsimp only at h
  refine lv_aload_n hx hb dL_law_406 rfl (lv_at hl 1 rfl) ?_
  refine lv_aload_n hx hb dL_law_407 rfl (lv_at hl 3 rfl) ?_
  refine lv_iload_n hx hb dL_law_408 rfl (lv_at hl 0 rfl) ?_
  refine lv_iconst (v := nI 1) hx hb dL_law_409 (by decide) ?_
  refine lv_iadd hx hb dL_law_410 ?_
  refine va_sld hx hb hX hbl hbA hS (ixs hi (by decide) hL) dL_law_411 ?_
  refine lv_aload_n hx hb dL_law_412 rfl (lv_at hl 3 rfl) ?_
  refine lv_iload_n hx hb dL_law_413 rfl (lv_at hl 0 rfl) ?_
  refine lv_iconst (v := nI 2) hx hb dL_law_414 (by decide) ?_
  refine lv_iadd hx hb dL_law_415 ?_
  refine va_sld hx hb hX hbl hbA hS (ixs hi (by decide) hL) dL_law_416 ?_
  refine kp_i (wr := wP G ad sd hd md rd be er' ++ (wS G sd inp otp tc fc on ze ou wd lo up ++ (wH G hd hc sa sv ++ (wD G md ab ++ (wR G rd tr rt ++ (wB G be beD kn ct bu bl tu tl bd bm d0 d1 d2 d3 d4 d5)))))) (va_runV (As := [.int (xs (nI i + nI 1).toNatClampNeg), .int (xs (nI i + nI 2).toNatClampNeg)]) (rest := [.int r5]) ⟨hx, hb, hml, hown, hts⟩ (c_X6_canFold l G cad _ nw ps er2 us un od li st lm hs (xs (nI i + nI 1).toNatClampNeg) (xs (nI i + nI 2).toNatClampNeg) h) (cwV 2 hts gL_law_X6_canFold rfl rfl rfl (by decide +kernel) ⟨Nat.le_of_ble_eq_true rfl, Nat.le_of_ble_eq_true rfl⟩) (kpVp hK hP hD hZ hS hA List.perm_append_comm (q0 := 0) (ci := 6) rfl rfl) rfl rfl hl.1 rfl (lv_room (Nat.le_of_ble_eq_true rfl)) dL_law_417 ⟨Nat.le_of_ble_eq_true rfl, Nat.le_of_ble_eq_true rfl⟩) hP hD hS hA List.perm_append_comm (fun r6 w6 H locs h hP hD hS => ?_)
  obtain ⟨er2', us'⟩ := w6
  have hP : va_P G.1 vwCl ((wP G ad sd hd md rd be er' ++ (wS G sd inp otp tc fc on ze ou wd lo up ++ (wH G hd hc sa sv ++ (wD G md ab ++ (wR G rd tr rt ++ (wB G be beD kn ct bu bl tu tl bd bm d0 d1 d2 d3 d4 d5)))))) ++ wM G cad nw ps er2' us' un od li st lm hs) H := hP
  have hD : va_D A ((wP G ad sd hd md rd be er' ++ (wS G sd inp otp tc fc on ze ou wd lo up ++ (wH G hd hc sa sv ++ (wD G md ab ++ (wR G rd tr rt ++ (wB G be beD kn ct bu bl tu tl bd bm d0 d1 d2 d3 d4 d5)))))) ++ wM G cad nw ps er2' us' un od li st lm hs) := hD
  try dsimp only at h
  obtain ⟨he, hR⟩ := h
  exact lv_icmp_eq (tgt := 741) hx hb dL_law_420 (by decide) (fun _ => next _ _ ⟨er', inp, otp, tc, fc, on, ze, ou, wd, lo, up, hc, sa, sv, ab, tr, rt, kn, ct, bu, bl, tu, tl, bd, bm, d0, d1, d2, d3, d4, d5, nw, ps, er2', us', un, od, li, st, lm, hs, hR, hP, hD, hS⟩) (fun hne => absurd he hne)
set_option maxHeartbeats 4000000 in
set_option maxRecDepth 100000 in
theorem law_11 {p : Program} {l : Launch} {e : Env} {s : State} {m : MethodId} {below : List Frame} {meth : Method} {c : Code} {b L : Nat} {xs : Nat → Int32} {G : GG} {A : Nat → Prop} {Q : State → Prop} {ad sd hd md rd be : Nat → Nat} {beD : Nat → Nat → Nat} {cad : Nat → Nat} (C : LC p s m c b L xs G A) {i : Nat} (hi : i + 4 ≤ L) (hL : L ≤ 2048) {H : Heap} {locs : List Loc} {ls : Array Slot} (I : WI G ad sd hd md rd be beD cad A s H locs) (hl : lv_has ls 4 [(3, .int (nI i)), (2, .ref (cad 0)), (1, .ref (ad 0)), (0, .ref b)]) (next : ∀ (H : Heap) (locs : List Loc), WI G ad sd hd md rd be beD cad A s H locs → W p l e room_1 s m #[Value.ref b] below meth c H locs 600000 7302249 Q (F0 m 741 ls [])) : W p l e room_1 s m #[Value.ref b] below meth c H locs 600000 7302249 Q (F0 m 425 ls []) := by
  obtain ⟨hx, hb, hml, hown, hts, hX, hbl, hbA, hK, hZ, hA⟩ := C
  obtain ⟨er, inp, otp, tc, fc, on, ze, ou, wd, lo, up, hc, sa, sv, ab, tr, rt, kn, ct, bu, bl, tu, tl, bd, bm, d0, d1, d2, d3, d4, d5, nw, ps, er2, us, un, od, li, st, lm, hs, hR, hP, hD, hS⟩ := I
  refine lv_aload_n hx hb dL_law_425 rfl (lv_at hl 2 rfl) ?_
  refine lv_aload_n hx hb dL_law_426 rfl (lv_at hl 3 rfl) ?_
  refine lv_iload_n hx hb dL_law_427 rfl (lv_at hl 0 rfl) ?_
  refine lv_iconst (v := nI 1) hx hb dL_law_428 (by decide) ?_
  refine lv_iadd hx hb dL_law_429 ?_
  refine va_sld hx hb hX hbl hbA hS (ixs hi (by decide) hL) dL_law_430 ?_
  refine lv_aload_n hx hb dL_law_431 rfl (lv_at hl 3 rfl) ?_
  refine lv_iload_n hx hb dL_law_432 rfl (lv_at hl 0 rfl) ?_
  refine lv_iconst (v := nI 2) hx hb dL_law_433 (by decide) ?_
  refine lv_iadd hx hb dL_law_434 ?_
  refine va_sld hx hb hX hbl hbA hS (ixs hi (by decide) hL) dL_law_435 ?_
  refine kp_i (wr := wM G cad nw ps er2 us un od li st lm hs) (va_runV (As := [.int (xs (nI i + nI 1).toNatClampNeg), .int (xs (nI i + nI 2).toNatClampNeg)]) (rest := []) ⟨hx, hb, hml, hown, hts⟩ (c_X5_fold l G ad sd hd md rd be beD _ er inp otp tc fc on ze ou wd lo up hc sa sv ab tr rt kn ct bu bl tu tl bd bm d0 d1 d2 d3 d4 d5 (xs (nI i + nI 1).toNatClampNeg) (xs (nI i + nI 2).toNatClampNeg) (m_fold (sa := sa) (us := us) (un := un) (od := od) hR)) (cwV 2 hts gL_law_X5_fold rfl rfl rfl (by decide +kernel) ⟨Nat.le_of_ble_eq_true rfl, Nat.le_of_ble_eq_true rfl⟩) (kpVp hK hP hD hZ hS hA List.perm_append_comm (q0 := 0) (ci := 5) rfl rfl) rfl rfl hl.1 rfl (lv_room (Nat.le_of_ble_eq_true rfl)) dL_law_436 ⟨Nat.le_of_ble_eq_true rfl, Nat.le_of_ble_eq_true rfl⟩) hP hD hS hA List.perm_append_comm (fun r5 w5 H locs h hP hD hS => ?_)
  obtain ⟨er', fc', lo', up', hc', sa', sv', ab', tr', rt'⟩ := w5
  have hP : va_P G.1 vwCl ((wM G cad nw ps er2 us un od li st lm hs) ++ (wP G ad sd hd md rd be er' ++ (wS G sd inp otp tc fc' on ze ou wd lo' up' ++ (wH G hd hc' sa' sv' ++ (wD G md ab' ++ (wR G rd tr' rt' ++ (wB G be beD kn ct bu bl tu tl bd bm d0 d1 d2 d3 d4 d5))))))) H := hP
  have hD : va_D A ((wM G cad nw ps er2 us un od li st lm hs) ++ (wP G ad sd hd md rd be er' ++ (wS G sd inp otp tc fc' on ze ou wd lo' up' ++ (wH G hd hc' sa' sv' ++ (wD G md ab' ++ (wR G rd tr' rt' ++ (wB G be beD kn ct bu bl tu tl bd bm d0 d1 d2 d3 d4 d5))))))) := hD
  try dsimp only at h
  refine lv_aload_n hx hb dL_law_439 rfl (lv_at hl 1 rfl) ?_
  refine lv_aload_n hx hb dL_law_440 rfl (lv_at hl 3 rfl) ?_
  refine lv_iload_n hx hb dL_law_441 rfl (lv_at hl 0 rfl) ?_
  refine lv_iconst (v := nI 1) hx hb dL_law_442 (by decide) ?_
  refine lv_iadd hx hb dL_law_443 ?_
  refine va_sld hx hb hX hbl hbA hS (ixs hi (by decide) hL) dL_law_444 ?_
  refine lv_aload_n hx hb dL_law_445 rfl (lv_at hl 3 rfl) ?_
  refine lv_iload_n hx hb dL_law_446 rfl (lv_at hl 0 rfl) ?_
  refine lv_iconst (v := nI 2) hx hb dL_law_447 (by decide) ?_
  refine lv_iadd hx hb dL_law_448 ?_
  refine va_sld hx hb hX hbl hbA hS (ixs hi (by decide) hL) dL_law_449 ?_
  refine kp_i (wr := wP G ad sd hd md rd be er' ++ (wS G sd inp otp tc fc' on ze ou wd lo' up' ++ (wH G hd hc' sa' sv' ++ (wD G md ab' ++ (wR G rd tr' rt' ++ (wB G be beD kn ct bu bl tu tl bd bm d0 d1 d2 d3 d4 d5)))))) (va_runV (As := [.int (xs (nI i + nI 1).toNatClampNeg), .int (xs (nI i + nI 2).toNatClampNeg)]) (rest := [.int r5]) ⟨hx, hb, hml, hown, hts⟩ (c_X6_fold l G cad _ nw ps er2 us un od li st lm hs (xs (nI i + nI 1).toNatClampNeg) (xs (nI i + nI 2).toNatClampNeg) h) (cwV 2 hts gL_law_X6_fold rfl rfl rfl (by decide +kernel) ⟨Nat.le_of_ble_eq_true rfl, Nat.le_of_ble_eq_true rfl⟩) (kpVp hK hP hD hZ hS hA List.perm_append_comm (q0 := 0) (ci := 6) rfl rfl) rfl rfl hl.1 rfl (lv_room (Nat.le_of_ble_eq_true rfl)) dL_law_450 ⟨Nat.le_of_ble_eq_true rfl, Nat.le_of_ble_eq_true rfl⟩) hP hD hS hA List.perm_append_comm (fun r6 w6 H locs h hP hD hS => ?_)
  obtain ⟨nw', ps', er2', us', un', od', st'⟩ := w6
  have hP : va_P G.1 vwCl ((wP G ad sd hd md rd be er' ++ (wS G sd inp otp tc fc' on ze ou wd lo' up' ++ (wH G hd hc' sa' sv' ++ (wD G md ab' ++ (wR G rd tr' rt' ++ (wB G be beD kn ct bu bl tu tl bd bm d0 d1 d2 d3 d4 d5)))))) ++ wM G cad nw' ps' er2' us' un' od' li st' lm hs) H := hP
  have hD : va_D A ((wP G ad sd hd md rd be er' ++ (wS G sd inp otp tc fc' on ze ou wd lo' up' ++ (wH G hd hc' sa' sv' ++ (wD G md ab' ++ (wR G rd tr' rt' ++ (wB G be beD kn ct bu bl tu tl bd bm d0 d1 d2 d3 d4 d5)))))) ++ wM G cad nw' ps' er2' us' un' od' li st' lm hs) := hD
  try dsimp only at h
  obtain ⟨he, hR⟩ := h
  exact lv_icmp_eq (tgt := 741) hx hb dL_law_453 (by decide) (fun _ => next _ _ ⟨er', inp, otp, tc, fc', on, ze, ou, wd, lo', up', hc', sa', sv', ab', tr', rt', kn, ct, bu, bl, tu, tl, bd, bm, d0, d1, d2, d3, d4, d5, nw', ps', er2', us', un', od', li, st', lm, hs, hR, hP, hD, hS⟩) (fun hne => absurd he hne)
set_option maxHeartbeats 4000000 in
set_option maxRecDepth 100000 in
theorem law_12 {p : Program} {l : Launch} {e : Env} {s : State} {m : MethodId} {below : List Frame} {meth : Method} {c : Code} {b L : Nat} {xs : Nat → Int32} {G : GG} {A : Nat → Prop} {Q : State → Prop} {ad sd hd md rd be : Nat → Nat} {beD : Nat → Nat → Nat} {cad : Nat → Nat} (C : LC p s m c b L xs G A) {i : Nat} (hi : i + 4 ≤ L) (hL : L ≤ 2048) {H : Heap} {locs : List Loc} {ls : Array Slot} (I : WI G ad sd hd md rd be beD cad A s H locs) (hl : lv_has ls 4 [(3, .int (nI i)), (2, .ref (cad 0)), (1, .ref (ad 0)), (0, .ref b)]) (next : ∀ (H : Heap) (locs : List Loc), WI G ad sd hd md rd be beD cad A s H locs → W p l e room_1 s m #[Value.ref b] below meth c H locs 600000 7302249 Q (F0 m 741 ls [])) : W p l e room_1 s m #[Value.ref b] below meth c H locs 600000 7302249 Q (F0 m 458 ls []) := by
  obtain ⟨hx, hb, hml, hown, hts, hX, hbl, hbA, hK, hZ, hA⟩ := C
  obtain ⟨er, inp, otp, tc, fc, on, ze, ou, wd, lo, up, hc, sa, sv, ab, tr, rt, kn, ct, bu, bl, tu, tl, bd, bm, d0, d1, d2, d3, d4, d5, nw, ps, er2, us, un, od, li, st, lm, hs, hR, hP, hD, hS⟩ := I
  refine lv_aload_n hx hb dL_law_458 rfl (lv_at hl 2 rfl) ?_
  refine lv_aload_n hx hb dL_law_459 rfl (lv_at hl 3 rfl) ?_
  refine lv_iload_n hx hb dL_law_460 rfl (lv_at hl 0 rfl) ?_
  refine lv_iconst (v := nI 1) hx hb dL_law_461 (by decide) ?_
  refine lv_iadd hx hb dL_law_462 ?_
  refine va_sld hx hb hX hbl hbA hS (ixs hi (by decide) hL) dL_law_463 ?_
  refine kp_i (wr := wM G cad nw ps er2 us un od li st lm hs) (va_runV (As := [.int (xs (nI i + nI 1).toNatClampNeg)]) (rest := []) ⟨hx, hb, hml, hown, hts⟩ (c_X5_unfold l G ad sd hd md rd be beD _ er inp otp tc fc on ze ou wd lo up hc sa sv ab tr rt kn ct bu bl tu tl bd bm d0 d1 d2 d3 d4 d5 (xs (nI i + nI 1).toNatClampNeg) (m_unfold (sa := sa) hR)) (cwV 1 hts gL_law_X5_unfold rfl rfl rfl (by decide +kernel) ⟨Nat.le_of_ble_eq_true rfl, Nat.le_of_ble_eq_true rfl⟩) (kpVp hK hP hD hZ hS hA List.perm_append_comm (q0 := 0) (ci := 5) rfl rfl) rfl rfl hl.1 rfl (lv_room (Nat.le_of_ble_eq_true rfl)) dL_law_464 ⟨Nat.le_of_ble_eq_true rfl, Nat.le_of_ble_eq_true rfl⟩) hP hD hS hA List.perm_append_comm (fun r5 w5 H locs h hP hD hS => ?_)
  obtain ⟨er', fc', lo', up', hc', sa', sv', ab', tr', rt'⟩ := w5
  have hP : va_P G.1 vwCl ((wM G cad nw ps er2 us un od li st lm hs) ++ (wP G ad sd hd md rd be er' ++ (wS G sd inp otp tc fc' on ze ou wd lo' up' ++ (wH G hd hc' sa' sv' ++ (wD G md ab' ++ (wR G rd tr' rt' ++ (wB G be beD kn ct bu bl tu tl bd bm d0 d1 d2 d3 d4 d5))))))) H := hP
  have hD : va_D A ((wM G cad nw ps er2 us un od li st lm hs) ++ (wP G ad sd hd md rd be er' ++ (wS G sd inp otp tc fc' on ze ou wd lo' up' ++ (wH G hd hc' sa' sv' ++ (wD G md ab' ++ (wR G rd tr' rt' ++ (wB G be beD kn ct bu bl tu tl bd bm d0 d1 d2 d3 d4 d5))))))) := hD
  try dsimp only at h
  refine lv_aload_n hx hb dL_law_467 rfl (lv_at hl 1 rfl) ?_
  refine lv_aload_n hx hb dL_law_468 rfl (lv_at hl 3 rfl) ?_
  refine lv_iload_n hx hb dL_law_469 rfl (lv_at hl 0 rfl) ?_
  refine lv_iconst (v := nI 1) hx hb dL_law_470 (by decide) ?_
  refine lv_iadd hx hb dL_law_471 ?_
  refine va_sld hx hb hX hbl hbA hS (ixs hi (by decide) hL) dL_law_472 ?_
  refine kp_i (wr := wP G ad sd hd md rd be er' ++ (wS G sd inp otp tc fc' on ze ou wd lo' up' ++ (wH G hd hc' sa' sv' ++ (wD G md ab' ++ (wR G rd tr' rt' ++ (wB G be beD kn ct bu bl tu tl bd bm d0 d1 d2 d3 d4 d5)))))) (va_runV (As := [.int (xs (nI i + nI 1).toNatClampNeg)]) (rest := [.int r5]) ⟨hx, hb, hml, hown, hts⟩ (c_X6_unfold l G cad _ nw ps er2 us un od li st lm hs (xs (nI i + nI 1).toNatClampNeg) h) (cwV 1 hts gL_law_X6_unfold rfl rfl rfl (by decide +kernel) ⟨Nat.le_of_ble_eq_true rfl, Nat.le_of_ble_eq_true rfl⟩) (kpVp hK hP hD hZ hS hA List.perm_append_comm (q0 := 0) (ci := 6) rfl rfl) rfl rfl hl.1 rfl (lv_room (Nat.le_of_ble_eq_true rfl)) dL_law_473 ⟨Nat.le_of_ble_eq_true rfl, Nat.le_of_ble_eq_true rfl⟩) hP hD hS hA List.perm_append_comm (fun r6 w6 H locs h hP hD hS => ?_)
  obtain ⟨nw', ps', er2', st'⟩ := w6
  have hP : va_P G.1 vwCl ((wP G ad sd hd md rd be er' ++ (wS G sd inp otp tc fc' on ze ou wd lo' up' ++ (wH G hd hc' sa' sv' ++ (wD G md ab' ++ (wR G rd tr' rt' ++ (wB G be beD kn ct bu bl tu tl bd bm d0 d1 d2 d3 d4 d5)))))) ++ wM G cad nw' ps' er2' us un od li st' lm hs) H := hP
  have hD : va_D A ((wP G ad sd hd md rd be er' ++ (wS G sd inp otp tc fc' on ze ou wd lo' up' ++ (wH G hd hc' sa' sv' ++ (wD G md ab' ++ (wR G rd tr' rt' ++ (wB G be beD kn ct bu bl tu tl bd bm d0 d1 d2 d3 d4 d5)))))) ++ wM G cad nw' ps' er2' us un od li st' lm hs) := hD
  try dsimp only at h
  obtain ⟨he, hR⟩ := h
  exact lv_icmp_eq (tgt := 741) hx hb dL_law_476 (by decide) (fun _ => next _ _ ⟨er', inp, otp, tc, fc', on, ze, ou, wd, lo', up', hc', sa', sv', ab', tr', rt', kn, ct, bu, bl, tu, tl, bd, bm, d0, d1, d2, d3, d4, d5, nw', ps', er2', us, un, od, li, st', lm, hs, hR, hP, hD, hS⟩) (fun hne => absurd he hne)
set_option maxHeartbeats 4000000 in
set_option maxRecDepth 100000 in
theorem law_13 {p : Program} {l : Launch} {e : Env} {s : State} {m : MethodId} {below : List Frame} {meth : Method} {c : Code} {b L : Nat} {xs : Nat → Int32} {G : GG} {A : Nat → Prop} {Q : State → Prop} {ad sd hd md rd be : Nat → Nat} {beD : Nat → Nat → Nat} {cad : Nat → Nat} (C : LC p s m c b L xs G A) {i : Nat} (hi : i + 4 ≤ L) (hL : L ≤ 2048) {H : Heap} {locs : List Loc} {ls : Array Slot} (I : WI G ad sd hd md rd be beD cad A s H locs) (hl : lv_has ls 4 [(3, .int (nI i)), (2, .ref (cad 0)), (1, .ref (ad 0)), (0, .ref b)]) (next : ∀ (H : Heap) (locs : List Loc), WI G ad sd hd md rd be beD cad A s H locs → W p l e room_1 s m #[Value.ref b] below meth c H locs 600000 7302249 Q (F0 m 741 ls [])) : W p l e room_1 s m #[Value.ref b] below meth c H locs 600000 7302249 Q (F0 m 481 ls []) := by
  obtain ⟨hx, hb, hml, hown, hts, hX, hbl, hbA, hK, hZ, hA⟩ := C
  obtain ⟨er, inp, otp, tc, fc, on, ze, ou, wd, lo, up, hc, sa, sv, ab, tr, rt, kn, ct, bu, bl, tu, tl, bd, bm, d0, d1, d2, d3, d4, d5, nw, ps, er2, us, un, od, li, st, lm, hs, hR, hP, hD, hS⟩ := I
  refine lv_aload_n hx hb dL_law_481 rfl (lv_at hl 2 rfl) ?_
  refine lv_aload_n hx hb dL_law_482 rfl (lv_at hl 3 rfl) ?_
  refine lv_iload_n hx hb dL_law_483 rfl (lv_at hl 0 rfl) ?_
  refine lv_iconst (v := nI 1) hx hb dL_law_484 (by decide) ?_
  refine lv_iadd hx hb dL_law_485 ?_
  refine va_sld hx hb hX hbl hbA hS (ixs hi (by decide) hL) dL_law_486 ?_
  refine kp_i (wr := wM G cad nw ps er2 us un od li st lm hs) (va_runV (As := [.int (xs (nI i + nI 1).toNatClampNeg)]) (rest := []) ⟨hx, hb, hml, hown, hts⟩ (c_X5_partner l G ad sd hd md rd be beD _ er inp otp tc fc on ze ou wd lo up hc sa sv ab tr rt kn ct bu bl tu tl bd bm d0 d1 d2 d3 d4 d5 (xs (nI i + nI 1).toNatClampNeg) (m_partner  hR)) (cwV 1 hts gL_law_X5_partner rfl rfl rfl (by decide +kernel) ⟨Nat.le_of_ble_eq_true rfl, Nat.le_of_ble_eq_true rfl⟩) (kpVp hK hP hD hZ hS hA List.perm_append_comm (q0 := 0) (ci := 5) rfl rfl) rfl rfl hl.1 rfl (lv_room (Nat.le_of_ble_eq_true rfl)) dL_law_487 ⟨Nat.le_of_ble_eq_true rfl, Nat.le_of_ble_eq_true rfl⟩) hP hD hS hA List.perm_append_comm (fun r5 w5 H locs h hP hD hS => ?_)
  obtain ⟨er', rfl⟩ : ∃ z, z = w5 := ⟨_, rfl⟩
  have hP : va_P G.1 vwCl ((wM G cad nw ps er2 us un od li st lm hs) ++ (wP G ad sd hd md rd be er' ++ (wS G sd inp otp tc fc on ze ou wd lo up ++ (wH G hd hc sa sv ++ (wD G md ab ++ (wR G rd tr rt ++ (wB G be beD kn ct bu bl tu tl bd bm d0 d1 d2 d3 d4 d5))))))) H := hP
  have hD : va_D A ((wM G cad nw ps er2 us un od li st lm hs) ++ (wP G ad sd hd md rd be er' ++ (wS G sd inp otp tc fc on ze ou wd lo up ++ (wH G hd hc sa sv ++ (wD G md ab ++ (wR G rd tr rt ++ (wB G be beD kn ct bu bl tu tl bd bm d0 d1 d2 d3 d4 d5))))))) := hD
  try dsimp only at h
  refine lv_aload_n hx hb dL_law_490 rfl (lv_at hl 1 rfl) ?_
  refine lv_aload_n hx hb dL_law_491 rfl (lv_at hl 3 rfl) ?_
  refine lv_iload_n hx hb dL_law_492 rfl (lv_at hl 0 rfl) ?_
  refine lv_iconst (v := nI 1) hx hb dL_law_493 (by decide) ?_
  refine lv_iadd hx hb dL_law_494 ?_
  refine va_sld hx hb hX hbl hbA hS (ixs hi (by decide) hL) dL_law_495 ?_
  refine kp_i (wr := wP G ad sd hd md rd be er' ++ (wS G sd inp otp tc fc on ze ou wd lo up ++ (wH G hd hc sa sv ++ (wD G md ab ++ (wR G rd tr rt ++ (wB G be beD kn ct bu bl tu tl bd bm d0 d1 d2 d3 d4 d5)))))) (va_runV (As := [.int (xs (nI i + nI 1).toNatClampNeg)]) (rest := [.int r5]) ⟨hx, hb, hml, hown, hts⟩ (c_X6_partner l G cad _ nw ps er2 us un od li st lm hs (xs (nI i + nI 1).toNatClampNeg) h) (cwV 1 hts gL_law_X6_partner rfl rfl rfl (by decide +kernel) ⟨Nat.le_of_ble_eq_true rfl, Nat.le_of_ble_eq_true rfl⟩) (kpVp hK hP hD hZ hS hA List.perm_append_comm (q0 := 0) (ci := 6) rfl rfl) rfl rfl hl.1 rfl (lv_room (Nat.le_of_ble_eq_true rfl)) dL_law_496 ⟨Nat.le_of_ble_eq_true rfl, Nat.le_of_ble_eq_true rfl⟩) hP hD hS hA List.perm_append_comm (fun r6 w6 H locs h hP hD hS => ?_)
  obtain ⟨er2', rfl⟩ : ∃ z, z = w6 := ⟨_, rfl⟩
  have hP : va_P G.1 vwCl ((wP G ad sd hd md rd be er' ++ (wS G sd inp otp tc fc on ze ou wd lo up ++ (wH G hd hc sa sv ++ (wD G md ab ++ (wR G rd tr rt ++ (wB G be beD kn ct bu bl tu tl bd bm d0 d1 d2 d3 d4 d5)))))) ++ wM G cad nw ps er2' us un od li st lm hs) H := hP
  have hD : va_D A ((wP G ad sd hd md rd be er' ++ (wS G sd inp otp tc fc on ze ou wd lo up ++ (wH G hd hc sa sv ++ (wD G md ab ++ (wR G rd tr rt ++ (wB G be beD kn ct bu bl tu tl bd bm d0 d1 d2 d3 d4 d5)))))) ++ wM G cad nw ps er2' us un od li st lm hs) := hD
  try dsimp only at h
  obtain ⟨he, hR⟩ := h
  exact lv_icmp_eq (tgt := 741) hx hb dL_law_499 (by decide) (fun _ => next _ _ ⟨er', inp, otp, tc, fc, on, ze, ou, wd, lo, up, hc, sa, sv, ab, tr, rt, kn, ct, bu, bl, tu, tl, bd, bm, d0, d1, d2, d3, d4, d5, nw, ps, er2', us, un, od, li, st, lm, hs, hR, hP, hD, hS⟩) (fun hne => absurd he hne)
set_option maxHeartbeats 4000000 in
set_option maxRecDepth 100000 in
theorem law_14 {p : Program} {l : Launch} {e : Env} {s : State} {m : MethodId} {below : List Frame} {meth : Method} {c : Code} {b L : Nat} {xs : Nat → Int32} {G : GG} {A : Nat → Prop} {Q : State → Prop} {ad sd hd md rd be : Nat → Nat} {beD : Nat → Nat → Nat} {cad : Nat → Nat} (C : LC p s m c b L xs G A) {i : Nat} (hi : i + 4 ≤ L) (hL : L ≤ 2048) {H : Heap} {locs : List Loc} {ls : Array Slot} (I : WI G ad sd hd md rd be beD cad A s H locs) (hl : lv_has ls 4 [(3, .int (nI i)), (2, .ref (cad 0)), (1, .ref (ad 0)), (0, .ref b)]) (next : ∀ (H : Heap) (locs : List Loc), WI G ad sd hd md rd be beD cad A s H locs → W p l e room_1 s m #[Value.ref b] below meth c H locs 600000 7302249 Q (F0 m 741 ls [])) : W p l e room_1 s m #[Value.ref b] below meth c H locs 600000 7302249 Q (F0 m 504 ls []) := by
  obtain ⟨hx, hb, hml, hown, hts, hX, hbl, hbA, hK, hZ, hA⟩ := C
  obtain ⟨er, inp, otp, tc, fc, on, ze, ou, wd, lo, up, hc, sa, sv, ab, tr, rt, kn, ct, bu, bl, tu, tl, bd, bm, d0, d1, d2, d3, d4, d5, nw, ps, er2, us, un, od, li, st, lm, hs, hR, hP, hD, hS⟩ := I
  refine lv_aload_n hx hb dL_law_504 rfl (lv_at hl 2 rfl) ?_
  refine kp_i (wr := wM G cad nw ps er2 us un od li st lm hs) (va_runV (As := []) (rest := []) ⟨hx, hb, hml, hown, hts⟩ (c_X5_folds l G ad sd hd md rd be beD _ er inp otp tc fc on ze ou wd lo up hc sa sv ab tr rt kn ct bu bl tu tl bd bm d0 d1 d2 d3 d4 d5  (m_folds  hR)) (cwV 0 hts gL_law_X5_folds rfl rfl rfl (by decide +kernel) ⟨Nat.le_of_ble_eq_true rfl, Nat.le_of_ble_eq_true rfl⟩) (kpVp hK hP hD hZ hS hA List.perm_append_comm (q0 := 0) (ci := 5) rfl rfl) rfl rfl hl.1 rfl (lv_room (Nat.le_of_ble_eq_true rfl)) dL_law_505 ⟨Nat.le_of_ble_eq_true rfl, Nat.le_of_ble_eq_true rfl⟩) hP hD hS hA List.perm_append_comm (fun r5 w5 H locs h hP hD hS => ?_)
  have hP : va_P G.1 vwCl ((wM G cad nw ps er2 us un od li st lm hs) ++ (wP G ad sd hd md rd be er ++ (wS G sd inp otp tc fc on ze ou wd lo up ++ (wH G hd hc sa sv ++ (wD G md ab ++ (wR G rd tr rt ++ (wB G be beD kn ct bu bl tu tl bd bm d0 d1 d2 d3 d4 d5))))))) H := hP
  have hD : va_D A ((wM G cad nw ps er2 us un od li st lm hs) ++ (wP G ad sd hd md rd be er ++ (wS G sd inp otp tc fc on ze ou wd lo up ++ (wH G hd hc sa sv ++ (wD G md ab ++ (wR G rd tr rt ++ (wB G be beD kn ct bu bl tu tl bd bm d0 d1 d2 d3 d4 d5))))))) := hD
  try dsimp only at h
  refine lv_aload_n hx hb dL_law_508 rfl (lv_at hl 1 rfl) ?_
  refine kp_i (wr := wP G ad sd hd md rd be er ++ (wS G sd inp otp tc fc on ze ou wd lo up ++ (wH G hd hc sa sv ++ (wD G md ab ++ (wR G rd tr rt ++ (wB G be beD kn ct bu bl tu tl bd bm d0 d1 d2 d3 d4 d5)))))) (va_runV (As := []) (rest := [.int r5]) ⟨hx, hb, hml, hown, hts⟩ (c_X6_folds l G cad _ nw ps er2 us un od li st lm hs  h) (cwV 0 hts gL_law_X6_folds rfl rfl rfl (by decide +kernel) ⟨Nat.le_of_ble_eq_true rfl, Nat.le_of_ble_eq_true rfl⟩) (kpVp hK hP hD hZ hS hA List.perm_append_comm (q0 := 0) (ci := 6) rfl rfl) rfl rfl hl.1 rfl (lv_room (Nat.le_of_ble_eq_true rfl)) dL_law_509 ⟨Nat.le_of_ble_eq_true rfl, Nat.le_of_ble_eq_true rfl⟩) hP hD hS hA List.perm_append_comm (fun r6 w6 H locs h hP hD hS => ?_)
  have hP : va_P G.1 vwCl ((wP G ad sd hd md rd be er ++ (wS G sd inp otp tc fc on ze ou wd lo up ++ (wH G hd hc sa sv ++ (wD G md ab ++ (wR G rd tr rt ++ (wB G be beD kn ct bu bl tu tl bd bm d0 d1 d2 d3 d4 d5)))))) ++ wM G cad nw ps er2 us un od li st lm hs) H := hP
  have hD : va_D A ((wP G ad sd hd md rd be er ++ (wS G sd inp otp tc fc on ze ou wd lo up ++ (wH G hd hc sa sv ++ (wD G md ab ++ (wR G rd tr rt ++ (wB G be beD kn ct bu bl tu tl bd bm d0 d1 d2 d3 d4 d5)))))) ++ wM G cad nw ps er2 us un od li st lm hs) := hD
  try dsimp only at h
  obtain ⟨he, hR⟩ := h
  exact lv_icmp_eq (tgt := 741) hx hb dL_law_512 (by decide) (fun _ => next _ _ ⟨er, inp, otp, tc, fc, on, ze, ou, wd, lo, up, hc, sa, sv, ab, tr, rt, kn, ct, bu, bl, tu, tl, bd, bm, d0, d1, d2, d3, d4, d5, nw, ps, er2, us, un, od, li, st, lm, hs, hR, hP, hD, hS⟩) (fun hne => absurd he hne)
