set_option maxHeartbeats 4000000 in
set_option maxRecDepth 100000 in
theorem law_5 {p : Program} {l : Launch} {e : Env} {s : State} {m : MethodId} {below : List Frame} {meth : Method} {c : Code} {b L : Nat} {xs : Nat → Int32} {G : GG} {A : Nat → Prop} {Q : State → Prop} {ad sd hd md rd be : Nat → Nat} {beD : Nat → Nat → Nat} {cad : Nat → Nat} (C : LC p s m c b L xs G A) {i : Nat} (hi : i + 4 ≤ L) (hL : L ≤ 2048) {H : Heap} {locs : List Loc} {ls : Array Slot} (I : WI G ad sd hd md rd be beD cad A s H locs) (hl : lv_has ls 4 [(3, .int (nI i)), (2, .ref (cad 0)), (1, .ref (ad 0)), (0, .ref b)]) (next : ∀ (H : Heap) (locs : List Loc), WI G ad sd hd md rd be beD cad A s H locs → W p l e room_1 s m #[Value.ref b] below meth c H locs 600000 7302249 Q (F0 m 741 ls [])) : W p l e room_1 s m #[Value.ref b] below meth c H locs 600000 7302249 Q (F0 m 287 ls []) := by
  obtain ⟨hx, hb, hml, hown, hts, hX, hbl, hbA, hK, hZ, hA⟩ := C
  obtain ⟨er, inp, otp, tc, fc, on, ze, ou, wd, lo, up, hc, sa, sv, ab, tr, rt, kn, ct, bu, bl, tu, tl, bd, bm, d0, d1, d2, d3, d4, d5, nw, ps, er2, us, un, od, li, st, lm, hs, hR, hP, hD, hS⟩ := I
  refine lv_aload_n hx hb dL_law_287 rfl (lv_at hl 2 rfl) ?_
  refine lv_aload_n hx hb dL_law_288 rfl (lv_at hl 3 rfl) ?_
  refine lv_iload_n hx hb dL_law_289 rfl (lv_at hl 0 rfl) ?_
  refine lv_iconst (v := nI 1) hx hb dL_law_290 (by decide) ?_
  refine lv_iadd hx hb dL_law_291 ?_
  refine va_sld hx hb hX hbl hbA hS (ixs hi (by decide) hL) dL_law_292 ?_
  refine kp_i (wr := wM G cad nw ps er2 us un od li st lm hs) (va_runV (As := [.int (xs (nI i + nI 1).toNatClampNeg)]) (rest := []) ⟨hx, hb, hml, hown, hts⟩ (c_X5_evaluate l G ad sd hd md rd be beD _ er inp otp tc fc on ze ou wd lo up hc sa sv ab tr rt kn ct bu bl tu tl bd bm d0 d1 d2 d3 d4 d5 (xs (nI i + nI 1).toNatClampNeg) (m_evaluate  hR)) (cwV 1 hts gL_law_X5_evaluate rfl rfl rfl (by decide +kernel) ⟨Nat.le_of_ble_eq_true rfl, Nat.le_of_ble_eq_true rfl⟩) (kpVp hK hP hD hZ hS hA List.perm_append_comm (q0 := 0) (ci := 5) rfl rfl) rfl rfl hl.1 rfl (lv_room (Nat.le_of_ble_eq_true rfl)) dL_law_293 ⟨Nat.le_of_ble_eq_true rfl, Nat.le_of_ble_eq_true rfl⟩) hP hD hS hA List.perm_append_comm (fun r5 w5 H locs h hP hD hS => ?_)
  obtain ⟨er', rfl⟩ : ∃ z, z = w5 := ⟨_, rfl⟩
  have hP : va_P G.1 vwCl ((wM G cad nw ps er2 us un od li st lm hs) ++ (wP G ad sd hd md rd be er' ++ (wS G sd inp otp tc fc on ze ou wd lo up ++ (wH G hd hc sa sv ++ (wD G md ab ++ (wR G rd tr rt ++ (wB G be beD kn ct bu bl tu tl bd bm d0 d1 d2 d3 d4 d5))))))) H := hP
  have hD : va_D A ((wM G cad nw ps er2 us un od li st lm hs) ++ (wP G ad sd hd md rd be er' ++ (wS G sd inp otp tc fc on ze ou wd lo up ++ (wH G hd hc sa sv ++ (wD G md ab ++ (wR G rd tr rt ++ (wB G be beD kn ct bu bl tu tl bd bm d0 d1 d2 d3 d4 d5))))))) := hD
  try dsimp only at h
  refine lv_aload_n hx hb dL_law_296 rfl (lv_at hl 1 rfl) ?_
  refine lv_aload_n hx hb dL_law_297 rfl (lv_at hl 3 rfl) ?_
  refine lv_iload_n hx hb dL_law_298 rfl (lv_at hl 0 rfl) ?_
  refine lv_iconst (v := nI 1) hx hb dL_law_299 (by decide) ?_
  refine lv_iadd hx hb dL_law_300 ?_
  refine va_sld hx hb hX hbl hbA hS (ixs hi (by decide) hL) dL_law_301 ?_
  refine kp_i (wr := wP G ad sd hd md rd be er' ++ (wS G sd inp otp tc fc on ze ou wd lo up ++ (wH G hd hc sa sv ++ (wD G md ab ++ (wR G rd tr rt ++ (wB G be beD kn ct bu bl tu tl bd bm d0 d1 d2 d3 d4 d5)))))) (va_runV (As := [.int (xs (nI i + nI 1).toNatClampNeg)]) (rest := [.int r5]) ⟨hx, hb, hml, hown, hts⟩ (c_X6_evaluate l G cad _ nw ps er2 us un od li st lm hs (xs (nI i + nI 1).toNatClampNeg) h) (cwV 1 hts gL_law_X6_evaluate rfl rfl rfl (by decide +kernel) ⟨Nat.le_of_ble_eq_true rfl, Nat.le_of_ble_eq_true rfl⟩) (kpVp hK hP hD hZ hS hA List.perm_append_comm (q0 := 0) (ci := 6) rfl rfl) rfl rfl hl.1 rfl (lv_room (Nat.le_of_ble_eq_true rfl)) dL_law_302 ⟨Nat.le_of_ble_eq_true rfl, Nat.le_of_ble_eq_true rfl⟩) hP hD hS hA List.perm_append_comm (fun r6 w6 H locs h hP hD hS => ?_)
  obtain ⟨er2', rfl⟩ : ∃ z, z = w6 := ⟨_, rfl⟩
  have hP : va_P G.1 vwCl ((wP G ad sd hd md rd be er' ++ (wS G sd inp otp tc fc on ze ou wd lo up ++ (wH G hd hc sa sv ++ (wD G md ab ++ (wR G rd tr rt ++ (wB G be beD kn ct bu bl tu tl bd bm d0 d1 d2 d3 d4 d5)))))) ++ wM G cad nw ps er2' us un od li st lm hs) H := hP
  have hD : va_D A ((wP G ad sd hd md rd be er' ++ (wS G sd inp otp tc fc on ze ou wd lo up ++ (wH G hd hc sa sv ++ (wD G md ab ++ (wR G rd tr rt ++ (wB G be beD kn ct bu bl tu tl bd bm d0 d1 d2 d3 d4 d5)))))) ++ wM G cad nw ps er2' us un od li st lm hs) := hD
  try dsimp only at h
  obtain ⟨he, hR⟩ := h
  exact lv_icmp_eq (tgt := 741) hx hb dL_law_305 (by decide) (fun _ => next _ _ ⟨er', inp, otp, tc, fc, on, ze, ou, wd, lo, up, hc, sa, sv, ab, tr, rt, kn, ct, bu, bl, tu, tl, bd, bm, d0, d1, d2, d3, d4, d5, nw, ps, er2', us, un, od, li, st, lm, hs, hR, hP, hD, hS⟩) (fun hne => absurd he hne)
set_option maxHeartbeats 4000000 in
set_option maxRecDepth 100000 in
theorem law_6 {p : Program} {l : Launch} {e : Env} {s : State} {m : MethodId} {below : List Frame} {meth : Method} {c : Code} {b L : Nat} {xs : Nat → Int32} {G : GG} {A : Nat → Prop} {Q : State → Prop} {ad sd hd md rd be : Nat → Nat} {beD : Nat → Nat → Nat} {cad : Nat → Nat} (C : LC p s m c b L xs G A) {i : Nat} (hi : i + 4 ≤ L) (hL : L ≤ 2048) {H : Heap} {locs : List Loc} {ls : Array Slot} (I : WI G ad sd hd md rd be beD cad A s H locs) (hl : lv_has ls 4 [(3, .int (nI i)), (2, .ref (cad 0)), (1, .ref (ad 0)), (0, .ref b)]) (next : ∀ (H : Heap) (locs : List Loc), WI G ad sd hd md rd be beD cad A s H locs → W p l e room_1 s m #[Value.ref b] below meth c H locs 600000 7302249 Q (F0 m 741 ls [])) : W p l e room_1 s m #[Value.ref b] below meth c H locs 600000 7302249 Q (F0 m 310 ls []) := by
  obtain ⟨hx, hb, hml, hown, hts, hX, hbl, hbA, hK, hZ, hA⟩ := C
  obtain ⟨er, inp, otp, tc, fc, on, ze, ou, wd, lo, up, hc, sa, sv, ab, tr, rt, kn, ct, bu, bl, tu, tl, bd, bm, d0, d1, d2, d3, d4, d5, nw, ps, er2, us, un, od, li, st, lm, hs, hR, hP, hD, hS⟩ := I
  refine lv_aload_n hx hb dL_law_310 rfl (lv_at hl 2 rfl) ?_
  refine lv_aload_n hx hb dL_law_311 rfl (lv_at hl 3 rfl) ?_
  refine lv_iload_n hx hb dL_law_312 rfl (lv_at hl 0 rfl) ?_
  refine lv_iconst (v := nI 1) hx hb dL_law_313 (by decide) ?_
  refine lv_iadd hx hb dL_law_314 ?_
  refine va_sld hx hb hX hbl hbA hS (ixs hi (by decide) hL) dL_law_315 ?_
  refine kp_i (wr := wM G cad nw ps er2 us un od li st lm hs) (va_runV (As := [.int (xs (nI i + nI 1).toNatClampNeg)]) (rest := []) ⟨hx, hb, hml, hown, hts⟩ (c_X5_onCount l G ad sd hd md rd be beD _ er inp otp tc fc on ze ou wd lo up hc sa sv ab tr rt kn ct bu bl tu tl bd bm d0 d1 d2 d3 d4 d5 (xs (nI i + nI 1).toNatClampNeg) (m_onCount  hR)) (cwV 1 hts gL_law_X5_onCount rfl rfl rfl (by decide +kernel) ⟨Nat.le_of_ble_eq_true rfl, Nat.le_of_ble_eq_true rfl⟩) (kpVp hK hP hD hZ hS hA List.perm_append_comm (q0 := 0) (ci := 5) rfl rfl) rfl rfl hl.1 rfl (lv_room (Nat.le_of_ble_eq_true rfl)) dL_law_316 ⟨Nat.le_of_ble_eq_true rfl, Nat.le_of_ble_eq_true rfl⟩) hP hD hS hA List.perm_append_comm (fun r5 w5 H locs h hP hD hS => ?_)
  obtain ⟨er', rfl⟩ : ∃ z, z = w5 := ⟨_, rfl⟩
  have hP : va_P G.1 vwCl ((wM G cad nw ps er2 us un od li st lm hs) ++ (wP G ad sd hd md rd be er' ++ (wS G sd inp otp tc fc on ze ou wd lo up ++ (wH G hd hc sa sv ++ (wD G md ab ++ (wR G rd tr rt ++ (wB G be beD kn ct bu bl tu tl bd bm d0 d1 d2 d3 d4 d5))))))) H := hP
  have hD : va_D A ((wM G cad nw ps er2 us un od li st lm hs) ++ (wP G ad sd hd md rd be er' ++ (wS G sd inp otp tc fc on ze ou wd lo up ++ (wH G hd hc sa sv ++ (wD G md ab ++ (wR G rd tr rt ++ (wB G be beD kn ct bu bl tu tl bd bm d0 d1 d2 d3 d4 d5))))))) := hD
  try dsimp only at h
  refine lv_aload_n hx hb dL_law_319 rfl (lv_at hl 1 rfl) ?_
  refine lv_aload_n hx hb dL_law_320 rfl (lv_at hl 3 rfl) ?_
  refine lv_iload_n hx hb dL_law_321 rfl (lv_at hl 0 rfl) ?_
  refine lv_iconst (v := nI 1) hx hb dL_law_322 (by decide) ?_
  refine lv_iadd hx hb dL_law_323 ?_
  refine va_sld hx hb hX hbl hbA hS (ixs hi (by decide) hL) dL_law_324 ?_
  refine kp_i (wr := wP G ad sd hd md rd be er' ++ (wS G sd inp otp tc fc on ze ou wd lo up ++ (wH G hd hc sa sv ++ (wD G md ab ++ (wR G rd tr rt ++ (wB G be beD kn ct bu bl tu tl bd bm d0 d1 d2 d3 d4 d5)))))) (va_runV (As := [.int (xs (nI i + nI 1).toNatClampNeg)]) (rest := [.int r5]) ⟨hx, hb, hml, hown, hts⟩ (c_X6_onCount l G cad _ nw ps er2 us un od li st lm hs (xs (nI i + nI 1).toNatClampNeg) h) (cwV 1 hts gL_law_X6_onCount rfl rfl rfl (by decide +kernel) ⟨Nat.le_of_ble_eq_true rfl, Nat.le_of_ble_eq_true rfl⟩) (kpVp hK hP hD hZ hS hA List.perm_append_comm (q0 := 0) (ci := 6) rfl rfl) rfl rfl hl.1 rfl (lv_room (Nat.le_of_ble_eq_true rfl)) dL_law_325 ⟨Nat.le_of_ble_eq_true rfl, Nat.le_of_ble_eq_true rfl⟩) hP hD hS hA List.perm_append_comm (fun r6 w6 H locs h hP hD hS => ?_)
  obtain ⟨er2', rfl⟩ : ∃ z, z = w6 := ⟨_, rfl⟩
  have hP : va_P G.1 vwCl ((wP G ad sd hd md rd be er' ++ (wS G sd inp otp tc fc on ze ou wd lo up ++ (wH G hd hc sa sv ++ (wD G md ab ++ (wR G rd tr rt ++ (wB G be beD kn ct bu bl tu tl bd bm d0 d1 d2 d3 d4 d5)))))) ++ wM G cad nw ps er2' us un od li st lm hs) H := hP
  have hD : va_D A ((wP G ad sd hd md rd be er' ++ (wS G sd inp otp tc fc on ze ou wd lo up ++ (wH G hd hc sa sv ++ (wD G md ab ++ (wR G rd tr rt ++ (wB G be beD kn ct bu bl tu tl bd bm d0 d1 d2 d3 d4 d5)))))) ++ wM G cad nw ps er2' us un od li st lm hs) := hD
  try dsimp only at h
  obtain ⟨he, hR⟩ := h
  exact lv_icmp_eq (tgt := 741) hx hb dL_law_328 (by decide) (fun _ => next _ _ ⟨er', inp, otp, tc, fc, on, ze, ou, wd, lo, up, hc, sa, sv, ab, tr, rt, kn, ct, bu, bl, tu, tl, bd, bm, d0, d1, d2, d3, d4, d5, nw, ps, er2', us, un, od, li, st, lm, hs, hR, hP, hD, hS⟩) (fun hne => absurd he hne)
set_option maxHeartbeats 4000000 in
set_option maxRecDepth 100000 in
theorem law_7 {p : Program} {l : Launch} {e : Env} {s : State} {m : MethodId} {below : List Frame} {meth : Method} {c : Code} {b L : Nat} {xs : Nat → Int32} {G : GG} {A : Nat → Prop} {Q : State → Prop} {ad sd hd md rd be : Nat → Nat} {beD : Nat → Nat → Nat} {cad : Nat → Nat} (C : LC p s m c b L xs G A) {i : Nat} (hi : i + 4 ≤ L) (hL : L ≤ 2048) {H : Heap} {locs : List Loc} {ls : Array Slot} (I : WI G ad sd hd md rd be beD cad A s H locs) (hl : lv_has ls 4 [(3, .int (nI i)), (2, .ref (cad 0)), (1, .ref (ad 0)), (0, .ref b)]) (next : ∀ (H : Heap) (locs : List Loc), WI G ad sd hd md rd be beD cad A s H locs → W p l e room_1 s m #[Value.ref b] below meth c H locs 600000 7302249 Q (F0 m 741 ls [])) : W p l e room_1 s m #[Value.ref b] below meth c H locs 600000 7302249 Q (F0 m 333 ls []) := by
  obtain ⟨hx, hb, hml, hown, hts, hX, hbl, hbA, hK, hZ, hA⟩ := C
  obtain ⟨er, inp, otp, tc, fc, on, ze, ou, wd, lo, up, hc, sa, sv, ab, tr, rt, kn, ct, bu, bl, tu, tl, bd, bm, d0, d1, d2, d3, d4, d5, nw, ps, er2, us, un, od, li, st, lm, hs, hR, hP, hD, hS⟩ := I
  refine lv_aload_n hx hb dL_law_333 rfl (lv_at hl 2 rfl) ?_
  refine lv_aload_n hx hb dL_law_334 rfl (lv_at hl 3 rfl) ?_
  refine lv_iload_n hx hb dL_law_335 rfl (lv_at hl 0 rfl) ?_
  refine lv_iconst (v := nI 1) hx hb dL_law_336 (by decide) ?_
  refine lv_iadd hx hb dL_law_337 ?_
  refine va_sld hx hb hX hbl hbA hS (ixs hi (by decide) hL) dL_law_338 ?_
  refine kp_i (wr := wM G cad nw ps er2 us un od li st lm hs) (va_runV (As := [.int (xs (nI i + nI 1).toNatClampNeg)]) (rest := []) ⟨hx, hb, hml, hown, hts⟩ (c_X5_isRedundant l G ad sd hd md rd be beD _ er inp otp tc fc on ze ou wd lo up hc sa sv ab tr rt kn ct bu bl tu tl bd bm d0 d1 d2 d3 d4 d5 (xs (nI i + nI 1).toNatClampNeg) (m_isRedundant  hR)) (cwV 1 hts gL_law_X5_isRedundant rfl rfl rfl (by decide +kernel) ⟨Nat.le_of_ble_eq_true rfl, Nat.le_of_ble_eq_true rfl⟩) (kpVp hK hP hD hZ hS hA List.perm_append_comm (q0 := 0) (ci := 5) rfl rfl) rfl rfl hl.1 rfl (lv_room (Nat.le_of_ble_eq_true rfl)) dL_law_339 ⟨Nat.le_of_ble_eq_true rfl, Nat.le_of_ble_eq_true rfl⟩) hP hD hS hA List.perm_append_comm (fun r5 w5 H locs h hP hD hS => ?_)
  obtain ⟨er', rfl⟩ : ∃ z, z = w5 := ⟨_, rfl⟩
  have hP : va_P G.1 vwCl ((wM G cad nw ps er2 us un od li st lm hs) ++ (wP G ad sd hd md rd be er' ++ (wS G sd inp otp tc fc on ze ou wd lo up ++ (wH G hd hc sa sv ++ (wD G md ab ++ (wR G rd tr rt ++ (wB G be beD kn ct bu bl tu tl bd bm d0 d1 d2 d3 d4 d5))))))) H := hP
  have hD : va_D A ((wM G cad nw ps er2 us un od li st lm hs) ++ (wP G ad sd hd md rd be er' ++ (wS G sd inp otp tc fc on ze ou wd lo up ++ (wH G hd hc sa sv ++ (wD G md ab ++ (wR G rd tr rt ++ (wB G be beD kn ct bu bl tu tl bd bm d0 d1 d2 d3 d4 d5))))))) := hD
  try dsimp only at h
  refine lv_aload_n hx hb dL_law_342 rfl (lv_at hl 1 rfl) ?_
  refine lv_aload_n hx hb dL_law_343 rfl (lv_at hl 3 rfl) ?_
  refine lv_iload_n hx hb dL_law_344 rfl (lv_at hl 0 rfl) ?_
  refine lv_iconst (v := nI 1) hx hb dL_law_345 (by decide) ?_
  refine lv_iadd hx hb dL_law_346 ?_
  refine va_sld hx hb hX hbl hbA hS (ixs hi (by decide) hL) dL_law_347 ?_
  refine kp_i (wr := wP G ad sd hd md rd be er' ++ (wS G sd inp otp tc fc on ze ou wd lo up ++ (wH G hd hc sa sv ++ (wD G md ab ++ (wR G rd tr rt ++ (wB G be beD kn ct bu bl tu tl bd bm d0 d1 d2 d3 d4 d5)))))) (va_runV (As := [.int (xs (nI i + nI 1).toNatClampNeg)]) (rest := [.int r5]) ⟨hx, hb, hml, hown, hts⟩ (c_X6_isRedundant l G cad _ nw ps er2 us un od li st lm hs (xs (nI i + nI 1).toNatClampNeg) h) (cwV 1 hts gL_law_X6_isRedundant rfl rfl rfl (by decide +kernel) ⟨Nat.le_of_ble_eq_true rfl, Nat.le_of_ble_eq_true rfl⟩) (kpVp hK hP hD hZ hS hA List.perm_append_comm (q0 := 0) (ci := 6) rfl rfl) rfl rfl hl.1 rfl (lv_room (Nat.le_of_ble_eq_true rfl)) dL_law_348 ⟨Nat.le_of_ble_eq_true rfl, Nat.le_of_ble_eq_true rfl⟩) hP hD hS hA List.perm_append_comm (fun r6 w6 H locs h hP hD hS => ?_)
  obtain ⟨er2', rfl⟩ : ∃ z, z = w6 := ⟨_, rfl⟩
  have hP : va_P G.1 vwCl ((wP G ad sd hd md rd be er' ++ (wS G sd inp otp tc fc on ze ou wd lo up ++ (wH G hd hc sa sv ++ (wD G md ab ++ (wR G rd tr rt ++ (wB G be beD kn ct bu bl tu tl bd bm d0 d1 d2 d3 d4 d5)))))) ++ wM G cad nw ps er2' us un od li st lm hs) H := hP
  have hD : va_D A ((wP G ad sd hd md rd be er' ++ (wS G sd inp otp tc fc on ze ou wd lo up ++ (wH G hd hc sa sv ++ (wD G md ab ++ (wR G rd tr rt ++ (wB G be beD kn ct bu bl tu tl bd bm d0 d1 d2 d3 d4 d5)))))) ++ wM G cad nw ps er2' us un od li st lm hs) := hD
  try dsimp only at h
  obtain ⟨he, hR⟩ := h
  exact lv_icmp_eq (tgt := 741) hx hb dL_law_351 (by decide) (fun _ => next _ _ ⟨er', inp, otp, tc, fc, on, ze, ou, wd, lo, up, hc, sa, sv, ab, tr, rt, kn, ct, bu, bl, tu, tl, bd, bm, d0, d1, d2, d3, d4, d5, nw, ps, er2', us, un, od, li, st, lm, hs, hR, hP, hD, hS⟩) (fun hne => absurd he hne)
set_option maxHeartbeats 4000000 in
set_option maxRecDepth 100000 in
theorem law_8 {p : Program} {l : Launch} {e : Env} {s : State} {m : MethodId} {below : List Frame} {meth : Method} {c : Code} {b L : Nat} {xs : Nat → Int32} {G : GG} {A : Nat → Prop} {Q : State → Prop} {ad sd hd md rd be : Nat → Nat} {beD : Nat → Nat → Nat} {cad : Nat → Nat} (C : LC p s m c b L xs G A) {i : Nat} (hi : i + 4 ≤ L) (hL : L ≤ 2048) {H : Heap} {locs : List Loc} {ls : Array Slot} (I : WI G ad sd hd md rd be beD cad A s H locs) (hl : lv_has ls 4 [(3, .int (nI i)), (2, .ref (cad 0)), (1, .ref (ad 0)), (0, .ref b)]) (next : ∀ (H : Heap) (locs : List Loc), WI G ad sd hd md rd be beD cad A s H locs → W p l e room_1 s m #[Value.ref b] below meth c H locs 600000 7302249 Q (F0 m 741 ls [])) : W p l e room_1 s m #[Value.ref b] below meth c H locs 600000 7302249 Q (F0 m 356 ls []) := by
  obtain ⟨hx, hb, hml, hown, hts, hX, hbl, hbA, hK, hZ, hA⟩ := C
  obtain ⟨er, inp, otp, tc, fc, on, ze, ou, wd, lo, up, hc, sa, sv, ab, tr, rt, kn, ct, bu, bl, tu, tl, bd, bm, d0, d1, d2, d3, d4, d5, nw, ps, er2, us, un, od, li, st, lm, hs, hR, hP, hD, hS⟩ := I
  refine lv_aload_n hx hb dL_law_356 rfl (lv_at hl 2 rfl) ?_
  refine kp_i (wr := wM G cad nw ps er2 us un od li st lm hs) (va_runV (As := []) (rest := []) ⟨hx, hb, hml, hown, hts⟩ (c_X5_removeRedundant l G ad sd hd md rd be beD _ er inp otp tc fc on ze ou wd lo up hc sa sv ab tr rt kn ct bu bl tu tl bd bm d0 d1 d2 d3 d4 d5  (m_removeRedundant (sa := sa) hR)) (cwV 0 hts gL_law_X5_removeRedundant rfl rfl rfl (by decide +kernel) ⟨Nat.le_of_ble_eq_true rfl, Nat.le_of_ble_eq_true rfl⟩) (kpVp hK hP hD hZ hS hA List.perm_append_comm (q0 := 0) (ci := 5) rfl rfl) rfl rfl hl.1 rfl (lv_room (Nat.le_of_ble_eq_true rfl)) dL_law_357 ⟨Nat.le_of_ble_eq_true rfl, Nat.le_of_ble_eq_true rfl⟩) hP hD hS hA List.perm_append_comm (fun r5 w5 H locs h hP hD hS => ?_)
  obtain ⟨tc', fc', on', ze', ou', wd', lo', up', hc', sa', sv', ab', tr', rt', kn'⟩ := w5
  have hP : va_P G.1 vwCl ((wM G cad nw ps er2 us un od li st lm hs) ++ (wP G ad sd hd md rd be er ++ (wS G sd inp otp tc' fc' on' ze' ou' wd' lo' up' ++ (wH G hd hc' sa' sv' ++ (wD G md ab' ++ (wR G rd tr' rt' ++ (wB G be beD kn' ct bu bl tu tl bd bm d0 d1 d2 d3 d4 d5))))))) H := hP
  have hD : va_D A ((wM G cad nw ps er2 us un od li st lm hs) ++ (wP G ad sd hd md rd be er ++ (wS G sd inp otp tc' fc' on' ze' ou' wd' lo' up' ++ (wH G hd hc' sa' sv' ++ (wD G md ab' ++ (wR G rd tr' rt' ++ (wB G be beD kn' ct bu bl tu tl bd bm d0 d1 d2 d3 d4 d5))))))) := hD
  try dsimp only at h
  refine lv_aload_n hx hb dL_law_360 rfl (lv_at hl 1 rfl) ?_
  refine kp_i (wr := wP G ad sd hd md rd be er ++ (wS G sd inp otp tc' fc' on' ze' ou' wd' lo' up' ++ (wH G hd hc' sa' sv' ++ (wD G md ab' ++ (wR G rd tr' rt' ++ (wB G be beD kn' ct bu bl tu tl bd bm d0 d1 d2 d3 d4 d5)))))) (va_runV (As := []) (rest := [.int r5]) ⟨hx, hb, hml, hown, hts⟩ (c_X6_removeRedundant l G cad _ nw ps er2 us un od li st lm hs  h) (cwV 0 hts gL_law_X6_removeRedundant rfl rfl rfl (by decide +kernel) ⟨Nat.le_of_ble_eq_true rfl, Nat.le_of_ble_eq_true rfl⟩) (kpVp hK hP hD hZ hS hA List.perm_append_comm (q0 := 0) (ci := 6) rfl rfl) rfl rfl hl.1 rfl (lv_room (Nat.le_of_ble_eq_true rfl)) dL_law_361 ⟨Nat.le_of_ble_eq_true rfl, Nat.le_of_ble_eq_true rfl⟩) hP hD hS hA List.perm_append_comm (fun r6 w6 H locs h hP hD hS => ?_)
  obtain ⟨nw', ps', st'⟩ := w6
  have hP : va_P G.1 vwCl ((wP G ad sd hd md rd be er ++ (wS G sd inp otp tc' fc' on' ze' ou' wd' lo' up' ++ (wH G hd hc' sa' sv' ++ (wD G md ab' ++ (wR G rd tr' rt' ++ (wB G be beD kn' ct bu bl tu tl bd bm d0 d1 d2 d3 d4 d5)))))) ++ wM G cad nw' ps' er2 us un od li st' lm hs) H := hP
  have hD : va_D A ((wP G ad sd hd md rd be er ++ (wS G sd inp otp tc' fc' on' ze' ou' wd' lo' up' ++ (wH G hd hc' sa' sv' ++ (wD G md ab' ++ (wR G rd tr' rt' ++ (wB G be beD kn' ct bu bl tu tl bd bm d0 d1 d2 d3 d4 d5)))))) ++ wM G cad nw' ps' er2 us un od li st' lm hs) := hD
  try dsimp only at h
  obtain ⟨he, hR⟩ := h
  exact lv_icmp_eq (tgt := 741) hx hb dL_law_364 (by decide) (fun _ => next _ _ ⟨er, inp, otp, tc', fc', on', ze', ou', wd', lo', up', hc', sa', sv', ab', tr', rt', kn', ct, bu, bl, tu, tl, bd, bm, d0, d1, d2, d3, d4, d5, nw', ps', er2, us, un, od, li, st', lm, hs, hR, hP, hD, hS⟩) (fun hne => absurd he hne)
set_option maxHeartbeats 4000000 in
set_option maxRecDepth 100000 in
theorem law_9 {p : Program} {l : Launch} {e : Env} {s : State} {m : MethodId} {below : List Frame} {meth : Method} {c : Code} {b L : Nat} {xs : Nat → Int32} {G : GG} {A : Nat → Prop} {Q : State → Prop} {ad sd hd md rd be : Nat → Nat} {beD : Nat → Nat → Nat} {cad : Nat → Nat} (C : LC p s m c b L xs G A) {i : Nat} (hi : i + 4 ≤ L) (hL : L ≤ 2048) {H : Heap} {locs : List Loc} {ls : Array Slot} (I : WI G ad sd hd md rd be beD cad A s H locs) (hl : lv_has ls 4 [(3, .int (nI i)), (2, .ref (cad 0)), (1, .ref (ad 0)), (0, .ref b)]) (next : ∀ (H : Heap) (locs : List Loc), WI G ad sd hd md rd be beD cad A s H locs → W p l e room_1 s m #[Value.ref b] below meth c H locs 600000 7302249 Q (F0 m 741 ls [])) : W p l e room_1 s m #[Value.ref b] below meth c H locs 600000 7302249 Q (F0 m 369 ls []) := by
  obtain ⟨hx, hb, hml, hown, hts, hX, hbl, hbA, hK, hZ, hA⟩ := C
  obtain ⟨er, inp, otp, tc, fc, on, ze, ou, wd, lo, up, hc, sa, sv, ab, tr, rt, kn, ct, bu, bl, tu, tl, bd, bm, d0, d1, d2, d3, d4, d5, nw, ps, er2, us, un, od, li, st, lm, hs, hR, hP, hD, hS⟩ := I
  refine lv_aload_n hx hb dL_law_369 rfl (lv_at hl 2 rfl) ?_
  refine lv_aload_n hx hb dL_law_370 rfl (lv_at hl 3 rfl) ?_
  refine lv_iload_n hx hb dL_law_371 rfl (lv_at hl 0 rfl) ?_
  refine lv_iconst (v := nI 1) hx hb dL_law_372 (by decide) ?_
  refine lv_iadd hx hb dL_law_373 ?_
  refine va_sld hx hb hX hbl hbA hS (ixs hi (by decide) hL) dL_law_374 ?_
  refine kp_i (wr := wM G cad nw ps er2 us un od li st lm hs) (va_runV (As := [.int (xs (nI i + nI 1).toNatClampNeg)]) (rest := []) ⟨hx, hb, hml, hown, hts⟩ (c_X5_uses l G ad sd hd md rd be beD _ er inp otp tc fc on ze ou wd lo up hc sa sv ab tr rt kn ct bu bl tu tl bd bm d0 d1 d2 d3 d4 d5 (xs (nI i + nI 1).toNatClampNeg) (m_uses  hR)) (cwV 1 hts gL_law_X5_uses rfl rfl rfl (by decide +kernel) ⟨Nat.le_of_ble_eq_true rfl, Nat.le_of_ble_eq_true rfl⟩) (kpVp hK hP hD hZ hS hA List.perm_append_comm (q0 := 0) (ci := 5) rfl rfl) rfl rfl hl.1 rfl (lv_room (Nat.le_of_ble_eq_true rfl)) dL_law_375 ⟨Nat.le_of_ble_eq_true rfl, Nat.le_of_ble_eq_true rfl⟩) hP hD hS hA List.perm_append_comm (fun r5 w5 H locs h hP hD hS => ?_)
  obtain ⟨er', rfl⟩ : ∃ z, z = w5 := ⟨_, rfl⟩
  have hP : va_P G.1 vwCl ((wM G cad nw ps er2 us un od li st lm hs) ++ (wP G ad sd hd md rd be er' ++ (wS G sd inp otp tc fc on ze ou wd lo up ++ (wH G hd hc sa sv ++ (wD G md ab ++ (wR G rd tr rt ++ (wB G be beD kn ct bu bl tu tl bd bm d0 d1 d2 d3 d4 d5))))))) H := hP
  have hD : va_D A ((wM G cad nw ps er2 us un od li st lm hs) ++ (wP G ad sd hd md rd be er' ++ (wS G sd inp otp tc fc on ze ou wd lo up ++ (wH G hd hc sa sv ++ (wD G md ab ++ (wR G rd tr rt ++ (wB G be beD kn ct bu bl tu tl bd bm d0 d1 d2 d3 d4 d5))))))) := hD
  try dsimp only at h
  refine lv_aload_n hx hb dL_law_378 rfl (lv_at hl 1 rfl) ?_
  refine lv_aload_n hx hb dL_law_379 rfl (lv_at hl 3 rfl) ?_
  refine lv_iload_n hx hb dL_law_380 rfl (lv_at hl 0 rfl) ?_
  refine lv_iconst (v := nI 1) hx hb dL_law_381 (by decide) ?_
  refine lv_iadd hx hb dL_law_382 ?_
  refine va_sld hx hb hX hbl hbA hS (ixs hi (by decide) hL) dL_law_383 ?_
  refine kp_i (wr := wP G ad sd hd md rd be er' ++ (wS G sd inp otp tc fc on ze ou wd lo up ++ (wH G hd hc sa sv ++ (wD G md ab ++ (wR G rd tr rt ++ (wB G be beD kn ct bu bl tu tl bd bm d0 d1 d2 d3 d4 d5)))))) (va_runV (As := [.int (xs (nI i + nI 1).toNatClampNeg)]) (rest := [.int r5]) ⟨hx, hb, hml, hown, hts⟩ (c_X6_uses l G cad _ nw ps er2 us un od li st lm hs (xs (nI i + nI 1).toNatClampNeg) h) (cwV 1 hts gL_law_X6_uses rfl rfl rfl (by decide +kernel) ⟨Nat.le_of_ble_eq_true rfl, Nat.le_of_ble_eq_true rfl⟩) (kpVp hK hP hD hZ hS hA List.perm_append_comm (q0 := 0) (ci := 6) rfl rfl) rfl rfl hl.1 rfl (lv_room (Nat.le_of_ble_eq_true rfl)) dL_law_384 ⟨Nat.le_of_ble_eq_true rfl, Nat.le_of_ble_eq_true rfl⟩) hP hD hS hA List.perm_append_comm (fun r6 w6 H locs h hP hD hS => ?_)
  obtain ⟨er2', rfl⟩ : ∃ z, z = w6 := ⟨_, rfl⟩
  have hP : va_P G.1 vwCl ((wP G ad sd hd md rd be er' ++ (wS G sd inp otp tc fc on ze ou wd lo up ++ (wH G hd hc sa sv ++ (wD G md ab ++ (wR G rd tr rt ++ (wB G be beD kn ct bu bl tu tl bd bm d0 d1 d2 d3 d4 d5)))))) ++ wM G cad nw ps er2' us un od li st lm hs) H := hP
  have hD : va_D A ((wP G ad sd hd md rd be er' ++ (wS G sd inp otp tc fc on ze ou wd lo up ++ (wH G hd hc sa sv ++ (wD G md ab ++ (wR G rd tr rt ++ (wB G be beD kn ct bu bl tu tl bd bm d0 d1 d2 d3 d4 d5)))))) ++ wM G cad nw ps er2' us un od li st lm hs) := hD
  try dsimp only at h
  obtain ⟨he, hR⟩ := h
  exact lv_icmp_eq (tgt := 741) hx hb dL_law_387 (by decide) (fun _ => next _ _ ⟨er', inp, otp, tc, fc, on, ze, ou, wd, lo, up, hc, sa, sv, ab, tr, rt, kn, ct, bu, bl, tu, tl, bd, bm, d0, d1, d2, d3, d4, d5, nw, ps, er2', us, un, od, li, st, lm, hs, hR, hP, hD, hS⟩) (fun hne => absurd he hne)
