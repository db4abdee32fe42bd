-- the law: what holds between its calls
def LC (p : Program) (s : State) (m : MethodId) (c : Code) (b L : Nat) (xs : Nat → Int32) (G : GG) (A : Nat → Prop) : Prop := p.tables.exec = Jvm.exec ∧ c.code = code ∧ c.maxLocals = 4 ∧ s.vm.findClass RL = some m.cls ∧ (∀ w ∈ wsL_law, w.before #[Value.ref b] s = true) ∧ va_X b L xs s s.heap ∧ b < s.heap.size ∧ ¬ A b ∧ KK G s ∧ ZZ A s s.heap ∧ ∀ q, s.heap.size ≤ q → A q
def WI (G : GG) (ad sd hd md rd be : Nat → Nat) (beD : Nat → Nat → Nat) (cad : Nat → Nat) (A : Nat → Prop) (s : State) (H : Heap) (locs : List Loc) : Prop := ∃ (er : Nat → Int32) (inp : Int32) (otp : Int32) (tc : Int32) (fc : Int32) (on : Nat → Int32) (ze : Nat → Int32) (ou : Nat → Int32) (wd : Nat → Int64) (lo : Nat → Int32) (up : Nat → Int32) (hc : Int32) (sa : Nat → Nat → Nat) (sv : Nat → SS) (ab : Nat → Int32) (tr : Nat → Int32) (rt : Nat → Int32) (kn : Int32) (ct : Int32) (bu : Nat → Int32) (bl : Nat → Int32) (tu : Nat → Int32) (tl : Nat → Int32) (bd : Nat → Int32) (bm : Nat → Int32) (d0 : Nat → Int32) (d1 : Nat → Int32) (d2 : Nat → Int32) (d3 : Nat → Int32) (d4 : Nat → Int32) (d5 : Nat → Int32) (nw : Nat → Int32) (ps : Nat → Int32) (er2 : Nat → Int32) (us : Nat → Int32) (un : Nat → Int32) (od : Nat → Int32) (li : Nat → Int32) (st : Int32) (lm : Int32) (hs : Int64), Rel er inp otp tc fc on ze ou wd lo up hc sv ab tr rt kn ct bu bl d0 nw ps er2 st ∧ va_P G.1 vwCl ((wP G ad sd hd md rd be er ++ (wS G sd inp otp tc fc on ze ou wd lo up ++ (wH G hd hc sa sv ++ (wD G md ab ++ (wR G rd tr rt ++ (wB G be beD kn ct bu bl tu tl bd bm d0 d1 d2 d3 d4 d5)))))) ++ wM G cad nw ps er2 us un od li st lm hs) H ∧ va_D A ((wP G ad sd hd md rd be er ++ (wS G sd inp otp tc fc on ze ou wd lo up ++ (wH G hd hc sa sv ++ (wD G md ab ++ (wR G rd tr rt ++ (wB G be beD kn ct bu bl tu tl bd bm d0 d1 d2 d3 d4 d5)))))) ++ wM G cad nw ps er2 us un od li st lm hs) ∧ va_S A s.heap H locs
theorem ixs {i k L : Nat} (h : i + 4 ≤ L) (hk : k < 4) (hL : L ≤ 2048) : vp_in (nI i + nI k) L := by rw [nI_add]; exact vp_in_nI (by omega) (by omega)
set_option maxHeartbeats 4000000 in
set_option maxRecDepth 100000 in
theorem law_0 {p : Program} {l : Launch} {e : Env} {s : State} {m : MethodId} {below : List Frame} {meth : Method} {c : Code} {b L : Nat} {xs : Nat → Int32} {G : GG} {A : Nat → Prop} {Q : State → Prop} {ad sd hd md rd be : Nat → Nat} {beD : Nat → Nat → Nat} {cad : Nat → Nat} (C : LC p s m c b L xs G A) {i : Nat} (hi : i + 4 ≤ L) (hL : L ≤ 2048) {H : Heap} {locs : List Loc} {ls : Array Slot} (I : WI G ad sd hd md rd be beD cad A s H locs) (hl : lv_has ls 4 [(3, .int (nI i)), (2, .ref (cad 0)), (1, .ref (ad 0)), (0, .ref b)]) (next : ∀ (H : Heap) (locs : List Loc), WI G ad sd hd md rd be beD cad A s H locs → W p l e room_1 s m #[Value.ref b] below meth c H locs 600000 7302249 Q (F0 m 741 ls [])) : W p l e room_1 s m #[Value.ref b] below meth c H locs 600000 7302249 Q (F0 m 152 ls []) := by
  obtain ⟨hx, hb, hml, hown, hts, hX, hbl, hbA, hK, hZ, hA⟩ := C
  obtain ⟨er, inp, otp, tc, fc, on, ze, ou, wd, lo, up, hc, sa, sv, ab, tr, rt, kn, ct, bu, bl, tu, tl, bd, bm, d0, d1, d2, d3, d4, d5, nw, ps, er2, us, un, od, li, st, lm, hs, hR, hP, hD, hS⟩ := I
  refine lv_aload_n hx hb dL_law_152 rfl (lv_at hl 2 rfl) ?_
  refine lv_aload_n hx hb dL_law_153 rfl (lv_at hl 3 rfl) ?_
  refine lv_iload_n hx hb dL_law_154 rfl (lv_at hl 0 rfl) ?_
  refine lv_iconst (v := nI 1) hx hb dL_law_155 (by decide) ?_
  refine lv_iadd hx hb dL_law_156 ?_
  refine va_sld hx hb hX hbl hbA hS (ixs hi (by decide) hL) dL_law_157 ?_
  refine lv_aload_n hx hb dL_law_158 rfl (lv_at hl 3 rfl) ?_
  refine lv_iload_n hx hb dL_law_159 rfl (lv_at hl 0 rfl) ?_
  refine lv_iconst (v := nI 2) hx hb dL_law_160 (by decide) ?_
  refine lv_iadd hx hb dL_law_161 ?_
  refine va_sld hx hb hX hbl hbA hS (ixs hi (by decide) hL) dL_law_162 ?_
  refine kp_i (wr := wM G cad nw ps er2 us un od li st lm hs) (va_runV (As := [.int (xs (nI i + nI 1).toNatClampNeg), .int (xs (nI i + nI 2).toNatClampNeg)]) (rest := []) ⟨hx, hb, hml, hown, hts⟩ (c_X5_setSize l G ad sd hd md rd be beD _ er inp otp tc fc on ze ou wd lo up hc sa sv ab tr rt kn ct bu bl tu tl bd bm d0 d1 d2 d3 d4 d5 (xs (nI i + nI 1).toNatClampNeg) (xs (nI i + nI 2).toNatClampNeg) (m_setSize (sa := sa) hR)) (cwV 2 hts gL_law_X5_setSize rfl rfl rfl (by decide +kernel) ⟨Nat.le_of_ble_eq_true rfl, Nat.le_of_ble_eq_true rfl⟩) (kpVp hK hP hD hZ hS hA List.perm_append_comm (q0 := 0) (ci := 5) rfl rfl) rfl rfl hl.1 rfl (lv_room (Nat.le_of_ble_eq_true rfl)) dL_law_163 ⟨Nat.le_of_ble_eq_true rfl, Nat.le_of_ble_eq_true rfl⟩) hP hD hS hA List.perm_append_comm (fun r5 w5 H locs h hP hD hS => ?_)
  obtain ⟨er', inp', otp', tc', fc', lo', up', hc', sa', sv', ab', tr', rt', kn'⟩ := w5
  have hP : va_P G.1 vwCl ((wM G cad nw ps er2 us un od li st lm hs) ++ (wP G ad sd hd md rd be er' ++ (wS G sd inp' otp' tc' fc' on ze ou wd lo' up' ++ (wH G hd hc' sa' sv' ++ (wD G md ab' ++ (wR G rd tr' rt' ++ (wB G be beD kn' ct bu bl tu tl bd bm d0 d1 d2 d3 d4 d5))))))) H := hP
  have hD : va_D A ((wM G cad nw ps er2 us un od li st lm hs) ++ (wP G ad sd hd md rd be er' ++ (wS G sd inp' otp' tc' fc' on ze ou wd lo' up' ++ (wH G hd hc' sa' sv' ++ (wD G md ab' ++ (wR G rd tr' rt' ++ (wB G be beD kn' ct bu bl tu tl bd bm d0 d1 d2 d3 d4 d5))))))) := hD
  try dsimp only at h
  refine lv_aload_n hx hb dL_law_166 rfl (lv_at hl 1 rfl) ?_
  refine lv_aload_n hx hb dL_law_167 rfl (lv_at hl 3 rfl) ?_
  refine lv_iload_n hx hb dL_law_168 rfl (lv_at hl 0 rfl) ?_
  refine lv_iconst (v := nI 1) hx hb dL_law_169 (by decide) ?_
  refine lv_iadd hx hb dL_law_170 ?_
  refine va_sld hx hb hX hbl hbA hS (ixs hi (by decide) hL) dL_law_171 ?_
  refine lv_aload_n hx hb dL_law_172 rfl (lv_at hl 3 rfl) ?_
  refine lv_iload_n hx hb dL_law_173 rfl (lv_at hl 0 rfl) ?_
  refine lv_iconst (v := nI 2) hx hb dL_law_174 (by decide) ?_
  refine lv_iadd hx hb dL_law_175 ?_
  refine va_sld hx hb hX hbl hbA hS (ixs hi (by decide) hL) dL_law_176 ?_
  refine kp_i (wr := wP G ad sd hd md rd be er' ++ (wS G sd inp' otp' tc' fc' on ze ou wd lo' up' ++ (wH G hd hc' sa' sv' ++ (wD G md ab' ++ (wR G rd tr' rt' ++ (wB G be beD kn' ct bu bl tu tl bd bm d0 d1 d2 d3 d4 d5)))))) (va_runV (As := [.int (xs (nI i + nI 1).toNatClampNeg), .int (xs (nI i + nI 2).toNatClampNeg)]) (rest := [.int r5]) ⟨hx, hb, hml, hown, hts⟩ (c_X6_setSize l G cad _ nw ps er2 us un od li st lm hs (xs (nI i + nI 1).toNatClampNeg) (xs (nI i + nI 2).toNatClampNeg) h) (cwV 2 hts gL_law_X6_setSize rfl rfl rfl (by decide +kernel) ⟨Nat.le_of_ble_eq_true rfl, Nat.le_of_ble_eq_true rfl⟩) (kpVp hK hP hD hZ hS hA List.perm_append_comm (q0 := 0) (ci := 6) rfl rfl) rfl rfl hl.1 rfl (lv_room (Nat.le_of_ble_eq_true rfl)) dL_law_177 ⟨Nat.le_of_ble_eq_true rfl, Nat.le_of_ble_eq_true rfl⟩) hP hD hS hA List.perm_append_comm (fun r6 w6 H locs h hP hD hS => ?_)
  obtain ⟨nw', ps', er2', st'⟩ := w6
  have hP : va_P G.1 vwCl ((wP G ad sd hd md rd be er' ++ (wS G sd inp' otp' tc' fc' on ze ou wd lo' up' ++ (wH G hd hc' sa' sv' ++ (wD G md ab' ++ (wR G rd tr' rt' ++ (wB G be beD kn' ct bu bl tu tl bd bm d0 d1 d2 d3 d4 d5)))))) ++ wM G cad nw' ps' er2' us un od li st' lm hs) H := hP
  have hD : va_D A ((wP G ad sd hd md rd be er' ++ (wS G sd inp' otp' tc' fc' on ze ou wd lo' up' ++ (wH G hd hc' sa' sv' ++ (wD G md ab' ++ (wR G rd tr' rt' ++ (wB G be beD kn' ct bu bl tu tl bd bm d0 d1 d2 d3 d4 d5)))))) ++ wM G cad nw' ps' er2' us un od li st' lm hs) := hD
  try dsimp only at h
  obtain ⟨he, hR⟩ := h
  exact lv_icmp_eq (tgt := 741) hx hb dL_law_180 (by decide) (fun _ => next _ _ ⟨er', inp', otp', tc', fc', on, ze, ou, wd, lo', up', hc', sa', sv', ab', tr', rt', kn', ct, bu, bl, tu, tl, bd, bm, d0, d1, d2, d3, d4, d5, nw', ps', er2', us, un, od, li, st', lm, hs, hR, hP, hD, hS⟩) (fun hne => absurd he hne)
set_option maxHeartbeats 4000000 in
set_option maxRecDepth 100000 in
theorem law_1 {p : Program} {l : Launch} {e : Env} {s : State} {m : MethodId} {below : List Frame} {meth : Method} {c : Code} {b L : Nat} {xs : Nat → Int32} {G : GG} {A : Nat → Prop} {Q : State → Prop} {ad sd hd md rd be : Nat → Nat} {beD : Nat → Nat → Nat} {cad : Nat → Nat} (C : LC p s m c b L xs G A) {i : Nat} (hi : i + 4 ≤ L) (hL : L ≤ 2048) {H : Heap} {locs : List Loc} {ls : Array Slot} (I : WI G ad sd hd md rd be beD cad A s H locs) (hl : lv_has ls 4 [(3, .int (nI i)), (2, .ref (cad 0)), (1, .ref (ad 0)), (0, .ref b)]) (next : ∀ (H : Heap) (locs : List Loc), WI G ad sd hd md rd be beD cad A s H locs → W p l e room_1 s m #[Value.ref b] below meth c H locs 600000 7302249 Q (F0 m 741 ls [])) : W p l e room_1 s m #[Value.ref b] below meth c H locs 600000 7302249 Q (F0 m 185 ls []) := by
  obtain ⟨hx, hb, hml, hown, hts, hX, hbl, hbA, hK, hZ, hA⟩ := C
  obtain ⟨er, inp, otp, tc, fc, on, ze, ou, wd, lo, up, hc, sa, sv, ab, tr, rt, kn, ct, bu, bl, tu, tl, bd, bm, d0, d1, d2, d3, d4, d5, nw, ps, er2, us, un, od, li, st, lm, hs, hR, hP, hD, hS⟩ := I
  refine lv_aload_n hx hb dL_law_185 rfl (lv_at hl 2 rfl) ?_
  refine lv_aload_n hx hb dL_law_186 rfl (lv_at hl 3 rfl) ?_
  refine lv_iload_n hx hb dL_law_187 rfl (lv_at hl 0 rfl) ?_
  refine lv_iconst (v := nI 1) hx hb dL_law_188 (by decide) ?_
  refine lv_iadd hx hb dL_law_189 ?_
  refine va_sld hx hb hX hbl hbA hS (ixs hi (by decide) hL) dL_law_190 ?_
  refine lv_aload_n hx hb dL_law_191 rfl (lv_at hl 3 rfl) ?_
  refine lv_iload_n hx hb dL_law_192 rfl (lv_at hl 0 rfl) ?_
  refine lv_iconst (v := nI 2) hx hb dL_law_193 (by decide) ?_
  refine lv_iadd hx hb dL_law_194 ?_
  refine va_sld hx hb hX hbl hbA hS (ixs hi (by decide) hL) dL_law_195 ?_
  refine lv_aload_n hx hb dL_law_196 rfl (lv_at hl 3 rfl) ?_
  refine lv_iload_n hx hb dL_law_197 rfl (lv_at hl 0 rfl) ?_
  refine lv_iconst (v := nI 3) hx hb dL_law_198 (by decide) ?_
  refine lv_iadd hx hb dL_law_199 ?_
  refine va_sld hx hb hX hbl hbA hS (ixs hi (by decide) hL) dL_law_200 ?_
  refine kp_i (wr := wM G cad nw ps er2 us un od li st lm hs) (va_runV (As := [.int (xs (nI i + nI 1).toNatClampNeg), .int (xs (nI i + nI 2).toNatClampNeg), .int (xs (nI i + nI 3).toNatClampNeg)]) (rest := []) ⟨hx, hb, hml, hown, hts⟩ (c_X5_addTerm l G ad sd hd md rd be beD _ er inp otp tc fc on ze ou wd lo up hc sa sv ab tr rt kn ct bu bl tu tl bd bm d0 d1 d2 d3 d4 d5 (xs (nI i + nI 1).toNatClampNeg) (xs (nI i + nI 2).toNatClampNeg) (xs (nI i + nI 3).toNatClampNeg) (m_addTerm (sa := sa) hR)) (cwV 3 hts gL_law_X5_addTerm rfl rfl rfl (by decide +kernel) ⟨Nat.le_of_ble_eq_true rfl, Nat.le_of_ble_eq_true rfl⟩) (kpVp hK hP hD hZ hS hA List.perm_append_comm (q0 := 0) (ci := 5) rfl rfl) rfl rfl hl.1 rfl (lv_room (Nat.le_of_ble_eq_true rfl)) dL_law_201 ⟨Nat.le_of_ble_eq_true rfl, Nat.le_of_ble_eq_true rfl⟩) hP hD hS hA List.perm_append_comm (fun r5 w5 H locs h hP hD hS => ?_)
  obtain ⟨er', tc', fc', on', ze', ou', wd', lo', up', hc', sa', sv', ab', tr', rt', kn'⟩ := w5
  have hP : va_P G.1 vwCl ((wM G cad nw ps er2 us un od li st lm hs) ++ (wP G ad sd hd md rd be er' ++ (wS G sd inp otp tc' fc' on' ze' ou' wd' lo' up' ++ (wH G hd hc' sa' sv' ++ (wD G md ab' ++ (wR G rd tr' rt' ++ (wB G be beD kn' ct bu bl tu tl bd bm d0 d1 d2 d3 d4 d5))))))) H := hP
  have hD : va_D A ((wM G cad nw ps er2 us un od li st lm hs) ++ (wP G ad sd hd md rd be er' ++ (wS G sd inp otp tc' fc' on' ze' ou' wd' lo' up' ++ (wH G hd hc' sa' sv' ++ (wD G md ab' ++ (wR G rd tr' rt' ++ (wB G be beD kn' ct bu bl tu tl bd bm d0 d1 d2 d3 d4 d5))))))) := hD
  try dsimp only at h
  refine lv_aload_n hx hb dL_law_204 rfl (lv_at hl 1 rfl) ?_
  refine lv_aload_n hx hb dL_law_205 rfl (lv_at hl 3 rfl) ?_
  refine lv_iload_n hx hb dL_law_206 rfl (lv_at hl 0 rfl) ?_
  refine lv_iconst (v := nI 1) hx hb dL_law_207 (by decide) ?_
  refine lv_iadd hx hb dL_law_208 ?_
  refine va_sld hx hb hX hbl hbA hS (ixs hi (by decide) hL) dL_law_209 ?_
  refine lv_aload_n hx hb dL_law_210 rfl (lv_at hl 3 rfl) ?_
  refine lv_iload_n hx hb dL_law_211 rfl (lv_at hl 0 rfl) ?_
  refine lv_iconst (v := nI 2) hx hb dL_law_212 (by decide) ?_
  refine lv_iadd hx hb dL_law_213 ?_
  refine va_sld hx hb hX hbl hbA hS (ixs hi (by decide) hL) dL_law_214 ?_
  refine lv_aload_n hx hb dL_law_215 rfl (lv_at hl 3 rfl) ?_
  refine lv_iload_n hx hb dL_law_216 rfl (lv_at hl 0 rfl) ?_
  refine lv_iconst (v := nI 3) hx hb dL_law_217 (by decide) ?_
  refine lv_iadd hx hb dL_law_218 ?_
  refine va_sld hx hb hX hbl hbA hS (ixs hi (by decide) hL) dL_law_219 ?_
  refine kp_i (wr := wP G ad sd hd md rd be er' ++ (wS G sd inp otp tc' fc' on' ze' ou' wd' lo' up' ++ (wH G hd hc' sa' sv' ++ (wD G md ab' ++ (wR G rd tr' rt' ++ (wB G be beD kn' ct bu bl tu tl bd bm d0 d1 d2 d3 d4 d5)))))) (va_runV (As := [.int (xs (nI i + nI 1).toNatClampNeg), .int (xs (nI i + nI 2).toNatClampNeg), .int (xs (nI i + nI 3).toNatClampNeg)]) (rest := [.int r5]) ⟨hx, hb, hml, hown, hts⟩ (c_X6_addTerm l G cad _ nw ps er2 us un od li st lm hs (xs (nI i + nI 1).toNatClampNeg) (xs (nI i + nI 2).toNatClampNeg) (xs (nI i + nI 3).toNatClampNeg) h) (cwV 3 hts gL_law_X6_addTerm rfl rfl rfl (by decide +kernel) ⟨Nat.le_of_ble_eq_true rfl, Nat.le_of_ble_eq_true rfl⟩) (kpVp hK hP hD hZ hS hA List.perm_append_comm (q0 := 0) (ci := 6) rfl rfl) rfl rfl hl.1 rfl (lv_room (Nat.le_of_ble_eq_true rfl)) dL_law_220 ⟨Nat.le_of_ble_eq_true rfl, Nat.le_of_ble_eq_true rfl⟩) hP hD hS hA List.perm_append_comm (fun r6 w6 H locs h hP hD hS => ?_)
  obtain ⟨nw', ps', er2', st'⟩ := w6
  have hP : va_P G.1 vwCl ((wP G ad sd hd md rd be er' ++ (wS G sd inp otp tc' fc' on' ze' ou' wd' lo' up' ++ (wH G hd hc' sa' sv' ++ (wD G md ab' ++ (wR G rd tr' rt' ++ (wB G be beD kn' ct bu bl tu tl bd bm d0 d1 d2 d3 d4 d5)))))) ++ wM G cad nw' ps' er2' us un od li st' lm hs) H := hP
  have hD : va_D A ((wP G ad sd hd md rd be er' ++ (wS G sd inp otp tc' fc' on' ze' ou' wd' lo' up' ++ (wH G hd hc' sa' sv' ++ (wD G md ab' ++ (wR G rd tr' rt' ++ (wB G be beD kn' ct bu bl tu tl bd bm d0 d1 d2 d3 d4 d5)))))) ++ wM G cad nw' ps' er2' us un od li st' lm hs) := hD
  try dsimp only at h
  obtain ⟨he, hR⟩ := h
  exact lv_icmp_eq (tgt := 741) hx hb dL_law_223 (by decide) (fun _ => next _ _ ⟨er', inp, otp, tc', fc', on', ze', ou', wd', lo', up', hc', sa', sv', ab', tr', rt', kn', ct, bu, bl, tu, tl, bd, bm, d0, d1, d2, d3, d4, d5, nw', ps', er2', us, un, od, li, st', lm, hs, hR, hP, hD, hS⟩) (fun hne => absurd he hne)
set_option maxHeartbeats 4000000 in
set_option maxRecDepth 100000 in
theorem law_2 {p : Program} {l : Launch} {e : Env} {s : State} {m : MethodId} {below : List Frame} {meth : Method} {c : Code} {b L : Nat} {xs : Nat → Int32} {G : GG} {A : Nat → Prop} {Q : State → Prop} {ad sd hd md rd be : Nat → Nat} {beD : Nat → Nat → Nat} {cad : Nat → Nat} (C : LC p s m c b L xs G A) {i : Nat} (hi : i + 4 ≤ L) (hL : L ≤ 2048) {H : Heap} {locs : List Loc} {ls : Array Slot} (I : WI G ad sd hd md rd be beD cad A s H locs) (hl : lv_has ls 4 [(3, .int (nI i)), (2, .ref (cad 0)), (1, .ref (ad 0)), (0, .ref b)]) (next : ∀ (H : Heap) (locs : List Loc), WI G ad sd hd md rd be beD cad A s H locs → W p l e room_1 s m #[Value.ref b] below meth c H locs 600000 7302249 Q (F0 m 741 ls [])) : W p l e room_1 s m #[Value.ref b] below meth c H locs 600000 7302249 Q (F0 m 228 ls []) := by
  obtain ⟨hx, hb, hml, hown, hts, hX, hbl, hbA, hK, hZ, hA⟩ := C
  obtain ⟨er, inp, otp, tc, fc, on, ze, ou, wd, lo, up, hc, sa, sv, ab, tr, rt, kn, ct, bu, bl, tu, tl, bd, bm, d0, d1, d2, d3, d4, d5, nw, ps, er2, us, un, od, li, st, lm, hs, hR, hP, hD, hS⟩ := I
  refine lv_aload_n hx hb dL_law_228 rfl (lv_at hl 2 rfl) ?_
  refine lv_aload_n hx hb dL_law_229 rfl (lv_at hl 3 rfl) ?_
  refine lv_iload_n hx hb dL_law_230 rfl (lv_at hl 0 rfl) ?_
  refine lv_iconst (v := nI 1) hx hb dL_law_231 (by decide) ?_
  refine lv_iadd hx hb dL_law_232 ?_
  refine va_sld hx hb hX hbl hbA hS (ixs hi (by decide) hL) dL_law_233 ?_
  refine kp_i (wr := wM G cad nw ps er2 us un od li st lm hs) (va_runV (As := [.int (xs (nI i + nI 1).toNatClampNeg)]) (rest := []) ⟨hx, hb, hml, hown, hts⟩ (c_X5_removeTerm l G ad sd hd md rd be beD _ er inp otp tc fc on ze ou wd lo up hc sa sv ab tr rt kn ct bu bl tu tl bd bm d0 d1 d2 d3 d4 d5 (xs (nI i + nI 1).toNatClampNeg) (m_removeTerm (sa := sa) hR)) (cwV 1 hts gL_law_X5_removeTerm rfl rfl rfl (by decide +kernel) ⟨Nat.le_of_ble_eq_true rfl, Nat.le_of_ble_eq_true rfl⟩) (kpVp hK hP hD hZ hS hA List.perm_append_comm (q0 := 0) (ci := 5) rfl rfl) rfl rfl hl.1 rfl (lv_room (Nat.le_of_ble_eq_true rfl)) dL_law_234 ⟨Nat.le_of_ble_eq_true rfl, Nat.le_of_ble_eq_true rfl⟩) hP hD hS hA List.perm_append_comm (fun r5 w5 H locs h hP hD hS => ?_)
  obtain ⟨er', tc', fc', on', ze', ou', wd', lo', up', hc', sa', sv', ab', tr', rt', kn'⟩ := w5
  have hP : va_P G.1 vwCl ((wM G cad nw ps er2 us un od li st lm hs) ++ (wP G ad sd hd md rd be er' ++ (wS G sd inp otp tc' fc' on' ze' ou' wd' lo' up' ++ (wH G hd hc' sa' sv' ++ (wD G md ab' ++ (wR G rd tr' rt' ++ (wB G be beD kn' ct bu bl tu tl bd bm d0 d1 d2 d3 d4 d5))))))) H := hP
  have hD : va_D A ((wM G cad nw ps er2 us un od li st lm hs) ++ (wP G ad sd hd md rd be er' ++ (wS G sd inp otp tc' fc' on' ze' ou' wd' lo' up' ++ (wH G hd hc' sa' sv' ++ (wD G md ab' ++ (wR G rd tr' rt' ++ (wB G be beD kn' ct bu bl tu tl bd bm d0 d1 d2 d3 d4 d5))))))) := hD
  try dsimp only at h
  refine lv_aload_n hx hb dL_law_237 rfl (lv_at hl 1 rfl) ?_
  refine lv_aload_n hx hb dL_law_238 rfl (lv_at hl 3 rfl) ?_
  refine lv_iload_n hx hb dL_law_239 rfl (lv_at hl 0 rfl) ?_
  refine lv_iconst (v := nI 1) hx hb dL_law_240 (by decide) ?_
  refine lv_iadd hx hb dL_law_241 ?_
  refine va_sld hx hb hX hbl hbA hS (ixs hi (by decide) hL) dL_law_242 ?_
  refine kp_i (wr := wP G ad sd hd md rd be er' ++ (wS G sd inp otp tc' fc' on' ze' ou' wd' lo' up' ++ (wH G hd hc' sa' sv' ++ (wD G md ab' ++ (wR G rd tr' rt' ++ (wB G be beD kn' ct bu bl tu tl bd bm d0 d1 d2 d3 d4 d5)))))) (va_runV (As := [.int (xs (nI i + nI 1).toNatClampNeg)]) (rest := [.int r5]) ⟨hx, hb, hml, hown, hts⟩ (c_X6_removeTerm l G cad _ nw ps er2 us un od li st lm hs (xs (nI i + nI 1).toNatClampNeg) h) (cwV 1 hts gL_law_X6_removeTerm rfl rfl rfl (by decide +kernel) ⟨Nat.le_of_ble_eq_true rfl, Nat.le_of_ble_eq_true rfl⟩) (kpVp hK hP hD hZ hS hA List.perm_append_comm (q0 := 0) (ci := 6) rfl rfl) rfl rfl hl.1 rfl (lv_room (Nat.le_of_ble_eq_true rfl)) dL_law_243 ⟨Nat.le_of_ble_eq_true rfl, Nat.le_of_ble_eq_true rfl⟩) hP hD hS hA List.perm_append_comm (fun r6 w6 H locs h hP hD hS => ?_)
  obtain ⟨nw', ps', er2', st'⟩ := w6
  have hP : va_P G.1 vwCl ((wP G ad sd hd md rd be er' ++ (wS G sd inp otp tc' fc' on' ze' ou' wd' lo' up' ++ (wH G hd hc' sa' sv' ++ (wD G md ab' ++ (wR G rd tr' rt' ++ (wB G be beD kn' ct bu bl tu tl bd bm d0 d1 d2 d3 d4 d5)))))) ++ wM G cad nw' ps' er2' us un od li st' lm hs) H := hP
  have hD : va_D A ((wP G ad sd hd md rd be er' ++ (wS G sd inp otp tc' fc' on' ze' ou' wd' lo' up' ++ (wH G hd hc' sa' sv' ++ (wD G md ab' ++ (wR G rd tr' rt' ++ (wB G be beD kn' ct bu bl tu tl bd bm d0 d1 d2 d3 d4 d5)))))) ++ wM G cad nw' ps' er2' us un od li st' lm hs) := hD
  try dsimp only at h
  obtain ⟨he, hR⟩ := h
  exact lv_icmp_eq (tgt := 741) hx hb dL_law_246 (by decide) (fun _ => next _ _ ⟨er', inp, otp, tc', fc', on', ze', ou', wd', lo', up', hc', sa', sv', ab', tr', rt', kn', ct, bu, bl, tu, tl, bd, bm, d0, d1, d2, d3, d4, d5, nw', ps', er2', us, un, od, li, st', lm, hs, hR, hP, hD, hS⟩) (fun hne => absurd he hne)
set_option maxHeartbeats 4000000 in
set_option maxRecDepth 100000 in
theorem law_3 {p : Program} {l : Launch} {e : Env} {s : State} {m : MethodId} {below : List Frame} {meth : Method} {c : Code} {b L : Nat} {xs : Nat → Int32} {G : GG} {A : Nat → Prop} {Q : State → Prop} {ad sd hd md rd be : Nat → Nat} {beD : Nat → Nat → Nat} {cad : Nat → Nat} (C : LC p s m c b L xs G A) {i : Nat} (hi : i + 4 ≤ L) (hL : L ≤ 2048) {H : Heap} {locs : List Loc} {ls : Array Slot} (I : WI G ad sd hd md rd be beD cad A s H locs) (hl : lv_has ls 4 [(3, .int (nI i)), (2, .ref (cad 0)), (1, .ref (ad 0)), (0, .ref b)]) (next : ∀ (H : Heap) (locs : List Loc), WI G ad sd hd md rd be beD cad A s H locs → W p l e room_1 s m #[Value.ref b] below meth c H locs 600000 7302249 Q (F0 m 741 ls [])) : W p l e room_1 s m #[Value.ref b] below meth c H locs 600000 7302249 Q (F0 m 251 ls []) := by
  obtain ⟨hx, hb, hml, hown, hts, hX, hbl, hbA, hK, hZ, hA⟩ := C
  obtain ⟨er, inp, otp, tc, fc, on, ze, ou, wd, lo, up, hc, sa, sv, ab, tr, rt, kn, ct, bu, bl, tu, tl, bd, bm, d0, d1, d2, d3, d4, d5, nw, ps, er2, us, un, od, li, st, lm, hs, hR, hP, hD, hS⟩ := I
  refine lv_aload_n hx hb dL_law_251 rfl (lv_at hl 2 rfl) ?_
  refine kp_i (wr := wM G cad nw ps er2 us un od li st lm hs) (va_runV (As := []) (rest := []) ⟨hx, hb, hml, hown, hts⟩ (c_X5_terms l G ad sd hd md rd be beD _ er inp otp tc fc on ze ou wd lo up hc sa sv ab tr rt kn ct bu bl tu tl bd bm d0 d1 d2 d3 d4 d5  (m_terms  hR)) (cwV 0 hts gL_law_X5_terms rfl rfl rfl (by decide +kernel) ⟨Nat.le_of_ble_eq_true rfl, Nat.le_of_ble_eq_true rfl⟩) (kpVp hK hP hD hZ hS hA List.perm_append_comm (q0 := 0) (ci := 5) rfl rfl) rfl rfl hl.1 rfl (lv_room (Nat.le_of_ble_eq_true rfl)) dL_law_252 ⟨Nat.le_of_ble_eq_true rfl, Nat.le_of_ble_eq_true rfl⟩) hP hD hS hA List.perm_append_comm (fun r5 w5 H locs h hP hD hS => ?_)
  have hP : va_P G.1 vwCl ((wM G cad nw ps er2 us un od li st lm hs) ++ (wP G ad sd hd md rd be er ++ (wS G sd inp otp tc fc on ze ou wd lo up ++ (wH G hd hc sa sv ++ (wD G md ab ++ (wR G rd tr rt ++ (wB G be beD kn ct bu bl tu tl bd bm d0 d1 d2 d3 d4 d5))))))) H := hP
  have hD : va_D A ((wM G cad nw ps er2 us un od li st lm hs) ++ (wP G ad sd hd md rd be er ++ (wS G sd inp otp tc fc on ze ou wd lo up ++ (wH G hd hc sa sv ++ (wD G md ab ++ (wR G rd tr rt ++ (wB G be beD kn ct bu bl tu tl bd bm d0 d1 d2 d3 d4 d5))))))) := hD
  try dsimp only at h
  refine lv_aload_n hx hb dL_law_255 rfl (lv_at hl 1 rfl) ?_
  refine kp_i (wr := wP G ad sd hd md rd be er ++ (wS G sd inp otp tc fc on ze ou wd lo up ++ (wH G hd hc sa sv ++ (wD G md ab ++ (wR G rd tr rt ++ (wB G be beD kn ct bu bl tu tl bd bm d0 d1 d2 d3 d4 d5)))))) (va_runV (As := []) (rest := [.int r5]) ⟨hx, hb, hml, hown, hts⟩ (c_X6_terms l G cad _ nw ps er2 us un od li st lm hs  h) (cwV 0 hts gL_law_X6_terms rfl rfl rfl (by decide +kernel) ⟨Nat.le_of_ble_eq_true rfl, Nat.le_of_ble_eq_true rfl⟩) (kpVp hK hP hD hZ hS hA List.perm_append_comm (q0 := 0) (ci := 6) rfl rfl) rfl rfl hl.1 rfl (lv_room (Nat.le_of_ble_eq_true rfl)) dL_law_256 ⟨Nat.le_of_ble_eq_true rfl, Nat.le_of_ble_eq_true rfl⟩) hP hD hS hA List.perm_append_comm (fun r6 w6 H locs h hP hD hS => ?_)
  have hP : va_P G.1 vwCl ((wP G ad sd hd md rd be er ++ (wS G sd inp otp tc fc on ze ou wd lo up ++ (wH G hd hc sa sv ++ (wD G md ab ++ (wR G rd tr rt ++ (wB G be beD kn ct bu bl tu tl bd bm d0 d1 d2 d3 d4 d5)))))) ++ wM G cad nw ps er2 us un od li st lm hs) H := hP
  have hD : va_D A ((wP G ad sd hd md rd be er ++ (wS G sd inp otp tc fc on ze ou wd lo up ++ (wH G hd hc sa sv ++ (wD G md ab ++ (wR G rd tr rt ++ (wB G be beD kn ct bu bl tu tl bd bm d0 d1 d2 d3 d4 d5)))))) ++ wM G cad nw ps er2 us un od li st lm hs) := hD
  try dsimp only at h
  obtain ⟨he, hR⟩ := h
  exact lv_icmp_eq (tgt := 741) hx hb dL_law_259 (by decide) (fun _ => next _ _ ⟨er, inp, otp, tc, fc, on, ze, ou, wd, lo, up, hc, sa, sv, ab, tr, rt, kn, ct, bu, bl, tu, tl, bd, bm, d0, d1, d2, d3, d4, d5, nw, ps, er2, us, un, od, li, st, lm, hs, hR, hP, hD, hS⟩) (fun hne => absurd he hne)
set_option maxHeartbeats 4000000 in
set_option maxRecDepth 100000 in
theorem law_4 {p : Program} {l : Launch} {e : Env} {s : State} {m : MethodId} {below : List Frame} {meth : Method} {c : Code} {b L : Nat} {xs : Nat → Int32} {G : GG} {A : Nat → Prop} {Q : State → Prop} {ad sd hd md rd be : Nat → Nat} {beD : Nat → Nat → Nat} {cad : Nat → Nat} (C : LC p s m c b L xs G A) {i : Nat} (hi : i + 4 ≤ L) (hL : L ≤ 2048) {H : Heap} {locs : List Loc} {ls : Array Slot} (I : WI G ad sd hd md rd be beD cad A s H locs) (hl : lv_has ls 4 [(3, .int (nI i)), (2, .ref (cad 0)), (1, .ref (ad 0)), (0, .ref b)]) (next : ∀ (H : Heap) (locs : List Loc), WI G ad sd hd md rd be beD cad A s H locs → W p l e room_1 s m #[Value.ref b] below meth c H locs 600000 7302249 Q (F0 m 741 ls [])) : W p l e room_1 s m #[Value.ref b] below meth c H locs 600000 7302249 Q (F0 m 264 ls []) := by
  obtain ⟨hx, hb, hml, hown, hts, hX, hbl, hbA, hK, hZ, hA⟩ := C
  obtain ⟨er, inp, otp, tc, fc, on, ze, ou, wd, lo, up, hc, sa, sv, ab, tr, rt, kn, ct, bu, bl, tu, tl, bd, bm, d0, d1, d2, d3, d4, d5, nw, ps, er2, us, un, od, li, st, lm, hs, hR, hP, hD, hS⟩ := I
  refine lv_aload_n hx hb dL_law_264 rfl (lv_at hl 2 rfl) ?_
  refine lv_aload_n hx hb dL_law_265 rfl (lv_at hl 3 rfl) ?_
  refine lv_iload_n hx hb dL_law_266 rfl (lv_at hl 0 rfl) ?_
  refine lv_iconst (v := nI 1) hx hb dL_law_267 (by decide) ?_
  refine lv_iadd hx hb dL_law_268 ?_
  refine va_sld hx hb hX hbl hbA hS (ixs hi (by decide) hL) dL_law_269 ?_
  refine kp_i (wr := wM G cad nw ps er2 us un od li st lm hs) (va_runV (As := [.int (xs (nI i + nI 1).toNatClampNeg)]) (rest := []) ⟨hx, hb, hml, hown, hts⟩ (c_X5_literals l G ad sd hd md rd be beD _ er inp otp tc fc on ze ou wd lo up hc sa sv ab tr rt kn ct bu bl tu tl bd bm d0 d1 d2 d3 d4 d5 (xs (nI i + nI 1).toNatClampNeg) (m_literals  hR)) (cwV 1 hts gL_law_X5_literals rfl rfl rfl (by decide +kernel) ⟨Nat.le_of_ble_eq_true rfl, Nat.le_of_ble_eq_true rfl⟩) (kpVp hK hP hD hZ hS hA List.perm_append_comm (q0 := 0) (ci := 5) rfl rfl) rfl rfl hl.1 rfl (lv_room (Nat.le_of_ble_eq_true rfl)) dL_law_270 ⟨Nat.le_of_ble_eq_true rfl, Nat.le_of_ble_eq_true rfl⟩) hP hD hS hA List.perm_append_comm (fun r5 w5 H locs h hP hD hS => ?_)
  obtain ⟨er', rfl⟩ : ∃ z, z = w5 := ⟨_, rfl⟩
  have hP : va_P G.1 vwCl ((wM G cad nw ps er2 us un od li st lm hs) ++ (wP G ad sd hd md rd be er' ++ (wS G sd inp otp tc fc on ze ou wd lo up ++ (wH G hd hc sa sv ++ (wD G md ab ++ (wR G rd tr rt ++ (wB G be beD kn ct bu bl tu tl bd bm d0 d1 d2 d3 d4 d5))))))) H := hP
  have hD : va_D A ((wM G cad nw ps er2 us un od li st lm hs) ++ (wP G ad sd hd md rd be er' ++ (wS G sd inp otp tc fc on ze ou wd lo up ++ (wH G hd hc sa sv ++ (wD G md ab ++ (wR G rd tr rt ++ (wB G be beD kn ct bu bl tu tl bd bm d0 d1 d2 d3 d4 d5))))))) := hD
  try dsimp only at h
  refine lv_aload_n hx hb dL_law_273 rfl (lv_at hl 1 rfl) ?_
  refine lv_aload_n hx hb dL_law_274 rfl (lv_at hl 3 rfl) ?_
  refine lv_iload_n hx hb dL_law_275 rfl (lv_at hl 0 rfl) ?_
  refine lv_iconst (v := nI 1) hx hb dL_law_276 (by decide) ?_
  refine lv_iadd hx hb dL_law_277 ?_
  refine va_sld hx hb hX hbl hbA hS (ixs hi (by decide) hL) dL_law_278 ?_
  refine kp_i (wr := wP G ad sd hd md rd be er' ++ (wS G sd inp otp tc fc on ze ou wd lo up ++ (wH G hd hc sa sv ++ (wD G md ab ++ (wR G rd tr rt ++ (wB G be beD kn ct bu bl tu tl bd bm d0 d1 d2 d3 d4 d5)))))) (va_runV (As := [.int (xs (nI i + nI 1).toNatClampNeg)]) (rest := [.int r5]) ⟨hx, hb, hml, hown, hts⟩ (c_X6_literals l G cad _ nw ps er2 us un od li st lm hs (xs (nI i + nI 1).toNatClampNeg) h) (cwV 1 hts gL_law_X6_literals rfl rfl rfl (by decide +kernel) ⟨Nat.le_of_ble_eq_true rfl, Nat.le_of_ble_eq_true rfl⟩) (kpVp hK hP hD hZ hS hA List.perm_append_comm (q0 := 0) (ci := 6) rfl rfl) rfl rfl hl.1 rfl (lv_room (Nat.le_of_ble_eq_true rfl)) dL_law_279 ⟨Nat.le_of_ble_eq_true rfl, Nat.le_of_ble_eq_true rfl⟩) hP hD hS hA List.perm_append_comm (fun r6 w6 H locs h hP hD hS => ?_)
  obtain ⟨er2', rfl⟩ : ∃ z, z = w6 := ⟨_, rfl⟩
  have hP : va_P G.1 vwCl ((wP G ad sd hd md rd be er' ++ (wS G sd inp otp tc fc on ze ou wd lo up ++ (wH G hd hc sa sv ++ (wD G md ab ++ (wR G rd tr rt ++ (wB G be beD kn ct bu bl tu tl bd bm d0 d1 d2 d3 d4 d5)))))) ++ wM G cad nw ps er2' us un od li st lm hs) H := hP
  have hD : va_D A ((wP G ad sd hd md rd be er' ++ (wS G sd inp otp tc fc on ze ou wd lo up ++ (wH G hd hc sa sv ++ (wD G md ab ++ (wR G rd tr rt ++ (wB G be beD kn ct bu bl tu tl bd bm d0 d1 d2 d3 d4 d5)))))) ++ wM G cad nw ps er2' us un od li st lm hs) := hD
  try dsimp only at h
  obtain ⟨he, hR⟩ := h
  exact lv_icmp_eq (tgt := 741) hx hb dL_law_282 (by decide) (fun _ => next _ _ ⟨er', inp, otp, tc, fc, on, ze, ou, wd, lo, up, hc, sa, sv, ab, tr, rt, kn, ct, bu, bl, tu, tl, bd, bm, d0, d1, d2, d3, d4, d5, nw, ps, er2', us, un, od, li, st, lm, hs, hR, hP, hD, hS⟩) (fun hne => absurd he hne)
