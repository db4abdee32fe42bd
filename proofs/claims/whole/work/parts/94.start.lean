-- a new object of each kind: they are related
theorem sp_X4_init {K : Int32 → Int32 → Int32 → Int32 → (Nat → Int32) → (Nat → Int32) → (Nat → Int32) → (Nat → Int64) → (Nat → Int32) → (Nat → Int32) → Prop} (h : ∀ lo up, (∀ c, c < 10 → lo c = opt (nof c) ∧ up c = opt (nof c)) → K (nI 4) (nI 2) 0 0 (fun _ => 0) (fun _ => 0) (fun _ => 0) (fun _ => 0) lo up) : wp_X4_init K := by
  unfold wp_X4_init
  exact sp_fill (fun g hg => sp_fill (fun g2 hg2 => h g g2 (fun c hc => ⟨hg c hc, hg2 c hc⟩)))
theorem m_init : wp_X5_init (fun er inp otp tc fc on ze ou wd lo up hc _ sv ab tr rt kn ct bu bl _ _ _ _ d0 _ _ _ _ _ => wp_X6_init (fun nw ps er2 _ _ _ _ st _ _ => Rel er inp otp tc fc on ze ou wd lo up hc sv ab tr rt kn ct bu bl d0 nw ps er2 st)) := by
  have hz : Size (4, 2, [], nof, nof) := ⟨by decide, by decide, by decide, by decide, Nat.zero_le _, fun q hq => (by cases hq)⟩
  unfold wp_X5_init
  refine sp_X4_init (fun lo up hlu => ?_)
  unfold wp_X2_init
  refine sp_X4_init (fun _ _ _ => sp_X4_init (fun _ _ _ => sp_X4_init (fun _ _ _ => sp_X4_init (fun _ _ _ => sp_X4_init (fun _ _ _ sa => ?_)))))
  unfold wp_X0_init
  unfold wp_X3_init
  unfold wp_X1_init
  unfold wp_X6_init
  refine sp_noFolds ⟨(4, 2, [], nof, nof), [], Fok.empty hz, ⟨⟨rfl, rfl, rfl, rfl, fun s q hq => (by cases hq), hlu⟩, Clo_zero (fun _ _ => rfl) (fun a b ⟨u, v, _, e, _⟩ => nof_some e), fun _ => 0, fun j hj => absurd hj (Nat.not_lt_zero j), fun j hj => absurd hj (Nat.not_lt_zero j)⟩, ⟨rfl, rfl, rfl, fun s q hq => (by cases hq), fun c hc => ?_⟩, ⟨⟨rfl, by decide, fun k S hk => (by cases hk)⟩, ⟨by decide, fun k S hk => (by cases hk)⟩, rfl, fun Q hQ => (by cases hQ)⟩, Or.inl rfl, fun _ _ => rfl, fun _ _ => rfl⟩
  unfold nf
  rw [if_pos (by omega), if_pos (by omega)]
  exact ⟨rfl, rfl⟩
set_option maxHeartbeats 4000000 in
set_option maxRecDepth 100000 in
/-- from the entry -/
theorem whole_start {p : Program} {e : Env} {s : State} {m : MethodId} {below : List Frame} {meth : Method} {c : Code} (l : Launch) (hflags : l.flags = flags0) {b L : Nat} {xs : Nat → Int32} (hL : L ≤ 2048) (C0 : lw_At p s m meth c b L xs) : W p l e room_1 s m #[Value.ref b] below meth c s.heap [] 0 0 (lw_Z below #[Value.ref b] s) (entryFrame m ([Value.ref b] : List Value).toArray 4) := by
  obtain ⟨hx, hb, hr, hml, hown, hts0, hX, hbl, hlocks, hgv⟩ := id C0
  have hA : ∀ q : Nat, s.heap.size ≤ q → (fun q : Nat => s.heap.size ≤ q) q := fun _ h => h
  have hbA : ¬ (fun q : Nat => s.heap.size ≤ q) b := Nat.not_le.mpr hbl
  have hts : ∀ w ∈ wsL_law, w.before #[Value.ref b] s = true := fun w h => hts0 w (wsL_law_in w h)
  have hown : s.vm.findClass RL = some m.cls := hown
  obtain ⟨G, hK⟩ := law_known hts0 hts
  have hO := law_ao hts0
  have hZ := law_zz hts0 hgv
  have hS : va_S (fun q : Nat => s.heap.size ≤ q) s.heap s.heap [] := va_S.rf
  have hP : va_P G.1 vwCl [] s.heap := fun k q h => by simp at h
  have hD : va_D (fun q : Nat => s.heap.size ≤ q) [] := ⟨fun i j p q h => by simp at h, fun k q h => by simp at h⟩
  have hl := lv_entry ([.ref b]) (n := 4) (Nat.le_of_ble_eq_true rfl)
  rw [lg_entry_eq]
  generalize (lg_sl ([.ref b]) ++ List.replicate (4 - (lg_sl ([.ref b])).length) Slot.unset).toArray = ls at hl ⊢
  have hl : lv_has ls 4 [(0, .ref b)] := hl
  refine va_new (ci := 5) (fs := [.null, .null, .null, .null, .null, .null]) (C := RX5) (T := TX5) (N := 6) hx hb hts inlX5 tyX5 tyX5_ok hown (hts (.classLink RL 7 RX5) (List.mem_of_getElem? (i := 0) rfl)) (hts (.instantiable RX5 6) (List.mem_of_getElem? (i := 1) rfl)) (hts (.initialized RX5) (List.mem_of_getElem? (i := 2) rfl)) hK.1 hP hD hS hA rfl (fun j hj => by rcases (show j = 0 ∨ j = 1 ∨ j = 2 ∨ j = 3 ∨ j = 4 ∨ j = 5 by omega) with rfl | rfl | rfl | rfl | rfl | rfl <;> rfl) (Nat.le_of_ble_eq_true rfl) (Nat.le_of_ble_eq_true rfl) dL_law_0 (fun q5 H hP0 hD0 hS => ?_)
  have hP0 : va_P G.1 vwCl [(q5, .inr (5, [.null, .null, .null, .null, .null, .null]))] H := hP0
  have hD0 : va_D (fun q : Nat => s.heap.size ≤ q) [(q5, .inr (5, [.null, .null, .null, .null, .null, .null]))] := hD0
  refine W.widen (k := 1) (n := 6) (by omega) (by omega) ?_
  refine lv_dup hx hb dL_law_3 rfl ?_
  refine kp_c (wr := ([] : va_W)) (va_runI (As := []) (rest := [.ref q5]) ⟨hx, hb, hml, hown, hts⟩ (c_X5_init l G q5 _ m_init) (cwI 0 hts gL_law_X5_init rfl rfl rfl (hts (.initialized RX5) (List.mem_of_getElem? (i := 2) rfl)) (hts (.methodLink RL 9 yX5_init) (List.mem_of_getElem? (i := 6) rfl)) (hts (.instanceMethod yX5_init) (List.mem_of_getElem? (i := 7) rfl)) rfl (by decide +kernel) ⟨Nat.le_of_ble_eq_true rfl, Nat.le_of_ble_eq_true rfl⟩) (kpKp hK hO hP0 hD0 hZ hS hA (pm_all _)) rfl rfl hl.1 rfl (lv_room (Nat.le_of_ble_eq_true rfl)) dL_law_4 ⟨Nat.le_of_ble_eq_true rfl, Nat.le_of_ble_eq_true rfl⟩) hP0 hD0 hS hA (pm_all _) (fun u5 H locs h hP hD hS => ?_)
  obtain ⟨ad, sd, hd, md, rd, be, beD, er, inp, otp, tc, fc, on, ze, ou, wd, lo, up, hc, sa, sv, ab, tr, rt, kn, ct, bu, bl, tu, tl, bd, bm, d0, d1, d2, d3, d4, d5⟩ := u5
  obtain ⟨e5, h⟩ := h
  have e5 : ad 0 = q5 := e5
  subst e5
  have hP : va_P G.1 vwCl (wP G ad sd hd md rd be er ++ (wS G sd inp otp tc fc on ze ou wd lo up ++ (wH G hd hc sa sv ++ (wD G md ab ++ (wR G rd tr rt ++ (wB G be beD kn ct bu bl tu tl bd bm d0 d1 d2 d3 d4 d5)))))) H := hP
  have hD : va_D (fun q : Nat => s.heap.size ≤ q) (wP G ad sd hd md rd be er ++ (wS G sd inp otp tc fc on ze ou wd lo up ++ (wH G hd hc sa sv ++ (wD G md ab ++ (wR G rd tr rt ++ (wB G be beD kn ct bu bl tu tl bd bm d0 d1 d2 d3 d4 d5)))))) := hD
  try dsimp only at h
  refine W.widen (k := 71) (n := 592) (by omega) (by omega) ?_
  refine lv_astore_n (lv' := [(1, .ref (ad 0)), (0, .ref b)]) hx hb dL_law_7 rfl hl (by decide) rfl (fun ls hl => ?_)
  refine va_new (ci := 6) (fs := [.null, .null, .int 0, .null, .null, .null, .null, .null, .int 0, .long 0]) (C := RX6) (T := TX6) (N := 10) hx hb hts inlX6 tyX6 tyX6_ok hown (hts (.classLink RL 10 RX6) (List.mem_of_getElem? (i := 3) rfl)) (hts (.instantiable RX6 10) (List.mem_of_getElem? (i := 4) rfl)) (hts (.initialized RX6) (List.mem_of_getElem? (i := 5) rfl)) hK.1 hP hD hS hA rfl (fun j hj => by rcases (show j = 0 ∨ j = 1 ∨ j = 2 ∨ j = 3 ∨ j = 4 ∨ j = 5 ∨ j = 6 ∨ j = 7 ∨ j = 8 ∨ j = 9 by omega) with rfl | rfl | rfl | rfl | rfl | rfl | rfl | rfl | rfl | rfl <;> rfl) (Nat.le_of_ble_eq_true rfl) (Nat.le_of_ble_eq_true rfl) dL_law_8 (fun q6 H hP0 hD0 hS => ?_)
  refine W.widen (k := 72) (n := 602) (by omega) (by omega) ?_
  refine lv_dup hx hb dL_law_11 rfl ?_
  refine kp_c (wr := wP G ad sd hd md rd be er ++ (wS G sd inp otp tc fc on ze ou wd lo up ++ (wH G hd hc sa sv ++ (wD G md ab ++ (wR G rd tr rt ++ (wB G be beD kn ct bu bl tu tl bd bm d0 d1 d2 d3 d4 d5)))))) (va_runI (As := []) (rest := [.ref q6]) ⟨hx, hb, hml, hown, hts⟩ (c_X6_init l G q6 _ h) (cwI 0 hts gL_law_X6_init rfl rfl rfl (hts (.initialized RX6) (List.mem_of_getElem? (i := 5) rfl)) (hts (.methodLink RL 12 yX6_init) (List.mem_of_getElem? (i := 80) rfl)) (hts (.instanceMethod yX6_init) (List.mem_of_getElem? (i := 81) rfl)) rfl (by decide +kernel) ⟨Nat.le_of_ble_eq_true rfl, Nat.le_of_ble_eq_true rfl⟩) (kpKp hK hO hP0 hD0 hZ hS hA (List.Perm.refl _)) rfl rfl hl.1 rfl (lv_room (Nat.le_of_ble_eq_true rfl)) dL_law_12 ⟨Nat.le_of_ble_eq_true rfl, Nat.le_of_ble_eq_true rfl⟩) hP0 hD0 hS hA (List.Perm.refl _) (fun u6 H locs h hP hD hS => ?_)
  obtain ⟨cad, nw, ps, er2, us, un, od, li, st, lm, hs⟩ := u6
  obtain ⟨e6, h⟩ := h
  have e6 : cad 0 = q6 := e6
  subst e6
  have hP : va_P G.1 vwCl ((wP G ad sd hd md rd be er ++ (wS G sd inp otp tc fc on ze ou wd lo up ++ (wH G hd hc sa sv ++ (wD G md ab ++ (wR G rd tr rt ++ (wB G be beD kn ct bu bl tu tl bd bm d0 d1 d2 d3 d4 d5)))))) ++ wM G cad nw ps er2 us un od li st lm hs) H := hP
  have hD : va_D (fun q : Nat => s.heap.size ≤ q) ((wP G ad sd hd md rd be er ++ (wS G sd inp otp tc fc on ze ou wd lo up ++ (wH G hd hc sa sv ++ (wD G md ab ++ (wR G rd tr rt ++ (wB G be beD kn ct bu bl tu tl bd bm d0 d1 d2 d3 d4 d5)))))) ++ wM G cad nw ps er2 us un od li st lm hs) := hD
  try dsimp only at h
  refine W.widen (k := 600000) (n := 7302249) (Nat.le_of_ble_eq_true rfl) (Nat.le_of_ble_eq_true rfl) ?_
  refine lv_astore_n (lv' := [(2, .ref (cad 0)), (1, .ref (ad 0)), (0, .ref b)]) hx hb dL_law_15 rfl hl (by decide) rfl (fun ls hl => ?_)
  refine lv_iconst (v := nI 0) hx hb dL_law_16 (by decide) ?_
  refine lv_istore_n (lv' := [(3, .int (nI 0)), (2, .ref (cad 0)), (1, .ref (ad 0)), (0, .ref b)]) hx hb dL_law_17 rfl hl (by decide) rfl (fun ls hl => ?_)
  exact law_loop ⟨hx, hb, hml, hown, hts, hX, hbl, hbA, hK, hZ, hA⟩ (fun _ h => h) hr hlocks hL (L + 1) 0 (by decide) (by omega) H locs ls ⟨er, inp, otp, tc, fc, on, ze, ou, wd, lo, up, hc, sa, sv, ab, tr, rt, kn, ct, bu, bl, tu, tl, bd, bm, d0, d1, d2, d3, d4, d5, nw, ps, er2, us, un, od, li, st, lm, hs, h, hP, hD, hS⟩ hl
