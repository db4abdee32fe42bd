def wp_X5_uses (a1 : Int32) (er : Nat → Int32) (inp : Int32) (otp : Int32) (tc : Int32) (on : Nat → Int32) (ze : Nat → Int32) (ou : Nat → Int32) (K : Int32 → (Nat → Int32) → Prop) : Prop :=
 wp_X4_hasColumn a1 inp otp (fun (r1 : Int32) => ((¬ r1 = 0 → wp_X4_termsOfColumn a1 tc on ze ou (fun (r3 : Int32) => K r3 er)) ∧
 (r1 = 0 → wp_X5_fail (-2 : Int32) er (fun (r5 : Int32) (u6 : Nat → Int32) => K r5 u6))))
abbrev rm_X5_uses : Room := { frames := 2, cells := 0, slots := 0, locals := 45 }
set_option maxHeartbeats 4000000 in
set_option maxRecDepth 100000 in
theorem c_X5_uses (l : Launch) (G : GG) (ad : Nat → Nat) (sd : Nat → Nat) (hd : Nat → Nat) (md : Nat → Nat) (rd : Nat → Nat) (be : Nat → Nat) (beD : Nat → Nat → Nat) (sz : Nat) (er : Nat → Int32) (inp : Int32) (otp : Int32) (tc : Int32) (fc : Int32) (on : Nat → Int32) (ze : Nat → Int32) (ou : Nat → Int32) (wd : Nat → Int64) (lo : Nat → Int32) (up : Nat → Int32) (hc : Int32) (sa : Nat → Nat → Nat) (sv : Nat → SS) (ab : Nat → Int32) (tr : Nat → Int32) (rt : Nat → Int32) (kn : Int32) (ct : Int32) (bu : Nat → Int32) (bl : Nat → Int32) (tu : Nat → Int32) (tl : Nat → Int32) (bd : Nat → Int32) (bm : Nat → Int32) (d0 : Nat → Int32) (d1 : Nat → Int32) (d2 : Nat → Int32) (d3 : Nat → Int32) (d4 : Nat → Int32) (d5 : Nat → Int32) (a1 : Int32) {K : Int32 → (Nat → Int32) → Prop} (h : wp_X5_uses a1 er inp otp tc on ze ou K) : CI l yX5_uses wsX5_uses rm_X5_uses G [.ref (ad 0), .int a1] (wP G ad sd hd md rd be er ++ (wS G sd inp otp tc fc on ze ou wd lo up ++ (wH G hd hc sa sv ++ (wD G md ab ++ (wR G rd tr rt ++ (wB G be beD kn ct bu bl tu tl bd bm d0 d1 d2 d3 d4 d5)))))) sz (fun u : (Nat → Int32) => wP G ad sd hd md rd be u ++ (wS G sd inp otp tc fc on ze ou wd lo up ++ (wH G hd hc sa sv ++ (wD G md ab ++ (wR G rd tr rt ++ (wB G be beD kn ct bu bl tu tl bd bm d0 d1 d2 d3 d4 d5)))))) (fun r u => K r u) := by
  refine Met.ofW (cc := cX5_uses) (maxL := 2) (ret := (some .int)) (by decide) rfl ?_
  intro p e s m args below meth c s₁ B hml hv
  obtain ⟨rfl, hsz, hP, hK, hD0, hZ⟩ := hv
  have hx := B.exec
  have hb := B.bytes
  have hr := B.returns
  have hts := atoms_spec (ws := wsX5_uses) B.pre
  have hown : s.vm.findClass RX5 = some m.cls := findClass_of_methodNamed B.named
  have hlocks := B.notSynchronized
  subst hsz
  have hD := hD0.self (sz := s.heap.size)
  generalize hAe : va_A (wP G ad sd hd md rd be er ++ (wS G sd inp otp tc fc on ze ou wd lo up ++ (wH G hd hc sa sv ++ (wD G md ab ++ (wR G rd tr rt ++ (wB G be beD kn ct bu bl tu tl bd bm d0 d1 d2 d3 d4 d5)))))) s.heap.size = A at hD hZ ⊢
  have hA : ∀ q : Nat, s.heap.size ≤ q → A q := fun q h => by rw [← hAe]; exact Or.inr h
  have hS : va_S A s.heap s.heap [] := va_S.rf
  have hl := lv_entry ([.ref (ad 0), .int a1]) (n := 2) (Nat.le_of_ble_eq_true rfl)
  rw [lg_entry_eq]
  generalize (lg_sl ([.ref (ad 0), .int a1]) ++ List.replicate (2 - (lg_sl ([.ref (ad 0), .int a1])).length) Slot.unset).toArray = ls at hl ⊢
  have hl : lv_has ls 2 [(0, .ref (ad 0)), (1, .int a1)] := hl
  unfold wp_X5_uses at h
  have hinX5 : ∀ w ∈ wsX50, w ∈ wsX5_uses := by decide +kernel
  refine lv_aload_n hx hb dX5_uses_0 rfl (lv_at hl 0 rfl) ?_
  refine va_get (D := G.1) (ci := 5) (v := .ref (sd 0)) (C := RX5) (T := TX5) (N := 6) hx hb hts hinX5 hown hK.1 hP.l 0 rfl rfl 0 (by decide) (hts (.fieldLink RX5 12 "PlaFolder" "state" "LPlaFolder$State;") (by decide +kernel)) (fun _ h9 => h9) rfl dX5_uses_1 ?_
  refine lv_iload_n hx hb dX5_uses_4 rfl (lv_at hl 1 rfl) ?_
  refine kp_i (wr := wP G ad sd hd md rd be er ++ (wH G hd hc sa sv ++ (wD G md ab ++ (wR G rd tr rt ++ (wB G be beD kn ct bu bl tu tl bd bm d0 d1 d2 d3 d4 d5))))) (va_runVN (As := [.int a1]) (rest := []) ⟨hx, hb, hml, hown, hts⟩ (c_X4_hasColumn l G sd _ inp otp tc fc on ze ou wd lo up a1 h) ⟨va_cnB 1 hts gX5_uses_X4_hasColumn_n119 rfl rfl rfl (hK.2.M 23 (q := ("PlaFolder", 119, ⟨"PlaFolder$State", "hasColumn", "(I)Z"⟩, "PlaFolder")) rfl) (hts (.initialized RX4) (by decide +kernel)) (by decide +kernel) ⟨Nat.le_of_ble_eq_true rfl, Nat.le_of_ble_eq_true rfl⟩, hts (.instanceMethod yX4_hasColumn) (by decide +kernel), hts (.selects RX4 yX4_hasColumn yX4_hasColumn) (by decide +kernel)⟩ (kpVp hK hP hD hZ hS hA (pm6_02345_1 (wP G ad sd hd md rd be er) (wS G sd inp otp tc fc on ze ou wd lo up) (wH G hd hc sa sv) (wD G md ab) (wR G rd tr rt) (wB G be beD kn ct bu bl tu tl bd bm d0 d1 d2 d3 d4 d5)) (q0 := 0) (ci := 4) rfl rfl) rfl rfl hl.1 rfl (lv_room (Nat.le_of_ble_eq_true rfl)) dX5_uses_5 ⟨Nat.zero_le _, Nat.zero_le _⟩) hP hD hS hA (pm6_02345_1 (wP G ad sd hd md rd be er) (wS G sd inp otp tc fc on ze ou wd lo up) (wH G hd hc sa sv) (wD G md ab) (wR G rd tr rt) (wB G be beD kn ct bu bl tu tl bd bm d0 d1 d2 d3 d4 d5)) (fun r1 w8 H locs h hP hD hS => ?_)
  have hP : va_P G.1 vwCl (wP G ad sd hd md rd be er ++ (wS G sd inp otp tc fc on ze ou wd lo up ++ (wH G hd hc sa sv ++ (wD G md ab ++ (wR G rd tr rt ++ (wB G be beD kn ct bu bl tu tl bd bm d0 d1 d2 d3 d4 d5)))))) H := hP.perm (pm6_02345_1 (wP G ad sd hd md rd be er) (wS G sd inp otp tc fc on ze ou wd lo up) (wH G hd hc sa sv) (wD G md ab) (wR G rd tr rt) (wB G be beD kn ct bu bl tu tl bd bm d0 d1 d2 d3 d4 d5)).symm
  have hD : va_D A (wP G ad sd hd md rd be er ++ (wS G sd inp otp tc fc on ze ou wd lo up ++ (wH G hd hc sa sv ++ (wD G md ab ++ (wR G rd tr rt ++ (wB G be beD kn ct bu bl tu tl bd bm d0 d1 d2 d3 d4 d5)))))) := hD.perm (pm6_02345_1 (wP G ad sd hd md rd be er) (wS G sd inp otp tc fc on ze ou wd lo up) (wH G hd hc sa sv) (wD G md ab) (wR G rd tr rt) (wB G be beD kn ct bu bl tu tl bd bm d0 d1 d2 d3 d4 d5)).symm
  try dsimp only at h
  refine lv_if_ne (tgt := 18) hx hb dX5_uses_8 (by decide) (fun c_2 => ?_) (fun c_2 => ?_)
  · have h := h.1 c_2
    refine lv_aload_n hx hb dX5_uses_18 rfl (lv_at hl 0 rfl) ?_
    refine va_get (D := G.1) (ci := 5) (v := .ref (sd 0)) (C := RX5) (T := TX5) (N := 6) hx hb hts hinX5 hown hK.1 hP.l 0 rfl rfl 0 (by decide) (hts (.fieldLink RX5 12 "PlaFolder" "state" "LPlaFolder$State;") (by decide +kernel)) (fun _ h9 => h9) rfl dX5_uses_19 ?_
    refine lv_iload_n hx hb dX5_uses_22 rfl (lv_at hl 1 rfl) ?_
    refine kp_i (wr := wP G ad sd hd md rd be er ++ (wH G hd hc sa sv ++ (wD G md ab ++ (wR G rd tr rt ++ (wB G be beD kn ct bu bl tu tl bd bm d0 d1 d2 d3 d4 d5))))) (va_runVN (As := [.int a1]) (rest := []) ⟨hx, hb, hml, hown, hts⟩ (c_X4_termsOfColumn l G sd _ inp otp tc fc on ze ou wd lo up a1 h) ⟨va_cnB 1 hts gX5_uses_X4_termsOfColumn_n122 rfl rfl rfl (hK.2.M 24 (q := ("PlaFolder", 122, ⟨"PlaFolder$State", "termsOfColumn", "(I)I"⟩, "PlaFolder")) rfl) (hts (.initialized RX4) (by decide +kernel)) (by decide +kernel) ⟨Nat.le_of_ble_eq_true rfl, Nat.le_of_ble_eq_true rfl⟩, hts (.instanceMethod yX4_termsOfColumn) (by decide +kernel), hts (.selects RX4 yX4_termsOfColumn yX4_termsOfColumn) (by decide +kernel)⟩ (kpVp hK hP hD hZ hS hA (pm6_02345_1 (wP G ad sd hd md rd be er) (wS G sd inp otp tc fc on ze ou wd lo up) (wH G hd hc sa sv) (wD G md ab) (wR G rd tr rt) (wB G be beD kn ct bu bl tu tl bd bm d0 d1 d2 d3 d4 d5)) (q0 := 0) (ci := 4) rfl rfl) rfl rfl hl.1 rfl (lv_room (Nat.le_of_ble_eq_true rfl)) dX5_uses_23 ⟨Nat.zero_le _, Nat.zero_le _⟩) hP hD hS hA (pm6_02345_1 (wP G ad sd hd md rd be er) (wS G sd inp otp tc fc on ze ou wd lo up) (wH G hd hc sa sv) (wD G md ab) (wR G rd tr rt) (wB G be beD kn ct bu bl tu tl bd bm d0 d1 d2 d3 d4 d5)) (fun r3 w4 H locs h hP hD hS => ?_)
    have hP : va_P G.1 vwCl (wP G ad sd hd md rd be er ++ (wS G sd inp otp tc fc on ze ou wd lo up ++ (wH G hd hc sa sv ++ (wD G md ab ++ (wR G rd tr rt ++ (wB G be beD kn ct bu bl tu tl bd bm d0 d1 d2 d3 d4 d5)))))) H := hP.perm (pm6_02345_1 (wP G ad sd hd md rd be er) (wS G sd inp otp tc fc on ze ou wd lo up) (wH G hd hc sa sv) (wD G md ab) (wR G rd tr rt) (wB G be beD kn ct bu bl tu tl bd bm d0 d1 d2 d3 d4 d5)).symm
    have hD : va_D A (wP G ad sd hd md rd be er ++ (wS G sd inp otp tc fc on ze ou wd lo up ++ (wH G hd hc sa sv ++ (wD G md ab ++ (wR G rd tr rt ++ (wB G be beD kn ct bu bl tu tl bd bm d0 d1 d2 d3 d4 d5)))))) := hD.perm (pm6_02345_1 (wP G ad sd hd md rd be er) (wS G sd inp otp tc fc on ze ou wd lo up) (wH G hd hc sa sv) (wD G md ab) (wR G rd tr rt) (wB G be beD kn ct bu bl tu tl bd bm d0 d1 d2 d3 d4 d5)).symm
    try dsimp only at h
    exact W.iret hx hb hr (fun t ht hW => ⟨⟨_, er, rfl, h, by rw [ht]; exact hP, hD⟩, hS.F ht⟩) hS.2.2 dX5_uses_26
  · have h := h.2 c_2
    refine lv_aload_n hx hb dX5_uses_11 rfl (lv_at hl 0 rfl) ?_
    refine lv_bipush (v := (-2 : Int32)) hx hb dX5_uses_12 (by decide) ?_
    refine kp_i (wr := ([] : va_W)) (va_runV (As := [.int (-2 : Int32)]) (rest := []) ⟨hx, hb, hml, hown, hts⟩ (c_X5_fail l G ad sd hd md rd be beD _ er inp otp tc fc on ze ou wd lo up hc sa sv ab tr rt kn ct bu bl tu tl bd bm d0 d1 d2 d3 d4 d5 (-2 : Int32) h) (cwV 1 hts gX5_uses_X5_fail rfl rfl rfl (by decide +kernel) ⟨Nat.le_of_ble_eq_true rfl, Nat.le_of_ble_eq_true rfl⟩) (kpVp hK hP hD hZ hS hA (pm_all _) (q0 := 0) (ci := 5) rfl rfl) rfl rfl hl.1 rfl (lv_room (Nat.le_of_ble_eq_true rfl)) dX5_uses_14 ⟨Nat.zero_le _, Nat.zero_le _⟩) hP hD hS hA (pm_all _) (fun r5 w7 H locs h hP hD hS => ?_)
    obtain ⟨u6, rfl⟩ : ∃ z, z = w7 := ⟨_, rfl⟩
    have hP : va_P G.1 vwCl (wP G ad sd hd md rd be u6 ++ (wS G sd inp otp tc fc on ze ou wd lo up ++ (wH G hd hc sa sv ++ (wD G md ab ++ (wR G rd tr rt ++ (wB G be beD kn ct bu bl tu tl bd bm d0 d1 d2 d3 d4 d5)))))) H := hP.perm (pm_all _).symm
    have hD : va_D A (wP G ad sd hd md rd be u6 ++ (wS G sd inp otp tc fc on ze ou wd lo up ++ (wH G hd hc sa sv ++ (wD G md ab ++ (wR G rd tr rt ++ (wB G be beD kn ct bu bl tu tl bd bm d0 d1 d2 d3 d4 d5)))))) := hD.perm (pm_all _).symm
    try dsimp only at h
    exact W.iret hx hb hr (fun t ht hW => ⟨⟨_, u6, rfl, h, by rw [ht]; exact hP, hD⟩, hS.F ht⟩) hS.2.2 dX5_uses_17
def wp_X5_canFold (a1 : Int32) (a2 : Int32) (er : Nat → Int32) (inp : Int32) (otp : Int32) (tc : Int32) (on : Nat → Int32) (ze : Nat → Int32) (ou : Nat → Int32) (K : Int32 → (Nat → Int32) → Prop) : Prop :=
 wp_X4_hasColumn a1 inp otp (fun (r1 : Int32) => ((r1 = 0 → wp_X5_fail (-2 : Int32) er (fun (r3 : Int32) (u4 : Nat → Int32) => K r3 u4)) ∧
 (¬ (r1 = 0) → wp_X4_hasColumn a2 inp otp (fun (r6 : Int32) => ((¬ r6 = 0 → wp_X4_isPair a1 a2 tc on ze ou (fun (r8 : Int32) => wp_X5_flag r8 (fun (r9 : Int32) => K r9 er))) ∧
 (r6 = 0 → wp_X5_fail (-2 : Int32) er (fun (r12 : Int32) (u13 : Nat → Int32) => K r12 u13)))))))
abbrev rm_X5_canFold : Room := { frames := 3, cells := 0, slots := 0, locals := 68 }
set_option maxHeartbeats 4000000 in
set_option maxRecDepth 100000 in
theorem c_X5_canFold (l : Launch) (G : GG) (ad : Nat → Nat) (sd : Nat → Nat) (hd : Nat → Nat) (md : Nat → Nat) (rd : Nat → Nat) (be : Nat → Nat) (beD : Nat → Nat → Nat) (sz : Nat) (er : Nat → Int32) (inp : Int32) (otp : Int32) (tc : Int32) (fc : Int32) (on : Nat → Int32) (ze : Nat → Int32) (ou : Nat → Int32) (wd : Nat → Int64) (lo : Nat → Int32) (up : Nat → Int32) (hc : Int32) (sa : Nat → Nat → Nat) (sv : Nat → SS) (ab : Nat → Int32) (tr : Nat → Int32) (rt : Nat → Int32) (kn : Int32) (ct : Int32) (bu : Nat → Int32) (bl : Nat → Int32) (tu : Nat → Int32) (tl : Nat → Int32) (bd : Nat → Int32) (bm : Nat → Int32) (d0 : Nat → Int32) (d1 : Nat → Int32) (d2 : Nat → Int32) (d3 : Nat → Int32) (d4 : Nat → Int32) (d5 : Nat → Int32) (a1 : Int32) (a2 : Int32) {K : Int32 → (Nat → Int32) → Prop} (h : wp_X5_canFold a1 a2 er inp otp tc on ze ou K) : CI l yX5_canFold wsX5_canFold rm_X5_canFold G [.ref (ad 0), .int a1, .int a2] (wP G ad sd hd md rd be er ++ (wS G sd inp otp tc fc on ze ou wd lo up ++ (wH G hd hc sa sv ++ (wD G md ab ++ (wR G rd tr rt ++ (wB G be beD kn ct bu bl tu tl bd bm d0 d1 d2 d3 d4 d5)))))) sz (fun u : (Nat → Int32) => wP G ad sd hd md rd be u ++ (wS G sd inp otp tc fc on ze ou wd lo up ++ (wH G hd hc sa sv ++ (wD G md ab ++ (wR G rd tr rt ++ (wB G be beD kn ct bu bl tu tl bd bm d0 d1 d2 d3 d4 d5)))))) (fun r u => K r u) := by
  refine Met.ofW (cc := cX5_canFold) (maxL := 3) (ret := (some .int)) (by decide) rfl ?_
  intro p e s m args below meth c s₁ B hml hv
  obtain ⟨rfl, hsz, hP, hK, hD0, hZ⟩ := hv
  have hx := B.exec
  have hb := B.bytes
  have hr := B.returns
  have hts := atoms_spec (ws := wsX5_canFold) B.pre
  have hown : s.vm.findClass RX5 = some m.cls := findClass_of_methodNamed B.named
  have hlocks := B.notSynchronized
  subst hsz
  have hD := hD0.self (sz := s.heap.size)
  generalize hAe : va_A (wP G ad sd hd md rd be er ++ (wS G sd inp otp tc fc on ze ou wd lo up ++ (wH G hd hc sa sv ++ (wD G md ab ++ (wR G rd tr rt ++ (wB G be beD kn ct bu bl tu tl bd bm d0 d1 d2 d3 d4 d5)))))) s.heap.size = A at hD hZ ⊢
  have hA : ∀ q : Nat, s.heap.size ≤ q → A q := fun q h => by rw [← hAe]; exact Or.inr h
  have hS : va_S A s.heap s.heap [] := va_S.rf
  have hl := lv_entry ([.ref (ad 0), .int a1, .int a2]) (n := 3) (Nat.le_of_ble_eq_true rfl)
  rw [lg_entry_eq]
  generalize (lg_sl ([.ref (ad 0), .int a1, .int a2]) ++ List.replicate (3 - (lg_sl ([.ref (ad 0), .int a1, .int a2])).length) Slot.unset).toArray = ls at hl ⊢
  have hl : lv_has ls 3 [(0, .ref (ad 0)), (1, .int a1), (2, .int a2)] := hl
  unfold wp_X5_canFold at h
  have hinX5 : ∀ w ∈ wsX50, w ∈ wsX5_canFold := by decide +kernel
  refine lv_aload_n hx hb dX5_canFold_0 rfl (lv_at hl 0 rfl) ?_
  refine va_get (D := G.1) (ci := 5) (v := .ref (sd 0)) (C := RX5) (T := TX5) (N := 6) hx hb hts hinX5 hown hK.1 hP.l 0 rfl rfl 0 (by decide) (hts (.fieldLink RX5 12 "PlaFolder" "state" "LPlaFolder$State;") (by decide +kernel)) (fun _ h9 => h9) rfl dX5_canFold_1 ?_
  refine lv_iload_n hx hb dX5_canFold_4 rfl (lv_at hl 1 rfl) ?_
  refine kp_i (wr := wP G ad sd hd md rd be er ++ (wH G hd hc sa sv ++ (wD G md ab ++ (wR G rd tr rt ++ (wB G be beD kn ct bu bl tu tl bd bm d0 d1 d2 d3 d4 d5))))) (va_runVN (As := [.int a1]) (rest := []) ⟨hx, hb, hml, hown, hts⟩ (c_X4_hasColumn l G sd _ inp otp tc fc on ze ou wd lo up a1 h) ⟨va_cnB 1 hts gX5_canFold_X4_hasColumn_n119 rfl rfl rfl (hK.2.M 23 (q := ("PlaFolder", 119, ⟨"PlaFolder$State", "hasColumn", "(I)Z"⟩, "PlaFolder")) rfl) (hts (.initialized RX4) (by decide +kernel)) (by decide +kernel) ⟨Nat.le_of_ble_eq_true rfl, Nat.le_of_ble_eq_true rfl⟩, hts (.instanceMethod yX4_hasColumn) (by decide +kernel), hts (.selects RX4 yX4_hasColumn yX4_hasColumn) (by decide +kernel)⟩ (kpVp hK hP hD hZ hS hA (pm6_02345_1 (wP G ad sd hd md rd be er) (wS G sd inp otp tc fc on ze ou wd lo up) (wH G hd hc sa sv) (wD G md ab) (wR G rd tr rt) (wB G be beD kn ct bu bl tu tl bd bm d0 d1 d2 d3 d4 d5)) (q0 := 0) (ci := 4) rfl rfl) rfl rfl hl.1 rfl (lv_room (Nat.le_of_ble_eq_true rfl)) dX5_canFold_5 ⟨Nat.zero_le _, Nat.zero_le _⟩) hP hD hS hA (pm6_02345_1 (wP G ad sd hd md rd be er) (wS G sd inp otp tc fc on ze ou wd lo up) (wH G hd hc sa sv) (wD G md ab) (wR G rd tr rt) (wB G be beD kn ct bu bl tu tl bd bm d0 d1 d2 d3 d4 d5)) (fun r1 w16 H locs h hP hD hS => ?_)
  have hP : va_P G.1 vwCl (wP G ad sd hd md rd be er ++ (wS G sd inp otp tc fc on ze ou wd lo up ++ (wH G hd hc sa sv ++ (wD G md ab ++ (wR G rd tr rt ++ (wB G be beD kn ct bu bl tu tl bd bm d0 d1 d2 d3 d4 d5)))))) H := hP.perm (pm6_02345_1 (wP G ad sd hd md rd be er) (wS G sd inp otp tc fc on ze ou wd lo up) (wH G hd hc sa sv) (wD G md ab) (wR G rd tr rt) (wB G be beD kn ct bu bl tu tl bd bm d0 d1 d2 d3 d4 d5)).symm
  have hD : va_D A (wP G ad sd hd md rd be er ++ (wS G sd inp otp tc fc on ze ou wd lo up ++ (wH G hd hc sa sv ++ (wD G md ab ++ (wR G rd tr rt ++ (wB G be beD kn ct bu bl tu tl bd bm d0 d1 d2 d3 d4 d5)))))) := hD.perm (pm6_02345_1 (wP G ad sd hd md rd be er) (wS G sd inp otp tc fc on ze ou wd lo up) (wH G hd hc sa sv) (wD G md ab) (wR G rd tr rt) (wB G be beD kn ct bu bl tu tl bd bm d0 d1 d2 d3 d4 d5)).symm
  try dsimp only at h
  refine lv_if_eq (tgt := 22) hx hb dX5_canFold_8 (by decide) (fun c_2 => ?_) (fun c_2 => ?_)
  · have h := h.1 c_2
    refine lv_aload_n hx hb dX5_canFold_22 rfl (lv_at hl 0 rfl) ?_
    refine lv_bipush (v := (-2 : Int32)) hx hb dX5_canFold_23 (by decide) ?_
    refine kp_i (wr := ([] : va_W)) (va_runV (As := [.int (-2 : Int32)]) (rest := []) ⟨hx, hb, hml, hown, hts⟩ (c_X5_fail l G ad sd hd md rd be beD _ er inp otp tc fc on ze ou wd lo up hc sa sv ab tr rt kn ct bu bl tu tl bd bm d0 d1 d2 d3 d4 d5 (-2 : Int32) h) (cwV 1 hts gX5_canFold_X5_fail rfl rfl rfl (by decide +kernel) ⟨Nat.le_of_ble_eq_true rfl, Nat.le_of_ble_eq_true rfl⟩) (kpVp hK hP hD hZ hS hA (pm_all _) (q0 := 0) (ci := 5) rfl rfl) rfl rfl hl.1 rfl (lv_room (Nat.le_of_ble_eq_true rfl)) dX5_canFold_25 ⟨Nat.zero_le _, Nat.zero_le _⟩) hP hD hS hA (pm_all _) (fun r3 w5 H locs h hP hD hS => ?_)
    obtain ⟨u4, rfl⟩ : ∃ z, z = w5 := ⟨_, rfl⟩
    have hP : va_P G.1 vwCl (wP G ad sd hd md rd be u4 ++ (wS G sd inp otp tc fc on ze ou wd lo up ++ (wH G hd hc sa sv ++ (wD G md ab ++ (wR G rd tr rt ++ (wB G be beD kn ct bu bl tu tl bd bm d0 d1 d2 d3 d4 d5)))))) H := hP.perm (pm_all _).symm
    have hD : va_D A (wP G ad sd hd md rd be u4 ++ (wS G sd inp otp tc fc on ze ou wd lo up ++ (wH G hd hc sa sv ++ (wD G md ab ++ (wR G rd tr rt ++ (wB G be beD kn ct bu bl tu tl bd bm d0 d1 d2 d3 d4 d5)))))) := hD.perm (pm_all _).symm
    try dsimp only at h
    exact W.iret hx hb hr (fun t ht hW => ⟨⟨_, u4, rfl, h, by rw [ht]; exact hP, hD⟩, hS.F ht⟩) hS.2.2 dX5_canFold_28
  · have h := h.2 c_2
    refine lv_aload_n hx hb dX5_canFold_11 rfl (lv_at hl 0 rfl) ?_
    refine va_get (D := G.1) (ci := 5) (v := .ref (sd 0)) (C := RX5) (T := TX5) (N := 6) hx hb hts hinX5 hown hK.1 hP.l 0 rfl rfl 0 (by decide) (hts (.fieldLink RX5 12 "PlaFolder" "state" "LPlaFolder$State;") (by decide +kernel)) (fun _ h9 => h9) rfl dX5_canFold_12 ?_
    refine lv_iload_n hx hb dX5_canFold_15 rfl (lv_at hl 2 rfl) ?_
    refine kp_i (wr := wP G ad sd hd md rd be er ++ (wH G hd hc sa sv ++ (wD G md ab ++ (wR G rd tr rt ++ (wB G be beD kn ct bu bl tu tl bd bm d0 d1 d2 d3 d4 d5))))) (va_runVN (As := [.int a2]) (rest := []) ⟨hx, hb, hml, hown, hts⟩ (c_X4_hasColumn l G sd _ inp otp tc fc on ze ou wd lo up a2 h) ⟨va_cnB 1 hts gX5_canFold_X4_hasColumn_n119 rfl rfl rfl (hK.2.M 23 (q := ("PlaFolder", 119, ⟨"PlaFolder$State", "hasColumn", "(I)Z"⟩, "PlaFolder")) rfl) (hts (.initialized RX4) (by decide +kernel)) (by decide +kernel) ⟨Nat.le_of_ble_eq_true rfl, Nat.le_of_ble_eq_true rfl⟩, hts (.instanceMethod yX4_hasColumn) (by decide +kernel), hts (.selects RX4 yX4_hasColumn yX4_hasColumn) (by decide +kernel)⟩ (kpVp hK hP hD hZ hS hA (pm6_02345_1 (wP G ad sd hd md rd be er) (wS G sd inp otp tc fc on ze ou wd lo up) (wH G hd hc sa sv) (wD G md ab) (wR G rd tr rt) (wB G be beD kn ct bu bl tu tl bd bm d0 d1 d2 d3 d4 d5)) (q0 := 0) (ci := 4) rfl rfl) rfl rfl hl.1 rfl (lv_room (Nat.le_of_ble_eq_true rfl)) dX5_canFold_16 ⟨Nat.zero_le _, Nat.zero_le _⟩) hP hD hS hA (pm6_02345_1 (wP G ad sd hd md rd be er) (wS G sd inp otp tc fc on ze ou wd lo up) (wH G hd hc sa sv) (wD G md ab) (wR G rd tr rt) (wB G be beD kn ct bu bl tu tl bd bm d0 d1 d2 d3 d4 d5)) (fun r6 w15 H locs h hP hD hS => ?_)
    have hP : va_P G.1 vwCl (wP G ad sd hd md rd be er ++ (wS G sd inp otp tc fc on ze ou wd lo up ++ (wH G hd hc sa sv ++ (wD G md ab ++ (wR G rd tr rt ++ (wB G be beD kn ct bu bl tu tl bd bm d0 d1 d2 d3 d4 d5)))))) H := hP.perm (pm6_02345_1 (wP G ad sd hd md rd be er) (wS G sd inp otp tc fc on ze ou wd lo up) (wH G hd hc sa sv) (wD G md ab) (wR G rd tr rt) (wB G be beD kn ct bu bl tu tl bd bm d0 d1 d2 d3 d4 d5)).symm
    have hD : va_D A (wP G ad sd hd md rd be er ++ (wS G sd inp otp tc fc on ze ou wd lo up ++ (wH G hd hc sa sv ++ (wD G md ab ++ (wR G rd tr rt ++ (wB G be beD kn ct bu bl tu tl bd bm d0 d1 d2 d3 d4 d5)))))) := hD.perm (pm6_02345_1 (wP G ad sd hd md rd be er) (wS G sd inp otp tc fc on ze ou wd lo up) (wH G hd hc sa sv) (wD G md ab) (wR G rd tr rt) (wB G be beD kn ct bu bl tu tl bd bm d0 d1 d2 d3 d4 d5)).symm
    try dsimp only at h
    refine lv_if_ne (tgt := 29) hx hb dX5_canFold_19 (by decide) (fun c_7 => ?_) (fun c_7 => ?_)
    · have h := h.1 c_7
      refine lv_aload_n hx hb dX5_canFold_29 rfl (lv_at hl 0 rfl) ?_
      refine va_get (D := G.1) (ci := 5) (v := .ref (sd 0)) (C := RX5) (T := TX5) (N := 6) hx hb hts hinX5 hown hK.1 hP.l 0 rfl rfl 0 (by decide) (hts (.fieldLink RX5 12 "PlaFolder" "state" "LPlaFolder$State;") (by decide +kernel)) (fun _ h9 => h9) rfl dX5_canFold_30 ?_
      refine lv_iload_n hx hb dX5_canFold_33 rfl (lv_at hl 1 rfl) ?_
      refine lv_iload_n hx hb dX5_canFold_34 rfl (lv_at hl 2 rfl) ?_
      refine kp_i (wr := wP G ad sd hd md rd be er ++ (wH G hd hc sa sv ++ (wD G md ab ++ (wR G rd tr rt ++ (wB G be beD kn ct bu bl tu tl bd bm d0 d1 d2 d3 d4 d5))))) (va_runVN (As := [.int a1, .int a2]) (rest := []) ⟨hx, hb, hml, hown, hts⟩ (c_X4_isPair l G sd _ inp otp tc fc on ze ou wd lo up a1 a2 h) ⟨va_cnB 2 hts gX5_canFold_X4_isPair_n125 rfl rfl rfl (hK.2.M 25 (q := ("PlaFolder", 125, ⟨"PlaFolder$State", "isPair", "(II)Z"⟩, "PlaFolder")) rfl) (hts (.initialized RX4) (by decide +kernel)) (by decide +kernel) ⟨Nat.le_of_ble_eq_true rfl, Nat.le_of_ble_eq_true rfl⟩, hts (.instanceMethod yX4_isPair) (by decide +kernel), hts (.selects RX4 yX4_isPair yX4_isPair) (by decide +kernel)⟩ (kpVp hK hP hD hZ hS hA (pm6_02345_1 (wP G ad sd hd md rd be er) (wS G sd inp otp tc fc on ze ou wd lo up) (wH G hd hc sa sv) (wD G md ab) (wR G rd tr rt) (wB G be beD kn ct bu bl tu tl bd bm d0 d1 d2 d3 d4 d5)) (q0 := 0) (ci := 4) rfl rfl) rfl rfl hl.1 rfl (lv_room (Nat.le_of_ble_eq_true rfl)) dX5_canFold_35 ⟨Nat.zero_le _, Nat.zero_le _⟩) hP hD hS hA (pm6_02345_1 (wP G ad sd hd md rd be er) (wS G sd inp otp tc fc on ze ou wd lo up) (wH G hd hc sa sv) (wD G md ab) (wR G rd tr rt) (wB G be beD kn ct bu bl tu tl bd bm d0 d1 d2 d3 d4 d5)) (fun r8 w11 H locs h hP hD hS => ?_)
      have hP : va_P G.1 vwCl (wP G ad sd hd md rd be er ++ (wS G sd inp otp tc fc on ze ou wd lo up ++ (wH G hd hc sa sv ++ (wD G md ab ++ (wR G rd tr rt ++ (wB G be beD kn ct bu bl tu tl bd bm d0 d1 d2 d3 d4 d5)))))) H := hP.perm (pm6_02345_1 (wP G ad sd hd md rd be er) (wS G sd inp otp tc fc on ze ou wd lo up) (wH G hd hc sa sv) (wD G md ab) (wR G rd tr rt) (wB G be beD kn ct bu bl tu tl bd bm d0 d1 d2 d3 d4 d5)).symm
      have hD : va_D A (wP G ad sd hd md rd be er ++ (wS G sd inp otp tc fc on ze ou wd lo up ++ (wH G hd hc sa sv ++ (wD G md ab ++ (wR G rd tr rt ++ (wB G be beD kn ct bu bl tu tl bd bm d0 d1 d2 d3 d4 d5)))))) := hD.perm (pm6_02345_1 (wP G ad sd hd md rd be er) (wS G sd inp otp tc fc on ze ou wd lo up) (wH G hd hc sa sv) (wD G md ab) (wR G rd tr rt) (wB G be beD kn ct bu bl tu tl bd bm d0 d1 d2 d3 d4 d5)).symm
      try dsimp only at h
      refine kp_i (wr := wP G ad sd hd md rd be er ++ (wS G sd inp otp tc fc on ze ou wd lo up ++ (wH G hd hc sa sv ++ (wD G md ab ++ (wR G rd tr rt ++ (wB G be beD kn ct bu bl tu tl bd bm d0 d1 d2 d3 d4 d5)))))) (va_runS (As := [.int r8]) (rest := []) ⟨hx, hb, hml, hown, hts⟩ (c_X5_flag l G  _  r8 h) (va_cwS 1 hts gX5_canFold_X5_flag rfl rfl rfl (by decide +kernel) ⟨Nat.le_of_ble_eq_true rfl, Nat.le_of_ble_eq_true rfl⟩) (kpSp hK hP hD hZ hS hA (pm_nil _)) rfl rfl hl.1 rfl (lv_room (Nat.le_of_ble_eq_true rfl)) dX5_canFold_38 ⟨Nat.zero_le _, Nat.zero_le _⟩) hP hD hS hA (pm_nil _) (fun r9 w10 H locs h hP hD hS => ?_)
      have hP : va_P G.1 vwCl (wP G ad sd hd md rd be er ++ (wS G sd inp otp tc fc on ze ou wd lo up ++ (wH G hd hc sa sv ++ (wD G md ab ++ (wR G rd tr rt ++ (wB G be beD kn ct bu bl tu tl bd bm d0 d1 d2 d3 d4 d5)))))) H := hP.perm (pm_nil _).symm
      have hD : va_D A (wP G ad sd hd md rd be er ++ (wS G sd inp otp tc fc on ze ou wd lo up ++ (wH G hd hc sa sv ++ (wD G md ab ++ (wR G rd tr rt ++ (wB G be beD kn ct bu bl tu tl bd bm d0 d1 d2 d3 d4 d5)))))) := hD.perm (pm_nil _).symm
      try dsimp only at h
      exact W.iret hx hb hr (fun t ht hW => ⟨⟨_, er, rfl, h, by rw [ht]; exact hP, hD⟩, hS.F ht⟩) hS.2.2 dX5_canFold_41
    · have h := h.2 c_7
      refine lv_aload_n hx hb dX5_canFold_22 rfl (lv_at hl 0 rfl) ?_
      refine lv_bipush (v := (-2 : Int32)) hx hb dX5_canFold_23 (by decide) ?_
      refine kp_i (wr := ([] : va_W)) (va_runV (As := [.int (-2 : Int32)]) (rest := []) ⟨hx, hb, hml, hown, hts⟩ (c_X5_fail l G ad sd hd md rd be beD _ er inp otp tc fc on ze ou wd lo up hc sa sv ab tr rt kn ct bu bl tu tl bd bm d0 d1 d2 d3 d4 d5 (-2 : Int32) h) (cwV 1 hts gX5_canFold_X5_fail rfl rfl rfl (by decide +kernel) ⟨Nat.le_of_ble_eq_true rfl, Nat.le_of_ble_eq_true rfl⟩) (kpVp hK hP hD hZ hS hA (pm_all _) (q0 := 0) (ci := 5) rfl rfl) rfl rfl hl.1 rfl (lv_room (Nat.le_of_ble_eq_true rfl)) dX5_canFold_25 ⟨Nat.zero_le _, Nat.zero_le _⟩) hP hD hS hA (pm_all _) (fun r12 w14 H locs h hP hD hS => ?_)
      obtain ⟨u13, rfl⟩ : ∃ z, z = w14 := ⟨_, rfl⟩
      have hP : va_P G.1 vwCl (wP G ad sd hd md rd be u13 ++ (wS G sd inp otp tc fc on ze ou wd lo up ++ (wH G hd hc sa sv ++ (wD G md ab ++ (wR G rd tr rt ++ (wB G be beD kn ct bu bl tu tl bd bm d0 d1 d2 d3 d4 d5)))))) H := hP.perm (pm_all _).symm
      have hD : va_D A (wP G ad sd hd md rd be u13 ++ (wS G sd inp otp tc fc on ze ou wd lo up ++ (wH G hd hc sa sv ++ (wD G md ab ++ (wR G rd tr rt ++ (wB G be beD kn ct bu bl tu tl bd bm d0 d1 d2 d3 d4 d5)))))) := hD.perm (pm_all _).symm
      try dsimp only at h
      exact W.iret hx hb hr (fun t ht hW => ⟨⟨_, u13, rfl, h, by rw [ht]; exact hP, hD⟩, hS.F ht⟩) hS.2.2 dX5_canFold_28
def wp_X5_fold (a1 : Int32) (a2 : Int32) (er : Nat → Int32) (inp : Int32) (otp : Int32) (tc : Int32) (fc : Int32) (on : Nat → Int32) (ze : Nat → Int32) (ou : Nat → Int32) (wd : Nat → Int64) (lo : Nat → Int32) (up : Nat → Int32) (hc : Int32) (sa : Nat → Nat → Nat) (sv : Nat → SS) (ab : Nat → Int32) (tr : Nat → Int32) (rt : Nat → Int32) (K : Int32 → (Nat → Int32) → Int32 → (Nat → Int32) → (Nat → Int32) → Int32 → (Nat → Nat → Nat) → (Nat → SS) → (Nat → Int32) → (Nat → Int32) → (Nat → Int32) → Prop) : Prop :=
 wp_X4_hasColumn a1 inp otp (fun (r1 : Int32) => ((r1 = 0 → wp_X5_fail (-2 : Int32) er (fun (r3 : Int32) (u4 : Nat → Int32) => K r3 u4 fc lo up hc sa sv ab tr rt)) ∧
 (¬ (r1 = 0) → wp_X4_hasColumn a2 inp otp (fun (r6 : Int32) => ((¬ r6 = 0 → wp_X4_isPair a1 a2 tc on ze ou (fun (r8 : Int32) => ((r8 = 0 → wp_X5_fail (-3 : Int32) er (fun (r10 : Int32) (u11 : Nat → Int32) => K r10 u11 fc lo up hc sa sv ab tr rt)) ∧
 (¬ (r8 = 0) → wp_X4_mateOf a1 lo up (fun (r13 : Int32) => ((¬ r13 = (-1 : Int32) → wp_X5_fail (-3 : Int32) er (fun (r15 : Int32) (u16 : Nat → Int32) => K r15 u16 fc lo up hc sa sv ab tr rt)) ∧
 (r13 = (-1 : Int32) → wp_X4_mateOf a2 lo up (fun (r18 : Int32) => ((r18 = (-1 : Int32) → wp_X4_termsOfColumn a1 tc on ze ou (fun (r20 : Int32) => wp_X4_termsOfColumn a2 tc on ze ou (fun (r21 : Int32) => wp_X1_allow r20 r21 ab (fun (r22 : Int32) => ((¬ r22 = 0 → wp_X2_push hc sa sv inp otp tc fc on ze ou wd lo up (fun (u25 : Int32) (u26 : Nat → Nat → Nat) (u27 : Nat → SS) => wp_X4_join a1 a2 fc lo up (fun (u29 : Int32) (u30 : Nat → Int32) (u31 : Nat → Int32) => wp_X5_foldsChanged tc on ze ou u30 ab tr rt (fun (u33 : Nat → Int32) (u34 : Nat → Int32) (u35 : Nat → Int32) => K u29 er u29 u30 u31 u25 u26 u27 u33 u34 u35)))) ∧
 (r22 = 0 → wp_X5_fail (-4 : Int32) er (fun (r39 : Int32) (u40 : Nat → Int32) => K r39 u40 fc lo up hc sa sv ab tr rt))))))) ∧
 (¬ (r18 = (-1 : Int32)) → wp_X5_fail (-3 : Int32) er (fun (r45 : Int32) (u46 : Nat → Int32) => K r45 u46 fc lo up hc sa sv ab tr rt))))))))))) ∧
 (r6 = 0 → wp_X5_fail (-2 : Int32) er (fun (r51 : Int32) (u52 : Nat → Int32) => K r51 u52 fc lo up hc sa sv ab tr rt)))))))
abbrev rm_X5_fold : Room := { frames := 5, cells := 0, slots := 0, locals := 111 }
set_option maxHeartbeats 4000000 in
set_option maxRecDepth 100000 in
theorem c_X5_fold (l : Launch) (G : GG) (ad : Nat → Nat) (sd : Nat → Nat) (hd : Nat → Nat) (md : Nat → Nat) (rd : Nat → Nat) (be : Nat → Nat) (beD : Nat → Nat → Nat) (sz : Nat) (er : Nat → Int32) (inp : Int32) (otp : Int32) (tc : Int32) (fc : Int32) (on : Nat → Int32) (ze : Nat → Int32) (ou : Nat → Int32) (wd : Nat → Int64) (lo : Nat → Int32) (up : Nat → Int32) (hc : Int32) (sa : Nat → Nat → Nat) (sv : Nat → SS) (ab : Nat → Int32) (tr : Nat → Int32) (rt : Nat → Int32) (kn : Int32) (ct : Int32) (bu : Nat → Int32) (bl : Nat → Int32) (tu : Nat → Int32) (tl : Nat → Int32) (bd : Nat → Int32) (bm : Nat → Int32) (d0 : Nat → Int32) (d1 : Nat → Int32) (d2 : Nat → Int32) (d3 : Nat → Int32) (d4 : Nat → Int32) (d5 : Nat → Int32) (a1 : Int32) (a2 : Int32) {K : Int32 → (Nat → Int32) → Int32 → (Nat → Int32) → (Nat → Int32) → Int32 → (Nat → Nat → Nat) → (Nat → SS) → (Nat → Int32) → (Nat → Int32) → (Nat → Int32) → Prop} (h : wp_X5_fold a1 a2 er inp otp tc fc on ze ou wd lo up hc sa sv ab tr rt K) : CI l yX5_fold wsX5_fold rm_X5_fold G [.ref (ad 0), .int a1, .int a2] (wP G ad sd hd md rd be er ++ (wS G sd inp otp tc fc on ze ou wd lo up ++ (wH G hd hc sa sv ++ (wD G md ab ++ (wR G rd tr rt ++ (wB G be beD kn ct bu bl tu tl bd bm d0 d1 d2 d3 d4 d5)))))) sz (fun u : (Nat → Int32) × Int32 × (Nat → Int32) × (Nat → Int32) × Int32 × (Nat → Nat → Nat) × (Nat → SS) × (Nat → Int32) × (Nat → Int32) × (Nat → Int32) => wP G ad sd hd md rd be u.1 ++ (wS G sd inp otp tc u.2.1 on ze ou wd u.2.2.1 u.2.2.2.1 ++ (wH G hd u.2.2.2.2.1 u.2.2.2.2.2.1 u.2.2.2.2.2.2.1 ++ (wD G md u.2.2.2.2.2.2.2.1 ++ (wR G rd u.2.2.2.2.2.2.2.2.1 u.2.2.2.2.2.2.2.2.2 ++ (wB G be beD kn ct bu bl tu tl bd bm d0 d1 d2 d3 d4 d5)))))) (fun r u => K r u.1 u.2.1 u.2.2.1 u.2.2.2.1 u.2.2.2.2.1 u.2.2.2.2.2.1 u.2.2.2.2.2.2.1 u.2.2.2.2.2.2.2.1 u.2.2.2.2.2.2.2.2.1 u.2.2.2.2.2.2.2.2.2) := by
  refine Met.ofW (cc := cX5_fold) (maxL := 3) (ret := (some .int)) (by decide) rfl ?_
  intro p e s m args below meth c s₁ B hml hv
  obtain ⟨rfl, hsz, hP, hK, hD0, hZ⟩ := hv
  have hx := B.exec
  have hb := B.bytes
  have hr := B.returns
  have hts := atoms_spec (ws := wsX5_fold) B.pre
  have hown : s.vm.findClass RX5 = some m.cls := findClass_of_methodNamed B.named
  have hlocks := B.notSynchronized
  subst hsz
  have hD := hD0.self (sz := s.heap.size)
  generalize hAe : va_A (wP G ad sd hd md rd be er ++ (wS G sd inp otp tc fc on ze ou wd lo up ++ (wH G hd hc sa sv ++ (wD G md ab ++ (wR G rd tr rt ++ (wB G be beD kn ct bu bl tu tl bd bm d0 d1 d2 d3 d4 d5)))))) s.heap.size = A at hD hZ ⊢
  have hA : ∀ q : Nat, s.heap.size ≤ q → A q := fun q h => by rw [← hAe]; exact Or.inr h
  have hS : va_S A s.heap s.heap [] := va_S.rf
  have hl := lv_entry ([.ref (ad 0), .int a1, .int a2]) (n := 3) (Nat.le_of_ble_eq_true rfl)
  rw [lg_entry_eq]
  generalize (lg_sl ([.ref (ad 0), .int a1, .int a2]) ++ List.replicate (3 - (lg_sl ([.ref (ad 0), .int a1, .int a2])).length) Slot.unset).toArray = ls at hl ⊢
  have hl : lv_has ls 3 [(0, .ref (ad 0)), (1, .int a1), (2, .int a2)] := hl
  unfold wp_X5_fold at h
  have hinX4 : ∀ w ∈ wsX40, w ∈ wsX5_fold := by decide +kernel
  have hinX5 : ∀ w ∈ wsX50, w ∈ wsX5_fold := by decide +kernel
  refine lv_aload_n hx hb dX5_fold_0 rfl (lv_at hl 0 rfl) ?_
  refine va_get (D := G.1) (ci := 5) (v := .ref (sd 0)) (C := RX5) (T := TX5) (N := 6) hx hb hts hinX5 hown hK.1 hP.l 0 rfl rfl 0 (by decide) (hts (.fieldLink RX5 12 "PlaFolder" "state" "LPlaFolder$State;") (by decide +kernel)) (fun _ h9 => h9) rfl dX5_fold_1 ?_
  refine lv_iload_n hx hb dX5_fold_4 rfl (lv_at hl 1 rfl) ?_
  refine kp_i (wr := wP G ad sd hd md rd be er ++ (wH G hd hc sa sv ++ (wD G md ab ++ (wR G rd tr rt ++ (wB G be beD kn ct bu bl tu tl bd bm d0 d1 d2 d3 d4 d5))))) (va_runVN (As := [.int a1]) (rest := []) ⟨hx, hb, hml, hown, hts⟩ (c_X4_hasColumn l G sd _ inp otp tc fc on ze ou wd lo up a1 h) ⟨va_cnB 1 hts gX5_fold_X4_hasColumn_n119 rfl rfl rfl (hK.2.M 23 (q := ("PlaFolder", 119, ⟨"PlaFolder$State", "hasColumn", "(I)Z"⟩, "PlaFolder")) rfl) (hts (.initialized RX4) (by decide +kernel)) (by decide +kernel) ⟨Nat.le_of_ble_eq_true rfl, Nat.le_of_ble_eq_true rfl⟩, hts (.instanceMethod yX4_hasColumn) (by decide +kernel), hts (.selects RX4 yX4_hasColumn yX4_hasColumn) (by decide +kernel)⟩ (kpVp hK hP hD hZ hS hA (pm6_02345_1 (wP G ad sd hd md rd be er) (wS G sd inp otp tc fc on ze ou wd lo up) (wH G hd hc sa sv) (wD G md ab) (wR G rd tr rt) (wB G be beD kn ct bu bl tu tl bd bm d0 d1 d2 d3 d4 d5)) (q0 := 0) (ci := 4) rfl rfl) rfl rfl hl.1 rfl (lv_room (Nat.le_of_ble_eq_true rfl)) dX5_fold_5 ⟨Nat.zero_le _, Nat.zero_le _⟩) hP hD hS hA (pm6_02345_1 (wP G ad sd hd md rd be er) (wS G sd inp otp tc fc on ze ou wd lo up) (wH G hd hc sa sv) (wD G md ab) (wR G rd tr rt) (wB G be beD kn ct bu bl tu tl bd bm d0 d1 d2 d3 d4 d5)) (fun r1 w55 H locs h hP hD hS => ?_)
  have hP : va_P G.1 vwCl (wP G ad sd hd md rd be er ++ (wS G sd inp otp tc fc on ze ou wd lo up ++ (wH G hd hc sa sv ++ (wD G md ab ++ (wR G rd tr rt ++ (wB G be beD kn ct bu bl tu tl bd bm d0 d1 d2 d3 d4 d5)))))) H := hP.perm (pm6_02345_1 (wP G ad sd hd md rd be er) (wS G sd inp otp tc fc on ze ou wd lo up) (wH G hd hc sa sv) (wD G md ab) (wR G rd tr rt) (wB G be beD kn ct bu bl tu tl bd bm d0 d1 d2 d3 d4 d5)).symm
  have hD : va_D A (wP G ad sd hd md rd be er ++ (wS G sd inp otp tc fc on ze ou wd lo up ++ (wH G hd hc sa sv ++ (wD G md ab ++ (wR G rd tr rt ++ (wB G be beD kn ct bu bl tu tl bd bm d0 d1 d2 d3 d4 d5)))))) := hD.perm (pm6_02345_1 (wP G ad sd hd md rd be er) (wS G sd inp otp tc fc on ze ou wd lo up) (wH G hd hc sa sv) (wD G md ab) (wR G rd tr rt) (wB G be beD kn ct bu bl tu tl bd bm d0 d1 d2 d3 d4 d5)).symm
  try dsimp only at h
  refine lv_if_eq (tgt := 22) hx hb dX5_fold_8 (by decide) (fun c_2 => ?_) (fun c_2 => ?_)
  · have h := h.1 c_2
    refine lv_aload_n hx hb dX5_fold_22 rfl (lv_at hl 0 rfl) ?_
    refine lv_bipush (v := (-2 : Int32)) hx hb dX5_fold_23 (by decide) ?_
    refine kp_i (wr := ([] : va_W)) (va_runV (As := [.int (-2 : Int32)]) (rest := []) ⟨hx, hb, hml, hown, hts⟩ (c_X5_fail l G ad sd hd md rd be beD _ er inp otp tc fc on ze ou wd lo up hc sa sv ab tr rt kn ct bu bl tu tl bd bm d0 d1 d2 d3 d4 d5 (-2 : Int32) h) (cwV 1 hts gX5_fold_X5_fail rfl rfl rfl (by decide +kernel) ⟨Nat.le_of_ble_eq_true rfl, Nat.le_of_ble_eq_true rfl⟩) (kpVp hK hP hD hZ hS hA (pm_all _) (q0 := 0) (ci := 5) rfl rfl) rfl rfl hl.1 rfl (lv_room (Nat.le_of_ble_eq_true rfl)) dX5_fold_25 ⟨Nat.zero_le _, Nat.zero_le _⟩) hP hD hS hA (pm_all _) (fun r3 w5 H locs h hP hD hS => ?_)
    obtain ⟨u4, rfl⟩ : ∃ z, z = w5 := ⟨_, rfl⟩
    have hP : va_P G.1 vwCl (wP G ad sd hd md rd be u4 ++ (wS G sd inp otp tc fc on ze ou wd lo up ++ (wH G hd hc sa sv ++ (wD G md ab ++ (wR G rd tr rt ++ (wB G be beD kn ct bu bl tu tl bd bm d0 d1 d2 d3 d4 d5)))))) H := hP.perm (pm_all _).symm
    have hD : va_D A (wP G ad sd hd md rd be u4 ++ (wS G sd inp otp tc fc on ze ou wd lo up ++ (wH G hd hc sa sv ++ (wD G md ab ++ (wR G rd tr rt ++ (wB G be beD kn ct bu bl tu tl bd bm d0 d1 d2 d3 d4 d5)))))) := hD.perm (pm_all _).symm
    try dsimp only at h
    exact W.iret hx hb hr (fun t ht hW => ⟨⟨_, (u4, fc, lo, up, hc, sa, sv, ab, tr, rt), rfl, h, by rw [ht]; exact hP, hD⟩, hS.F ht⟩) hS.2.2 dX5_fold_28
  · have h := h.2 c_2
    refine lv_aload_n hx hb dX5_fold_11 rfl (lv_at hl 0 rfl) ?_
    refine va_get (D := G.1) (ci := 5) (v := .ref (sd 0)) (C := RX5) (T := TX5) (N := 6) hx hb hts hinX5 hown hK.1 hP.l 0 rfl rfl 0 (by decide) (hts (.fieldLink RX5 12 "PlaFolder" "state" "LPlaFolder$State;") (by decide +kernel)) (fun _ h9 => h9) rfl dX5_fold_12 ?_
    refine lv_iload_n hx hb dX5_fold_15 rfl (lv_at hl 2 rfl) ?_
    refine kp_i (wr := wP G ad sd hd md rd be er ++ (wH G hd hc sa sv ++ (wD G md ab ++ (wR G rd tr rt ++ (wB G be beD kn ct bu bl tu tl bd bm d0 d1 d2 d3 d4 d5))))) (va_runVN (As := [.int a2]) (rest := []) ⟨hx, hb, hml, hown, hts⟩ (c_X4_hasColumn l G sd _ inp otp tc fc on ze ou wd lo up a2 h) ⟨va_cnB 1 hts gX5_fold_X4_hasColumn_n119 rfl rfl rfl (hK.2.M 23 (q := ("PlaFolder", 119, ⟨"PlaFolder$State", "hasColumn", "(I)Z"⟩, "PlaFolder")) rfl) (hts (.initialized RX4) (by decide +kernel)) (by decide +kernel) ⟨Nat.le_of_ble_eq_true rfl, Nat.le_of_ble_eq_true rfl⟩, hts (.instanceMethod yX4_hasColumn) (by decide +kernel), hts (.selects RX4 yX4_hasColumn yX4_hasColumn) (by decide +kernel)⟩ (kpVp hK hP hD hZ hS hA (pm6_02345_1 (wP G ad sd hd md rd be er) (wS G sd inp otp tc fc on ze ou wd lo up) (wH G hd hc sa sv) (wD G md ab) (wR G rd tr rt) (wB G be beD kn ct bu bl tu tl bd bm d0 d1 d2 d3 d4 d5)) (q0 := 0) (ci := 4) rfl rfl) rfl rfl hl.1 rfl (lv_room (Nat.le_of_ble_eq_true rfl)) dX5_fold_16 ⟨Nat.zero_le _, Nat.zero_le _⟩) hP hD hS hA (pm6_02345_1 (wP G ad sd hd md rd be er) (wS G sd inp otp tc fc on ze ou wd lo up) (wH G hd hc sa sv) (wD G md ab) (wR G rd tr rt) (wB G be beD kn ct bu bl tu tl bd bm d0 d1 d2 d3 d4 d5)) (fun r6 w54 H locs h hP hD hS => ?_)
    have hP : va_P G.1 vwCl (wP G ad sd hd md rd be er ++ (wS G sd inp otp tc fc on ze ou wd lo up ++ (wH G hd hc sa sv ++ (wD G md ab ++ (wR G rd tr rt ++ (wB G be beD kn ct bu bl tu tl bd bm d0 d1 d2 d3 d4 d5)))))) H := hP.perm (pm6_02345_1 (wP G ad sd hd md rd be er) (wS G sd inp otp tc fc on ze ou wd lo up) (wH G hd hc sa sv) (wD G md ab) (wR G rd tr rt) (wB G be beD kn ct bu bl tu tl bd bm d0 d1 d2 d3 d4 d5)).symm
    have hD : va_D A (wP G ad sd hd md rd be er ++ (wS G sd inp otp tc fc on ze ou wd lo up ++ (wH G hd hc sa sv ++ (wD G md ab ++ (wR G rd tr rt ++ (wB G be beD kn ct bu bl tu tl bd bm d0 d1 d2 d3 d4 d5)))))) := hD.perm (pm6_02345_1 (wP G ad sd hd md rd be er) (wS G sd inp otp tc fc on ze ou wd lo up) (wH G hd hc sa sv) (wD G md ab) (wR G rd tr rt) (wB G be beD kn ct bu bl tu tl bd bm d0 d1 d2 d3 d4 d5)).symm
    try dsimp only at h
    refine lv_if_ne (tgt := 29) hx hb dX5_fold_19 (by decide) (fun c_7 => ?_) (fun c_7 => ?_)
    · have h := h.1 c_7
      refine lv_aload_n hx hb dX5_fold_29 rfl (lv_at hl 0 rfl) ?_
      refine va_get (D := G.1) (ci := 5) (v := .ref (sd 0)) (C := RX5) (T := TX5) (N := 6) hx hb hts hinX5 hown hK.1 hP.l 0 rfl rfl 0 (by decide) (hts (.fieldLink RX5 12 "PlaFolder" "state" "LPlaFolder$State;") (by decide +kernel)) (fun _ h9 => h9) rfl dX5_fold_30 ?_
      refine lv_iload_n hx hb dX5_fold_33 rfl (lv_at hl 1 rfl) ?_
      refine lv_iload_n hx hb dX5_fold_34 rfl (lv_at hl 2 rfl) ?_
      refine kp_i (wr := wP G ad sd hd md rd be er ++ (wH G hd hc sa sv ++ (wD G md ab ++ (wR G rd tr rt ++ (wB G be beD kn ct bu bl tu tl bd bm d0 d1 d2 d3 d4 d5))))) (va_runVN (As := [.int a1, .int a2]) (rest := []) ⟨hx, hb, hml, hown, hts⟩ (c_X4_isPair l G sd _ inp otp tc fc on ze ou wd lo up a1 a2 h) ⟨va_cnB 2 hts gX5_fold_X4_isPair_n125 rfl rfl rfl (hK.2.M 25 (q := ("PlaFolder", 125, ⟨"PlaFolder$State", "isPair", "(II)Z"⟩, "PlaFolder")) rfl) (hts (.initialized RX4) (by decide +kernel)) (by decide +kernel) ⟨Nat.le_of_ble_eq_true rfl, Nat.le_of_ble_eq_true rfl⟩, hts (.instanceMethod yX4_isPair) (by decide +kernel), hts (.selects RX4 yX4_isPair yX4_isPair) (by decide +kernel)⟩ (kpVp hK hP hD hZ hS hA (pm6_02345_1 (wP G ad sd hd md rd be er) (wS G sd inp otp tc fc on ze ou wd lo up) (wH G hd hc sa sv) (wD G md ab) (wR G rd tr rt) (wB G be beD kn ct bu bl tu tl bd bm d0 d1 d2 d3 d4 d5)) (q0 := 0) (ci := 4) rfl rfl) rfl rfl hl.1 rfl (lv_room (Nat.le_of_ble_eq_true rfl)) dX5_fold_35 ⟨Nat.zero_le _, Nat.zero_le _⟩) hP hD hS hA (pm6_02345_1 (wP G ad sd hd md rd be er) (wS G sd inp otp tc fc on ze ou wd lo up) (wH G hd hc sa sv) (wD G md ab) (wR G rd tr rt) (wB G be beD kn ct bu bl tu tl bd bm d0 d1 d2 d3 d4 d5)) (fun r8 w50 H locs h hP hD hS => ?_)
      have hP : va_P G.1 vwCl (wP G ad sd hd md rd be er ++ (wS G sd inp otp tc fc on ze ou wd lo up ++ (wH G hd hc sa sv ++ (wD G md ab ++ (wR G rd tr rt ++ (wB G be beD kn ct bu bl tu tl bd bm d0 d1 d2 d3 d4 d5)))))) H := hP.perm (pm6_02345_1 (wP G ad sd hd md rd be er) (wS G sd inp otp tc fc on ze ou wd lo up) (wH G hd hc sa sv) (wD G md ab) (wR G rd tr rt) (wB G be beD kn ct bu bl tu tl bd bm d0 d1 d2 d3 d4 d5)).symm
      have hD : va_D A (wP G ad sd hd md rd be er ++ (wS G sd inp otp tc fc on ze ou wd lo up ++ (wH G hd hc sa sv ++ (wD G md ab ++ (wR G rd tr rt ++ (wB G be beD kn ct bu bl tu tl bd bm d0 d1 d2 d3 d4 d5)))))) := hD.perm (pm6_02345_1 (wP G ad sd hd md rd be er) (wS G sd inp otp tc fc on ze ou wd lo up) (wH G hd hc sa sv) (wD G md ab) (wR G rd tr rt) (wB G be beD kn ct bu bl tu tl bd bm d0 d1 d2 d3 d4 d5)).symm
      try dsimp only at h
      refine lv_if_eq (tgt := 65) hx hb dX5_fold_38 (by decide) (fun c_9 => ?_) (fun c_9 => ?_)
      · have h := h.1 c_9
        refine lv_aload_n hx hb dX5_fold_65 rfl (lv_at hl 0 rfl) ?_
        refine lv_bipush (v := (-3 : Int32)) hx hb dX5_fold_66 (by decide) ?_
        refine kp_i (wr := ([] : va_W)) (va_runV (As := [.int (-3 : Int32)]) (rest := []) ⟨hx, hb, hml, hown, hts⟩ (c_X5_fail l G ad sd hd md rd be beD _ er inp otp tc fc on ze ou wd lo up hc sa sv ab tr rt kn ct bu bl tu tl bd bm d0 d1 d2 d3 d4 d5 (-3 : Int32) h) (cwV 1 hts gX5_fold_X5_fail rfl rfl rfl (by decide +kernel) ⟨Nat.le_of_ble_eq_true rfl, Nat.le_of_ble_eq_true rfl⟩) (kpVp hK hP hD hZ hS hA (pm_all _) (q0 := 0) (ci := 5) rfl rfl) rfl rfl hl.1 rfl (lv_room (Nat.le_of_ble_eq_true rfl)) dX5_fold_68 ⟨Nat.zero_le _, Nat.zero_le _⟩) hP hD hS hA (pm_all _) (fun r10 w12 H locs h hP hD hS => ?_)
        obtain ⟨u11, rfl⟩ : ∃ z, z = w12 := ⟨_, rfl⟩
        have hP : va_P G.1 vwCl (wP G ad sd hd md rd be u11 ++ (wS G sd inp otp tc fc on ze ou wd lo up ++ (wH G hd hc sa sv ++ (wD G md ab ++ (wR G rd tr rt ++ (wB G be beD kn ct bu bl tu tl bd bm d0 d1 d2 d3 d4 d5)))))) H := hP.perm (pm_all _).symm
        have hD : va_D A (wP G ad sd hd md rd be u11 ++ (wS G sd inp otp tc fc on ze ou wd lo up ++ (wH G hd hc sa sv ++ (wD G md ab ++ (wR G rd tr rt ++ (wB G be beD kn ct bu bl tu tl bd bm d0 d1 d2 d3 d4 d5)))))) := hD.perm (pm_all _).symm
        try dsimp only at h
        exact W.iret hx hb hr (fun t ht hW => ⟨⟨_, (u11, fc, lo, up, hc, sa, sv, ab, tr, rt), rfl, h, by rw [ht]; exact hP, hD⟩, hS.F ht⟩) hS.2.2 dX5_fold_71
      · have h := h.2 c_9
        refine lv_aload_n hx hb dX5_fold_41 rfl (lv_at hl 0 rfl) ?_
        refine va_get (D := G.1) (ci := 5) (v := .ref (sd 0)) (C := RX5) (T := TX5) (N := 6) hx hb hts hinX5 hown hK.1 hP.l 0 rfl rfl 0 (by decide) (hts (.fieldLink RX5 12 "PlaFolder" "state" "LPlaFolder$State;") (by decide +kernel)) (fun _ h9 => h9) rfl dX5_fold_42 ?_
        refine lv_iload_n hx hb dX5_fold_45 rfl (lv_at hl 1 rfl) ?_
        refine kp_i (wr := wP G ad sd hd md rd be er ++ (wH G hd hc sa sv ++ (wD G md ab ++ (wR G rd tr rt ++ (wB G be beD kn ct bu bl tu tl bd bm d0 d1 d2 d3 d4 d5))))) (va_runVN (As := [.int a1]) (rest := []) ⟨hx, hb, hml, hown, hts⟩ (c_X4_mateOf l G sd _ inp otp tc fc on ze ou wd lo up a1 h) ⟨va_cnB 1 hts gX5_fold_X4_mateOf_n129 rfl rfl rfl (hK.2.M 26 (q := ("PlaFolder", 129, ⟨"PlaFolder$State", "mateOf", "(I)I"⟩, "PlaFolder")) rfl) (hts (.initialized RX4) (by decide +kernel)) (by decide +kernel) ⟨Nat.le_of_ble_eq_true rfl, Nat.le_of_ble_eq_true rfl⟩, hts (.instanceMethod yX4_mateOf) (by decide +kernel), hts (.selects RX4 yX4_mateOf yX4_mateOf) (by decide +kernel)⟩ (kpVp hK hP hD hZ hS hA (pm6_02345_1 (wP G ad sd hd md rd be er) (wS G sd inp otp tc fc on ze ou wd lo up) (wH G hd hc sa sv) (wD G md ab) (wR G rd tr rt) (wB G be beD kn ct bu bl tu tl bd bm d0 d1 d2 d3 d4 d5)) (q0 := 0) (ci := 4) rfl rfl) rfl rfl hl.1 rfl (lv_room (Nat.le_of_ble_eq_true rfl)) dX5_fold_46 ⟨Nat.zero_le _, Nat.zero_le _⟩) hP hD hS hA (pm6_02345_1 (wP G ad sd hd md rd be er) (wS G sd inp otp tc fc on ze ou wd lo up) (wH G hd hc sa sv) (wD G md ab) (wR G rd tr rt) (wB G be beD kn ct bu bl tu tl bd bm d0 d1 d2 d3 d4 d5)) (fun r13 w49 H locs h hP hD hS => ?_)
        have hP : va_P G.1 vwCl (wP G ad sd hd md rd be er ++ (wS G sd inp otp tc fc on ze ou wd lo up ++ (wH G hd hc sa sv ++ (wD G md ab ++ (wR G rd tr rt ++ (wB G be beD kn ct bu bl tu tl bd bm d0 d1 d2 d3 d4 d5)))))) H := hP.perm (pm6_02345_1 (wP G ad sd hd md rd be er) (wS G sd inp otp tc fc on ze ou wd lo up) (wH G hd hc sa sv) (wD G md ab) (wR G rd tr rt) (wB G be beD kn ct bu bl tu tl bd bm d0 d1 d2 d3 d4 d5)).symm
        have hD : va_D A (wP G ad sd hd md rd be er ++ (wS G sd inp otp tc fc on ze ou wd lo up ++ (wH G hd hc sa sv ++ (wD G md ab ++ (wR G rd tr rt ++ (wB G be beD kn ct bu bl tu tl bd bm d0 d1 d2 d3 d4 d5)))))) := hD.perm (pm6_02345_1 (wP G ad sd hd md rd be er) (wS G sd inp otp tc fc on ze ou wd lo up) (wH G hd hc sa sv) (wD G md ab) (wR G rd tr rt) (wB G be beD kn ct bu bl tu tl bd bm d0 d1 d2 d3 d4 d5)).symm
        try dsimp only at h
        refine lv_iconst (v := (-1 : Int32)) hx hb dX5_fold_49 (by decide) ?_
        refine lv_icmp_ne (tgt := 65) hx hb dX5_fold_50 (by decide) (fun c_14 => ?_) (fun c_14 => ?_)
        · have h := h.1 c_14
          refine lv_aload_n hx hb dX5_fold_65 rfl (lv_at hl 0 rfl) ?_
          refine lv_bipush (v := (-3 : Int32)) hx hb dX5_fold_66 (by decide) ?_
          refine kp_i (wr := ([] : va_W)) (va_runV (As := [.int (-3 : Int32)]) (rest := []) ⟨hx, hb, hml, hown, hts⟩ (c_X5_fail l G ad sd hd md rd be beD _ er inp otp tc fc on ze ou wd lo up hc sa sv ab tr rt kn ct bu bl tu tl bd bm d0 d1 d2 d3 d4 d5 (-3 : Int32) h) (cwV 1 hts gX5_fold_X5_fail rfl rfl rfl (by decide +kernel) ⟨Nat.le_of_ble_eq_true rfl, Nat.le_of_ble_eq_true rfl⟩) (kpVp hK hP hD hZ hS hA (pm_all _) (q0 := 0) (ci := 5) rfl rfl) rfl rfl hl.1 rfl (lv_room (Nat.le_of_ble_eq_true rfl)) dX5_fold_68 ⟨Nat.zero_le _, Nat.zero_le _⟩) hP hD hS hA (pm_all _) (fun r15 w17 H locs h hP hD hS => ?_)
          obtain ⟨u16, rfl⟩ : ∃ z, z = w17 := ⟨_, rfl⟩
          have hP : va_P G.1 vwCl (wP G ad sd hd md rd be u16 ++ (wS G sd inp otp tc fc on ze ou wd lo up ++ (wH G hd hc sa sv ++ (wD G md ab ++ (wR G rd tr rt ++ (wB G be beD kn ct bu bl tu tl bd bm d0 d1 d2 d3 d4 d5)))))) H := hP.perm (pm_all _).symm
          have hD : va_D A (wP G ad sd hd md rd be u16 ++ (wS G sd inp otp tc fc on ze ou wd lo up ++ (wH G hd hc sa sv ++ (wD G md ab ++ (wR G rd tr rt ++ (wB G be beD kn ct bu bl tu tl bd bm d0 d1 d2 d3 d4 d5)))))) := hD.perm (pm_all _).symm
          try dsimp only at h
          exact W.iret hx hb hr (fun t ht hW => ⟨⟨_, (u16, fc, lo, up, hc, sa, sv, ab, tr, rt), rfl, h, by rw [ht]; exact hP, hD⟩, hS.F ht⟩) hS.2.2 dX5_fold_71
        · have h := h.2 c_14
          refine lv_aload_n hx hb dX5_fold_53 rfl (lv_at hl 0 rfl) ?_
          refine va_get (D := G.1) (ci := 5) (v := .ref (sd 0)) (C := RX5) (T := TX5) (N := 6) hx hb hts hinX5 hown hK.1 hP.l 0 rfl rfl 0 (by decide) (hts (.fieldLink RX5 12 "PlaFolder" "state" "LPlaFolder$State;") (by decide +kernel)) (fun _ h9 => h9) rfl dX5_fold_54 ?_
          refine lv_iload_n hx hb dX5_fold_57 rfl (lv_at hl 2 rfl) ?_
          refine kp_i (wr := wP G ad sd hd md rd be er ++ (wH G hd hc sa sv ++ (wD G md ab ++ (wR G rd tr rt ++ (wB G be beD kn ct bu bl tu tl bd bm d0 d1 d2 d3 d4 d5))))) (va_runVN (As := [.int a2]) (rest := []) ⟨hx, hb, hml, hown, hts⟩ (c_X4_mateOf l G sd _ inp otp tc fc on ze ou wd lo up a2 h) ⟨va_cnB 1 hts gX5_fold_X4_mateOf_n129 rfl rfl rfl (hK.2.M 26 (q := ("PlaFolder", 129, ⟨"PlaFolder$State", "mateOf", "(I)I"⟩, "PlaFolder")) rfl) (hts (.initialized RX4) (by decide +kernel)) (by decide +kernel) ⟨Nat.le_of_ble_eq_true rfl, Nat.le_of_ble_eq_true rfl⟩, hts (.instanceMethod yX4_mateOf) (by decide +kernel), hts (.selects RX4 yX4_mateOf yX4_mateOf) (by decide +kernel)⟩ (kpVp hK hP hD hZ hS hA (pm6_02345_1 (wP G ad sd hd md rd be er) (wS G sd inp otp tc fc on ze ou wd lo up) (wH G hd hc sa sv) (wD G md ab) (wR G rd tr rt) (wB G be beD kn ct bu bl tu tl bd bm d0 d1 d2 d3 d4 d5)) (q0 := 0) (ci := 4) rfl rfl) rfl rfl hl.1 rfl (lv_room (Nat.le_of_ble_eq_true rfl)) dX5_fold_58 ⟨Nat.zero_le _, Nat.zero_le _⟩) hP hD hS hA (pm6_02345_1 (wP G ad sd hd md rd be er) (wS G sd inp otp tc fc on ze ou wd lo up) (wH G hd hc sa sv) (wD G md ab) (wR G rd tr rt) (wB G be beD kn ct bu bl tu tl bd bm d0 d1 d2 d3 d4 d5)) (fun r18 w48 H locs h hP hD hS => ?_)
          have hP : va_P G.1 vwCl (wP G ad sd hd md rd be er ++ (wS G sd inp otp tc fc on ze ou wd lo up ++ (wH G hd hc sa sv ++ (wD G md ab ++ (wR G rd tr rt ++ (wB G be beD kn ct bu bl tu tl bd bm d0 d1 d2 d3 d4 d5)))))) H := hP.perm (pm6_02345_1 (wP G ad sd hd md rd be er) (wS G sd inp otp tc fc on ze ou wd lo up) (wH G hd hc sa sv) (wD G md ab) (wR G rd tr rt) (wB G be beD kn ct bu bl tu tl bd bm d0 d1 d2 d3 d4 d5)).symm
          have hD : va_D A (wP G ad sd hd md rd be er ++ (wS G sd inp otp tc fc on ze ou wd lo up ++ (wH G hd hc sa sv ++ (wD G md ab ++ (wR G rd tr rt ++ (wB G be beD kn ct bu bl tu tl bd bm d0 d1 d2 d3 d4 d5)))))) := hD.perm (pm6_02345_1 (wP G ad sd hd md rd be er) (wS G sd inp otp tc fc on ze ou wd lo up) (wH G hd hc sa sv) (wD G md ab) (wR G rd tr rt) (wB G be beD kn ct bu bl tu tl bd bm d0 d1 d2 d3 d4 d5)).symm
          try dsimp only at h
          refine lv_iconst (v := (-1 : Int32)) hx hb dX5_fold_61 (by decide) ?_
          refine lv_icmp_eq (tgt := 72) hx hb dX5_fold_62 (by decide) (fun c_19 => ?_) (fun c_19 => ?_)
          · have h := h.1 c_19
            refine lv_aload_n hx hb dX5_fold_72 rfl (lv_at hl 0 rfl) ?_
            refine va_get (D := G.1) (ci := 5) (v := .ref (md 0)) (C := RX5) (T := TX5) (N := 6) hx hb hts hinX5 hown hK.1 hP.l 0 rfl rfl 2 (by decide) (hts (.fieldLink RX5 26 "PlaFolder" "demands" "LPlaFolder$Demands;") (by decide +kernel)) (fun _ h9 => h9) rfl dX5_fold_73 ?_
            refine lv_aload_n hx hb dX5_fold_76 rfl (lv_at hl 0 rfl) ?_
            refine va_get (D := G.1) (ci := 5) (v := .ref (sd 0)) (C := RX5) (T := TX5) (N := 6) hx hb hts hinX5 hown hK.1 hP.l 0 rfl rfl 0 (by decide) (hts (.fieldLink RX5 12 "PlaFolder" "state" "LPlaFolder$State;") (by decide +kernel)) (fun _ h9 => h9) rfl dX5_fold_77 ?_
            refine lv_iload_n hx hb dX5_fold_80 rfl (lv_at hl 1 rfl) ?_
            refine kp_i (wr := wP G ad sd hd md rd be er ++ (wH G hd hc sa sv ++ (wD G md ab ++ (wR G rd tr rt ++ (wB G be beD kn ct bu bl tu tl bd bm d0 d1 d2 d3 d4 d5))))) (va_runVN (As := [.int a1]) (rest := [.ref (md 0)]) ⟨hx, hb, hml, hown, hts⟩ (c_X4_termsOfColumn l G sd _ inp otp tc fc on ze ou wd lo up a1 h) ⟨va_cnB 1 hts gX5_fold_X4_termsOfColumn_n122 rfl rfl rfl (hK.2.M 24 (q := ("PlaFolder", 122, ⟨"PlaFolder$State", "termsOfColumn", "(I)I"⟩, "PlaFolder")) rfl) (hts (.initialized RX4) (by decide +kernel)) (by decide +kernel) ⟨Nat.le_of_ble_eq_true rfl, Nat.le_of_ble_eq_true rfl⟩, hts (.instanceMethod yX4_termsOfColumn) (by decide +kernel), hts (.selects RX4 yX4_termsOfColumn yX4_termsOfColumn) (by decide +kernel)⟩ (kpVp hK hP hD hZ hS hA (pm6_02345_1 (wP G ad sd hd md rd be er) (wS G sd inp otp tc fc on ze ou wd lo up) (wH G hd hc sa sv) (wD G md ab) (wR G rd tr rt) (wB G be beD kn ct bu bl tu tl bd bm d0 d1 d2 d3 d4 d5)) (q0 := 0) (ci := 4) rfl rfl) rfl rfl hl.1 rfl (lv_room (Nat.le_of_ble_eq_true rfl)) dX5_fold_81 ⟨Nat.zero_le _, Nat.zero_le _⟩) hP hD hS hA (pm6_02345_1 (wP G ad sd hd md rd be er) (wS G sd inp otp tc fc on ze ou wd lo up) (wH G hd hc sa sv) (wD G md ab) (wR G rd tr rt) (wB G be beD kn ct bu bl tu tl bd bm d0 d1 d2 d3 d4 d5)) (fun r20 w44 H locs h hP hD hS => ?_)
            have hP : va_P G.1 vwCl (wP G ad sd hd md rd be er ++ (wS G sd inp otp tc fc on ze ou wd lo up ++ (wH G hd hc sa sv ++ (wD G md ab ++ (wR G rd tr rt ++ (wB G be beD kn ct bu bl tu tl bd bm d0 d1 d2 d3 d4 d5)))))) H := hP.perm (pm6_02345_1 (wP G ad sd hd md rd be er) (wS G sd inp otp tc fc on ze ou wd lo up) (wH G hd hc sa sv) (wD G md ab) (wR G rd tr rt) (wB G be beD kn ct bu bl tu tl bd bm d0 d1 d2 d3 d4 d5)).symm
            have hD : va_D A (wP G ad sd hd md rd be er ++ (wS G sd inp otp tc fc on ze ou wd lo up ++ (wH G hd hc sa sv ++ (wD G md ab ++ (wR G rd tr rt ++ (wB G be beD kn ct bu bl tu tl bd bm d0 d1 d2 d3 d4 d5)))))) := hD.perm (pm6_02345_1 (wP G ad sd hd md rd be er) (wS G sd inp otp tc fc on ze ou wd lo up) (wH G hd hc sa sv) (wD G md ab) (wR G rd tr rt) (wB G be beD kn ct bu bl tu tl bd bm d0 d1 d2 d3 d4 d5)).symm
            try dsimp only at h
            refine lv_aload_n hx hb dX5_fold_84 rfl (lv_at hl 0 rfl) ?_
            refine va_get (D := G.1) (ci := 5) (v := .ref (sd 0)) (C := RX5) (T := TX5) (N := 6) hx hb hts hinX5 hown hK.1 hP.l 0 rfl rfl 0 (by decide) (hts (.fieldLink RX5 12 "PlaFolder" "state" "LPlaFolder$State;") (by decide +kernel)) (fun _ h9 => h9) rfl dX5_fold_85 ?_
            refine lv_iload_n hx hb dX5_fold_88 rfl (lv_at hl 2 rfl) ?_
            refine kp_i (wr := wP G ad sd hd md rd be er ++ (wH G hd hc sa sv ++ (wD G md ab ++ (wR G rd tr rt ++ (wB G be beD kn ct bu bl tu tl bd bm d0 d1 d2 d3 d4 d5))))) (va_runVN (As := [.int a2]) (rest := [.int r20, .ref (md 0)]) ⟨hx, hb, hml, hown, hts⟩ (c_X4_termsOfColumn l G sd _ inp otp tc fc on ze ou wd lo up a2 h) ⟨va_cnB 1 hts gX5_fold_X4_termsOfColumn_n122 rfl rfl rfl (hK.2.M 24 (q := ("PlaFolder", 122, ⟨"PlaFolder$State", "termsOfColumn", "(I)I"⟩, "PlaFolder")) rfl) (hts (.initialized RX4) (by decide +kernel)) (by decide +kernel) ⟨Nat.le_of_ble_eq_true rfl, Nat.le_of_ble_eq_true rfl⟩, hts (.instanceMethod yX4_termsOfColumn) (by decide +kernel), hts (.selects RX4 yX4_termsOfColumn yX4_termsOfColumn) (by decide +kernel)⟩ (kpVp hK hP hD hZ hS hA (pm6_02345_1 (wP G ad sd hd md rd be er) (wS G sd inp otp tc fc on ze ou wd lo up) (wH G hd hc sa sv) (wD G md ab) (wR G rd tr rt) (wB G be beD kn ct bu bl tu tl bd bm d0 d1 d2 d3 d4 d5)) (q0 := 0) (ci := 4) rfl rfl) rfl rfl hl.1 rfl (lv_room (Nat.le_of_ble_eq_true rfl)) dX5_fold_89 ⟨Nat.zero_le _, Nat.zero_le _⟩) hP hD hS hA (pm6_02345_1 (wP G ad sd hd md rd be er) (wS G sd inp otp tc fc on ze ou wd lo up) (wH G hd hc sa sv) (wD G md ab) (wR G rd tr rt) (wB G be beD kn ct bu bl tu tl bd bm d0 d1 d2 d3 d4 d5)) (fun r21 w43 H locs h hP hD hS => ?_)
            have hP : va_P G.1 vwCl (wP G ad sd hd md rd be er ++ (wS G sd inp otp tc fc on ze ou wd lo up ++ (wH G hd hc sa sv ++ (wD G md ab ++ (wR G rd tr rt ++ (wB G be beD kn ct bu bl tu tl bd bm d0 d1 d2 d3 d4 d5)))))) H := hP.perm (pm6_02345_1 (wP G ad sd hd md rd be er) (wS G sd inp otp tc fc on ze ou wd lo up) (wH G hd hc sa sv) (wD G md ab) (wR G rd tr rt) (wB G be beD kn ct bu bl tu tl bd bm d0 d1 d2 d3 d4 d5)).symm
            have hD : va_D A (wP G ad sd hd md rd be er ++ (wS G sd inp otp tc fc on ze ou wd lo up ++ (wH G hd hc sa sv ++ (wD G md ab ++ (wR G rd tr rt ++ (wB G be beD kn ct bu bl tu tl bd bm d0 d1 d2 d3 d4 d5)))))) := hD.perm (pm6_02345_1 (wP G ad sd hd md rd be er) (wS G sd inp otp tc fc on ze ou wd lo up) (wH G hd hc sa sv) (wD G md ab) (wR G rd tr rt) (wB G be beD kn ct bu bl tu tl bd bm d0 d1 d2 d3 d4 d5)).symm
            try dsimp only at h
            refine kp_i (wr := wP G ad sd hd md rd be er ++ (wS G sd inp otp tc fc on ze ou wd lo up ++ (wH G hd hc sa sv ++ (wR G rd tr rt ++ (wB G be beD kn ct bu bl tu tl bd bm d0 d1 d2 d3 d4 d5))))) (va_runVN (As := [.int r20, .int r21]) (rest := []) ⟨hx, hb, hml, hown, hts⟩ (c_X1_allow l G md _ ab r20 r21 h) ⟨va_cnB 2 hts gX5_fold_X1_allow_n132 rfl rfl rfl (hK.2.M 27 (q := ("PlaFolder", 132, ⟨"PlaFolder$Demands", "allow", "(II)Z"⟩, "PlaFolder")) rfl) (hts (.initialized RX1) (by decide +kernel)) (by decide +kernel) ⟨Nat.le_of_ble_eq_true rfl, Nat.le_of_ble_eq_true rfl⟩, hts (.instanceMethod yX1_allow) (by decide +kernel), hts (.selects RX1 yX1_allow yX1_allow) (by decide +kernel)⟩ (kpVp hK hP hD hZ hS hA (pm6_01245_3 (wP G ad sd hd md rd be er) (wS G sd inp otp tc fc on ze ou wd lo up) (wH G hd hc sa sv) (wD G md ab) (wR G rd tr rt) (wB G be beD kn ct bu bl tu tl bd bm d0 d1 d2 d3 d4 d5)) (q0 := 0) (ci := 1) rfl rfl) rfl rfl hl.1 rfl (lv_room (Nat.le_of_ble_eq_true rfl)) dX5_fold_92 ⟨Nat.zero_le _, Nat.zero_le _⟩) hP hD hS hA (pm6_01245_3 (wP G ad sd hd md rd be er) (wS G sd inp otp tc fc on ze ou wd lo up) (wH G hd hc sa sv) (wD G md ab) (wR G rd tr rt) (wB G be beD kn ct bu bl tu tl bd bm d0 d1 d2 d3 d4 d5)) (fun r22 w42 H locs h hP hD hS => ?_)
            have hP : va_P G.1 vwCl (wP G ad sd hd md rd be er ++ (wS G sd inp otp tc fc on ze ou wd lo up ++ (wH G hd hc sa sv ++ (wD G md ab ++ (wR G rd tr rt ++ (wB G be beD kn ct bu bl tu tl bd bm d0 d1 d2 d3 d4 d5)))))) H := hP.perm (pm6_01245_3 (wP G ad sd hd md rd be er) (wS G sd inp otp tc fc on ze ou wd lo up) (wH G hd hc sa sv) (wD G md ab) (wR G rd tr rt) (wB G be beD kn ct bu bl tu tl bd bm d0 d1 d2 d3 d4 d5)).symm
            have hD : va_D A (wP G ad sd hd md rd be er ++ (wS G sd inp otp tc fc on ze ou wd lo up ++ (wH G hd hc sa sv ++ (wD G md ab ++ (wR G rd tr rt ++ (wB G be beD kn ct bu bl tu tl bd bm d0 d1 d2 d3 d4 d5)))))) := hD.perm (pm6_01245_3 (wP G ad sd hd md rd be er) (wS G sd inp otp tc fc on ze ou wd lo up) (wH G hd hc sa sv) (wD G md ab) (wR G rd tr rt) (wB G be beD kn ct bu bl tu tl bd bm d0 d1 d2 d3 d4 d5)).symm
            try dsimp only at h
            refine lv_if_ne (tgt := 105) hx hb dX5_fold_95 (by decide) (fun c_23 => ?_) (fun c_23 => ?_)
            · have h := h.1 c_23
              refine lv_aload_n hx hb dX5_fold_105 rfl (lv_at hl 0 rfl) ?_
              refine va_get (D := G.1) (ci := 5) (v := .ref (hd 0)) (C := RX5) (T := TX5) (N := 6) hx hb hts hinX5 hown hK.1 hP.l 0 rfl rfl 1 (by decide) (hts (.fieldLink RX5 19 "PlaFolder" "history" "LPlaFolder$History;") (by decide +kernel)) (fun _ h9 => h9) rfl dX5_fold_106 ?_
              refine lv_aload_n hx hb dX5_fold_109 rfl (lv_at hl 0 rfl) ?_
              refine va_get (D := G.1) (ci := 5) (v := .ref (sd 0)) (C := RX5) (T := TX5) (N := 6) hx hb hts hinX5 hown hK.1 hP.l 0 rfl rfl 0 (by decide) (hts (.fieldLink RX5 12 "PlaFolder" "state" "LPlaFolder$State;") (by decide +kernel)) (fun _ h9 => h9) rfl dX5_fold_110 ?_
              refine kp_v (wr := wP G ad sd hd md rd be er ++ (wD G md ab ++ (wR G rd tr rt ++ (wB G be beD kn ct bu bl tu tl bd bm d0 d1 d2 d3 d4 d5)))) (va_runVN (As := [.ref (sd 0)]) (rest := []) ⟨hx, hb, hml, hown, hts⟩ (c_X2_push l G hd sd _ hc sa sv inp otp tc fc on ze ou wd lo up  h) ⟨va_cnB 1 hts gX5_fold_X2_push_n52 rfl rfl rfl (hK.2.M 7 (q := ("PlaFolder", 52, ⟨"PlaFolder$History", "push", "(LPlaFolder$State;)V"⟩, "PlaFolder")) rfl) (hts (.initialized RX2) (by decide +kernel)) (by decide +kernel) ⟨Nat.le_of_ble_eq_true rfl, Nat.le_of_ble_eq_true rfl⟩, hts (.instanceMethod yX2_push) (by decide +kernel), hts (.selects RX2 yX2_push yX2_push) (by decide +kernel)⟩ (kpVp hK hP hD hZ hS hA (pm6_0345_21 (wP G ad sd hd md rd be er) (wS G sd inp otp tc fc on ze ou wd lo up) (wH G hd hc sa sv) (wD G md ab) (wR G rd tr rt) (wB G be beD kn ct bu bl tu tl bd bm d0 d1 d2 d3 d4 d5)) (q0 := 0) (ci := 2) rfl rfl) rfl rfl hl.1 rfl (lv_room (Nat.le_of_ble_eq_true rfl)) dX5_fold_113 ⟨Nat.zero_le _, Nat.zero_le _⟩) hP hD hS hA (pm6_0345_21 (wP G ad sd hd md rd be er) (wS G sd inp otp tc fc on ze ou wd lo up) (wH G hd hc sa sv) (wD G md ab) (wR G rd tr rt) (wB G be beD kn ct bu bl tu tl bd bm d0 d1 d2 d3 d4 d5)) (fun w38 H locs h hP hD hS => ?_)
              obtain ⟨u25, u26, u27⟩ := w38
              have hP : va_P G.1 vwCl (wP G ad sd hd md rd be er ++ (wS G sd inp otp tc fc on ze ou wd lo up ++ (wH G hd u25 u26 u27 ++ (wD G md ab ++ (wR G rd tr rt ++ (wB G be beD kn ct bu bl tu tl bd bm d0 d1 d2 d3 d4 d5)))))) H := hP.perm (pm6_0345_21 (wP G ad sd hd md rd be er) (wS G sd inp otp tc fc on ze ou wd lo up) (wH G hd u25 u26 u27) (wD G md ab) (wR G rd tr rt) (wB G be beD kn ct bu bl tu tl bd bm d0 d1 d2 d3 d4 d5)).symm
              have hD : va_D A (wP G ad sd hd md rd be er ++ (wS G sd inp otp tc fc on ze ou wd lo up ++ (wH G hd u25 u26 u27 ++ (wD G md ab ++ (wR G rd tr rt ++ (wB G be beD kn ct bu bl tu tl bd bm d0 d1 d2 d3 d4 d5)))))) := hD.perm (pm6_0345_21 (wP G ad sd hd md rd be er) (wS G sd inp otp tc fc on ze ou wd lo up) (wH G hd u25 u26 u27) (wD G md ab) (wR G rd tr rt) (wB G be beD kn ct bu bl tu tl bd bm d0 d1 d2 d3 d4 d5)).symm
              try dsimp only at h
              refine lv_aload_n hx hb dX5_fold_116 rfl (lv_at hl 0 rfl) ?_
              refine va_get (D := G.1) (ci := 5) (v := .ref (sd 0)) (C := RX5) (T := TX5) (N := 6) hx hb hts hinX5 hown hK.1 hP.l 0 rfl rfl 0 (by decide) (hts (.fieldLink RX5 12 "PlaFolder" "state" "LPlaFolder$State;") (by decide +kernel)) (fun _ h9 => h9) rfl dX5_fold_117 ?_
              refine lv_iload_n hx hb dX5_fold_120 rfl (lv_at hl 1 rfl) ?_
              refine lv_iload_n hx hb dX5_fold_121 rfl (lv_at hl 2 rfl) ?_
              refine kp_v (wr := wP G ad sd hd md rd be er ++ (wH G hd u25 u26 u27 ++ (wD G md ab ++ (wR G rd tr rt ++ (wB G be beD kn ct bu bl tu tl bd bm d0 d1 d2 d3 d4 d5))))) (va_runVN (As := [.int a1, .int a2]) (rest := []) ⟨hx, hb, hml, hown, hts⟩ (c_X4_join l G sd _ inp otp tc fc on ze ou wd lo up a1 a2 h) ⟨va_cnB 2 hts gX5_fold_X4_join_n135 rfl rfl rfl (hK.2.M 28 (q := ("PlaFolder", 135, ⟨"PlaFolder$State", "join", "(II)V"⟩, "PlaFolder")) rfl) (hts (.initialized RX4) (by decide +kernel)) (by decide +kernel) ⟨Nat.le_of_ble_eq_true rfl, Nat.le_of_ble_eq_true rfl⟩, hts (.instanceMethod yX4_join) (by decide +kernel), hts (.selects RX4 yX4_join yX4_join) (by decide +kernel)⟩ (kpVp hK hP hD hZ hS hA (pm6_02345_1 (wP G ad sd hd md rd be er) (wS G sd inp otp tc fc on ze ou wd lo up) (wH G hd u25 u26 u27) (wD G md ab) (wR G rd tr rt) (wB G be beD kn ct bu bl tu tl bd bm d0 d1 d2 d3 d4 d5)) (q0 := 0) (ci := 4) rfl rfl) rfl rfl hl.1 rfl (lv_room (Nat.le_of_ble_eq_true rfl)) dX5_fold_122 ⟨Nat.zero_le _, Nat.zero_le _⟩) hP hD hS hA (pm6_02345_1 (wP G ad sd hd md rd be er) (wS G sd inp otp tc fc on ze ou wd lo up) (wH G hd u25 u26 u27) (wD G md ab) (wR G rd tr rt) (wB G be beD kn ct bu bl tu tl bd bm d0 d1 d2 d3 d4 d5)) (fun w37 H locs h hP hD hS => ?_)
              obtain ⟨u29, u30, u31⟩ := w37
              have hP : va_P G.1 vwCl (wP G ad sd hd md rd be er ++ (wS G sd inp otp tc u29 on ze ou wd u30 u31 ++ (wH G hd u25 u26 u27 ++ (wD G md ab ++ (wR G rd tr rt ++ (wB G be beD kn ct bu bl tu tl bd bm d0 d1 d2 d3 d4 d5)))))) H := hP.perm (pm6_02345_1 (wP G ad sd hd md rd be er) (wS G sd inp otp tc u29 on ze ou wd u30 u31) (wH G hd u25 u26 u27) (wD G md ab) (wR G rd tr rt) (wB G be beD kn ct bu bl tu tl bd bm d0 d1 d2 d3 d4 d5)).symm
              have hD : va_D A (wP G ad sd hd md rd be er ++ (wS G sd inp otp tc u29 on ze ou wd u30 u31 ++ (wH G hd u25 u26 u27 ++ (wD G md ab ++ (wR G rd tr rt ++ (wB G be beD kn ct bu bl tu tl bd bm d0 d1 d2 d3 d4 d5)))))) := hD.perm (pm6_02345_1 (wP G ad sd hd md rd be er) (wS G sd inp otp tc u29 on ze ou wd u30 u31) (wH G hd u25 u26 u27) (wD G md ab) (wR G rd tr rt) (wB G be beD kn ct bu bl tu tl bd bm d0 d1 d2 d3 d4 d5)).symm
              try dsimp only at h
              refine lv_aload_n hx hb dX5_fold_125 rfl (lv_at hl 0 rfl) ?_
              refine kp_v (wr := ([] : va_W)) (va_runV (As := []) (rest := []) ⟨hx, hb, hml, hown, hts⟩ (c_X5_foldsChanged l G ad sd hd md rd be beD _ er inp otp tc u29 on ze ou wd u30 u31 u25 u26 u27 ab tr rt kn ct bu bl tu tl bd bm d0 d1 d2 d3 d4 d5  h) (cwV 0 hts gX5_fold_X5_foldsChanged rfl rfl rfl (by decide +kernel) ⟨Nat.le_of_ble_eq_true rfl, Nat.le_of_ble_eq_true rfl⟩) (kpVp hK hP hD hZ hS hA (pm_all _) (q0 := 0) (ci := 5) rfl rfl) rfl rfl hl.1 rfl (lv_room (Nat.le_of_ble_eq_true rfl)) dX5_fold_126 ⟨Nat.zero_le _, Nat.zero_le _⟩) hP hD hS hA (pm_all _) (fun w36 H locs h hP hD hS => ?_)
              obtain ⟨u33, u34, u35⟩ := w36
              have hP : va_P G.1 vwCl (wP G ad sd hd md rd be er ++ (wS G sd inp otp tc u29 on ze ou wd u30 u31 ++ (wH G hd u25 u26 u27 ++ (wD G md u33 ++ (wR G rd u34 u35 ++ (wB G be beD kn ct bu bl tu tl bd bm d0 d1 d2 d3 d4 d5)))))) H := hP.perm (pm_all _).symm
              have hD : va_D A (wP G ad sd hd md rd be er ++ (wS G sd inp otp tc u29 on ze ou wd u30 u31 ++ (wH G hd u25 u26 u27 ++ (wD G md u33 ++ (wR G rd u34 u35 ++ (wB G be beD kn ct bu bl tu tl bd bm d0 d1 d2 d3 d4 d5)))))) := hD.perm (pm_all _).symm
              try dsimp only at h
              refine lv_aload_n hx hb dX5_fold_129 rfl (lv_at hl 0 rfl) ?_
              refine va_get (D := G.1) (ci := 5) (v := .ref (sd 0)) (C := RX5) (T := TX5) (N := 6) hx hb hts hinX5 hown hK.1 hP.l 0 rfl rfl 0 (by decide) (hts (.fieldLink RX5 12 "PlaFolder" "state" "LPlaFolder$State;") (by decide +kernel)) (fun _ h9 => h9) rfl dX5_fold_130 ?_
              refine va_getN (D := G.1) (ci := 4) (v := .int u29) (C := RX4) (T := TX4) (N := 10) (host := "PlaFolder") hx hb hts hinX4 hown hK.1 hP.r.l 0 rfl rfl 3 (by decide) (hK.2.F 3 (q := ("PlaFolder", 141, "PlaFolder$State", "foldCount", "I", "PlaFolder")) rfl) (fun _ h9 => h9) rfl dX5_fold_133 ?_
              exact W.iret hx hb hr (fun t ht hW => ⟨⟨_, (er, u29, u30, u31, u25, u26, u27, u33, u34, u35), rfl, h, by rw [ht]; exact hP, hD⟩, hS.F ht⟩) hS.2.2 dX5_fold_136
            · have h := h.2 c_23
              refine lv_aload_n hx hb dX5_fold_98 rfl (lv_at hl 0 rfl) ?_
              refine lv_bipush (v := (-4 : Int32)) hx hb dX5_fold_99 (by decide) ?_
              refine kp_i (wr := ([] : va_W)) (va_runV (As := [.int (-4 : Int32)]) (rest := []) ⟨hx, hb, hml, hown, hts⟩ (c_X5_fail l G ad sd hd md rd be beD _ er inp otp tc fc on ze ou wd lo up hc sa sv ab tr rt kn ct bu bl tu tl bd bm d0 d1 d2 d3 d4 d5 (-4 : Int32) h) (cwV 1 hts gX5_fold_X5_fail rfl rfl rfl (by decide +kernel) ⟨Nat.le_of_ble_eq_true rfl, Nat.le_of_ble_eq_true rfl⟩) (kpVp hK hP hD hZ hS hA (pm_all _) (q0 := 0) (ci := 5) rfl rfl) rfl rfl hl.1 rfl (lv_room (Nat.le_of_ble_eq_true rfl)) dX5_fold_101 ⟨Nat.zero_le _, Nat.zero_le _⟩) hP hD hS hA (pm_all _) (fun r39 w41 H locs h hP hD hS => ?_)
              obtain ⟨u40, rfl⟩ : ∃ z, z = w41 := ⟨_, rfl⟩
              have hP : va_P G.1 vwCl (wP G ad sd hd md rd be u40 ++ (wS G sd inp otp tc fc on ze ou wd lo up ++ (wH G hd hc sa sv ++ (wD G md ab ++ (wR G rd tr rt ++ (wB G be beD kn ct bu bl tu tl bd bm d0 d1 d2 d3 d4 d5)))))) H := hP.perm (pm_all _).symm
              have hD : va_D A (wP G ad sd hd md rd be u40 ++ (wS G sd inp otp tc fc on ze ou wd lo up ++ (wH G hd hc sa sv ++ (wD G md ab ++ (wR G rd tr rt ++ (wB G be beD kn ct bu bl tu tl bd bm d0 d1 d2 d3 d4 d5)))))) := hD.perm (pm_all _).symm
              try dsimp only at h
              exact W.iret hx hb hr (fun t ht hW => ⟨⟨_, (u40, fc, lo, up, hc, sa, sv, ab, tr, rt), rfl, h, by rw [ht]; exact hP, hD⟩, hS.F ht⟩) hS.2.2 dX5_fold_104
          · have h := h.2 c_19
            refine lv_aload_n hx hb dX5_fold_65 rfl (lv_at hl 0 rfl) ?_
            refine lv_bipush (v := (-3 : Int32)) hx hb dX5_fold_66 (by decide) ?_
            refine kp_i (wr := ([] : va_W)) (va_runV (As := [.int (-3 : Int32)]) (rest := []) ⟨hx, hb, hml, hown, hts⟩ (c_X5_fail l G ad sd hd md rd be beD _ er inp otp tc fc on ze ou wd lo up hc sa sv ab tr rt kn ct bu bl tu tl bd bm d0 d1 d2 d3 d4 d5 (-3 : Int32) h) (cwV 1 hts gX5_fold_X5_fail rfl rfl rfl (by decide +kernel) ⟨Nat.le_of_ble_eq_true rfl, Nat.le_of_ble_eq_true rfl⟩) (kpVp hK hP hD hZ hS hA (pm_all _) (q0 := 0) (ci := 5) rfl rfl) rfl rfl hl.1 rfl (lv_room (Nat.le_of_ble_eq_true rfl)) dX5_fold_68 ⟨Nat.zero_le _, Nat.zero_le _⟩) hP hD hS hA (pm_all _) (fun r45 w47 H locs h hP hD hS => ?_)
            obtain ⟨u46, rfl⟩ : ∃ z, z = w47 := ⟨_, rfl⟩
            have hP : va_P G.1 vwCl (wP G ad sd hd md rd be u46 ++ (wS G sd inp otp tc fc on ze ou wd lo up ++ (wH G hd hc sa sv ++ (wD G md ab ++ (wR G rd tr rt ++ (wB G be beD kn ct bu bl tu tl bd bm d0 d1 d2 d3 d4 d5)))))) H := hP.perm (pm_all _).symm
            have hD : va_D A (wP G ad sd hd md rd be u46 ++ (wS G sd inp otp tc fc on ze ou wd lo up ++ (wH G hd hc sa sv ++ (wD G md ab ++ (wR G rd tr rt ++ (wB G be beD kn ct bu bl tu tl bd bm d0 d1 d2 d3 d4 d5)))))) := hD.perm (pm_all _).symm
            try dsimp only at h
            exact W.iret hx hb hr (fun t ht hW => ⟨⟨_, (u46, fc, lo, up, hc, sa, sv, ab, tr, rt), rfl, h, by rw [ht]; exact hP, hD⟩, hS.F ht⟩) hS.2.2 dX5_fold_71
    · have h := h.2 c_7
      refine lv_aload_n hx hb dX5_fold_22 rfl (lv_at hl 0 rfl) ?_
      refine lv_bipush (v := (-2 : Int32)) hx hb dX5_fold_23 (by decide) ?_
      refine kp_i (wr := ([] : va_W)) (va_runV (As := [.int (-2 : Int32)]) (rest := []) ⟨hx, hb, hml, hown, hts⟩ (c_X5_fail l G ad sd hd md rd be beD _ er inp otp tc fc on ze ou wd lo up hc sa sv ab tr rt kn ct bu bl tu tl bd bm d0 d1 d2 d3 d4 d5 (-2 : Int32) h) (cwV 1 hts gX5_fold_X5_fail rfl rfl rfl (by decide +kernel) ⟨Nat.le_of_ble_eq_true rfl, Nat.le_of_ble_eq_true rfl⟩) (kpVp hK hP hD hZ hS hA (pm_all _) (q0 := 0) (ci := 5) rfl rfl) rfl rfl hl.1 rfl (lv_room (Nat.le_of_ble_eq_true rfl)) dX5_fold_25 ⟨Nat.zero_le _, Nat.zero_le _⟩) hP hD hS hA (pm_all _) (fun r51 w53 H locs h hP hD hS => ?_)
      obtain ⟨u52, rfl⟩ : ∃ z, z = w53 := ⟨_, rfl⟩
      have hP : va_P G.1 vwCl (wP G ad sd hd md rd be u52 ++ (wS G sd inp otp tc fc on ze ou wd lo up ++ (wH G hd hc sa sv ++ (wD G md ab ++ (wR G rd tr rt ++ (wB G be beD kn ct bu bl tu tl bd bm d0 d1 d2 d3 d4 d5)))))) H := hP.perm (pm_all _).symm
      have hD : va_D A (wP G ad sd hd md rd be u52 ++ (wS G sd inp otp tc fc on ze ou wd lo up ++ (wH G hd hc sa sv ++ (wD G md ab ++ (wR G rd tr rt ++ (wB G be beD kn ct bu bl tu tl bd bm d0 d1 d2 d3 d4 d5)))))) := hD.perm (pm_all _).symm
      try dsimp only at h
      exact W.iret hx hb hr (fun t ht hW => ⟨⟨_, (u52, fc, lo, up, hc, sa, sv, ab, tr, rt), rfl, h, by rw [ht]; exact hP, hD⟩, hS.F ht⟩) hS.2.2 dX5_fold_28
def wp_X5_unfold (a1 : Int32) (er : Nat → Int32) (inp : Int32) (otp : Int32) (tc : Int32) (fc : Int32) (on : Nat → Int32) (ze : Nat → Int32) (ou : Nat → Int32) (wd : Nat → Int64) (lo : Nat → Int32) (up : Nat → Int32) (hc : Int32) (sa : Nat → Nat → Nat) (sv : Nat → SS) (ab : Nat → Int32) (tr : Nat → Int32) (rt : Nat → Int32) (K : Int32 → (Nat → Int32) → Int32 → (Nat → Int32) → (Nat → Int32) → Int32 → (Nat → Nat → Nat) → (Nat → SS) → (Nat → Int32) → (Nat → Int32) → (Nat → Int32) → Prop) : Prop :=
 wp_X4_hasColumn a1 inp otp (fun (r1 : Int32) => ((¬ r1 = 0 → wp_X4_mateOf a1 lo up (fun (r3 : Int32) => ((¬ r3 = (-1 : Int32) → wp_X2_push hc sa sv inp otp tc fc on ze ou wd lo up (fun (u6 : Int32) (u7 : Nat → Nat → Nat) (u8 : Nat → SS) => wp_X4_part a1 fc lo up (fun (u10 : Int32) (u11 : Nat → Int32) (u12 : Nat → Int32) => wp_X5_foldsChanged tc on ze ou u11 ab tr rt (fun (u14 : Nat → Int32) (u15 : Nat → Int32) (u16 : Nat → Int32) => K u10 er u10 u11 u12 u6 u7 u8 u14 u15 u16)))) ∧
 (r3 = (-1 : Int32) → wp_X5_fail (-3 : Int32) er (fun (r20 : Int32) (u21 : Nat → Int32) => K r20 u21 fc lo up hc sa sv ab tr rt))))) ∧
 (r1 = 0 → wp_X5_fail (-2 : Int32) er (fun (r24 : Int32) (u25 : Nat → Int32) => K r24 u25 fc lo up hc sa sv ab tr rt))))
abbrev rm_X5_unfold : Room := { frames := 5, cells := 0, slots := 0, locals := 111 }
set_option maxHeartbeats 4000000 in
set_option maxRecDepth 100000 in
theorem c_X5_unfold (l : Launch) (G : GG) (ad : Nat → Nat) (sd : Nat → Nat) (hd : Nat → Nat) (md : Nat → Nat) (rd : Nat → Nat) (be : Nat → Nat) (beD : Nat → Nat → Nat) (sz : Nat) (er : Nat → Int32) (inp : Int32) (otp : Int32) (tc : Int32) (fc : Int32) (on : Nat → Int32) (ze : Nat → Int32) (ou : Nat → Int32) (wd : Nat → Int64) (lo : Nat → Int32) (up : Nat → Int32) (hc : Int32) (sa : Nat → Nat → Nat) (sv : Nat → SS) (ab : Nat → Int32) (tr : Nat → Int32) (rt : Nat → Int32) (kn : Int32) (ct : Int32) (bu : Nat → Int32) (bl : Nat → Int32) (tu : Nat → Int32) (tl : Nat → Int32) (bd : Nat → Int32) (bm : Nat → Int32) (d0 : Nat → Int32) (d1 : Nat → Int32) (d2 : Nat → Int32) (d3 : Nat → Int32) (d4 : Nat → Int32) (d5 : Nat → Int32) (a1 : Int32) {K : Int32 → (Nat → Int32) → Int32 → (Nat → Int32) → (Nat → Int32) → Int32 → (Nat → Nat → Nat) → (Nat → SS) → (Nat → Int32) → (Nat → Int32) → (Nat → Int32) → Prop} (h : wp_X5_unfold a1 er inp otp tc fc on ze ou wd lo up hc sa sv ab tr rt K) : CI l yX5_unfold wsX5_unfold rm_X5_unfold G [.ref (ad 0), .int a1] (wP G ad sd hd md rd be er ++ (wS G sd inp otp tc fc on ze ou wd lo up ++ (wH G hd hc sa sv ++ (wD G md ab ++ (wR G rd tr rt ++ (wB G be beD kn ct bu bl tu tl bd bm d0 d1 d2 d3 d4 d5)))))) sz (fun u : (Nat → Int32) × Int32 × (Nat → Int32) × (Nat → Int32) × Int32 × (Nat → Nat → Nat) × (Nat → SS) × (Nat → Int32) × (Nat → Int32) × (Nat → Int32) => wP G ad sd hd md rd be u.1 ++ (wS G sd inp otp tc u.2.1 on ze ou wd u.2.2.1 u.2.2.2.1 ++ (wH G hd u.2.2.2.2.1 u.2.2.2.2.2.1 u.2.2.2.2.2.2.1 ++ (wD G md u.2.2.2.2.2.2.2.1 ++ (wR G rd u.2.2.2.2.2.2.2.2.1 u.2.2.2.2.2.2.2.2.2 ++ (wB G be beD kn ct bu bl tu tl bd bm d0 d1 d2 d3 d4 d5)))))) (fun r u => K r u.1 u.2.1 u.2.2.1 u.2.2.2.1 u.2.2.2.2.1 u.2.2.2.2.2.1 u.2.2.2.2.2.2.1 u.2.2.2.2.2.2.2.1 u.2.2.2.2.2.2.2.2.1 u.2.2.2.2.2.2.2.2.2) := by
  refine Met.ofW (cc := cX5_unfold) (maxL := 2) (ret := (some .int)) (by decide) rfl ?_
  intro p e s m args below meth c s₁ B hml hv
  obtain ⟨rfl, hsz, hP, hK, hD0, hZ⟩ := hv
  have hx := B.exec
  have hb := B.bytes
  have hr := B.returns
  have hts := atoms_spec (ws := wsX5_unfold) B.pre
  have hown : s.vm.findClass RX5 = some m.cls := findClass_of_methodNamed B.named
  have hlocks := B.notSynchronized
  subst hsz
  have hD := hD0.self (sz := s.heap.size)
  generalize hAe : va_A (wP G ad sd hd md rd be er ++ (wS G sd inp otp tc fc on ze ou wd lo up ++ (wH G hd hc sa sv ++ (wD G md ab ++ (wR G rd tr rt ++ (wB G be beD kn ct bu bl tu tl bd bm d0 d1 d2 d3 d4 d5)))))) s.heap.size = A at hD hZ ⊢
  have hA : ∀ q : Nat, s.heap.size ≤ q → A q := fun q h => by rw [← hAe]; exact Or.inr h
  have hS : va_S A s.heap s.heap [] := va_S.rf
  have hl := lv_entry ([.ref (ad 0), .int a1]) (n := 2) (Nat.le_of_ble_eq_true rfl)
  rw [lg_entry_eq]
  generalize (lg_sl ([.ref (ad 0), .int a1]) ++ List.replicate (2 - (lg_sl ([.ref (ad 0), .int a1])).length) Slot.unset).toArray = ls at hl ⊢
  have hl : lv_has ls 2 [(0, .ref (ad 0)), (1, .int a1)] := hl
  unfold wp_X5_unfold at h
  have hinX4 : ∀ w ∈ wsX40, w ∈ wsX5_unfold := by decide +kernel
  have hinX5 : ∀ w ∈ wsX50, w ∈ wsX5_unfold := by decide +kernel
  refine lv_aload_n hx hb dX5_unfold_0 rfl (lv_at hl 0 rfl) ?_
  refine va_get (D := G.1) (ci := 5) (v := .ref (sd 0)) (C := RX5) (T := TX5) (N := 6) hx hb hts hinX5 hown hK.1 hP.l 0 rfl rfl 0 (by decide) (hts (.fieldLink RX5 12 "PlaFolder" "state" "LPlaFolder$State;") (by decide +kernel)) (fun _ h9 => h9) rfl dX5_unfold_1 ?_
  refine lv_iload_n hx hb dX5_unfold_4 rfl (lv_at hl 1 rfl) ?_
  refine kp_i (wr := wP G ad sd hd md rd be er ++ (wH G hd hc sa sv ++ (wD G md ab ++ (wR G rd tr rt ++ (wB G be beD kn ct bu bl tu tl bd bm d0 d1 d2 d3 d4 d5))))) (va_runVN (As := [.int a1]) (rest := []) ⟨hx, hb, hml, hown, hts⟩ (c_X4_hasColumn l G sd _ inp otp tc fc on ze ou wd lo up a1 h) ⟨va_cnB 1 hts gX5_unfold_X4_hasColumn_n119 rfl rfl rfl (hK.2.M 23 (q := ("PlaFolder", 119, ⟨"PlaFolder$State", "hasColumn", "(I)Z"⟩, "PlaFolder")) rfl) (hts (.initialized RX4) (by decide +kernel)) (by decide +kernel) ⟨Nat.le_of_ble_eq_true rfl, Nat.le_of_ble_eq_true rfl⟩, hts (.instanceMethod yX4_hasColumn) (by decide +kernel), hts (.selects RX4 yX4_hasColumn yX4_hasColumn) (by decide +kernel)⟩ (kpVp hK hP hD hZ hS hA (pm6_02345_1 (wP G ad sd hd md rd be er) (wS G sd inp otp tc fc on ze ou wd lo up) (wH G hd hc sa sv) (wD G md ab) (wR G rd tr rt) (wB G be beD kn ct bu bl tu tl bd bm d0 d1 d2 d3 d4 d5)) (q0 := 0) (ci := 4) rfl rfl) rfl rfl hl.1 rfl (lv_room (Nat.le_of_ble_eq_true rfl)) dX5_unfold_5 ⟨Nat.zero_le _, Nat.zero_le _⟩) hP hD hS hA (pm6_02345_1 (wP G ad sd hd md rd be er) (wS G sd inp otp tc fc on ze ou wd lo up) (wH G hd hc sa sv) (wD G md ab) (wR G rd tr rt) (wB G be beD kn ct bu bl tu tl bd bm d0 d1 d2 d3 d4 d5)) (fun r1 w27 H locs h hP hD hS => ?_)
  have hP : va_P G.1 vwCl (wP G ad sd hd md rd be er ++ (wS G sd inp otp tc fc on ze ou wd lo up ++ (wH G hd hc sa sv ++ (wD G md ab ++ (wR G rd tr rt ++ (wB G be beD kn ct bu bl tu tl bd bm d0 d1 d2 d3 d4 d5)))))) H := hP.perm (pm6_02345_1 (wP G ad sd hd md rd be er) (wS G sd inp otp tc fc on ze ou wd lo up) (wH G hd hc sa sv) (wD G md ab) (wR G rd tr rt) (wB G be beD kn ct bu bl tu tl bd bm d0 d1 d2 d3 d4 d5)).symm
  have hD : va_D A (wP G ad sd hd md rd be er ++ (wS G sd inp otp tc fc on ze ou wd lo up ++ (wH G hd hc sa sv ++ (wD G md ab ++ (wR G rd tr rt ++ (wB G be beD kn ct bu bl tu tl bd bm d0 d1 d2 d3 d4 d5)))))) := hD.perm (pm6_02345_1 (wP G ad sd hd md rd be er) (wS G sd inp otp tc fc on ze ou wd lo up) (wH G hd hc sa sv) (wD G md ab) (wR G rd tr rt) (wB G be beD kn ct bu bl tu tl bd bm d0 d1 d2 d3 d4 d5)).symm
  try dsimp only at h
  refine lv_if_ne (tgt := 18) hx hb dX5_unfold_8 (by decide) (fun c_2 => ?_) (fun c_2 => ?_)
  · have h := h.1 c_2
    refine lv_aload_n hx hb dX5_unfold_18 rfl (lv_at hl 0 rfl) ?_
    refine va_get (D := G.1) (ci := 5) (v := .ref (sd 0)) (C := RX5) (T := TX5) (N := 6) hx hb hts hinX5 hown hK.1 hP.l 0 rfl rfl 0 (by decide) (hts (.fieldLink RX5 12 "PlaFolder" "state" "LPlaFolder$State;") (by decide +kernel)) (fun _ h9 => h9) rfl dX5_unfold_19 ?_
    refine lv_iload_n hx hb dX5_unfold_22 rfl (lv_at hl 1 rfl) ?_
    refine kp_i (wr := wP G ad sd hd md rd be er ++ (wH G hd hc sa sv ++ (wD G md ab ++ (wR G rd tr rt ++ (wB G be beD kn ct bu bl tu tl bd bm d0 d1 d2 d3 d4 d5))))) (va_runVN (As := [.int a1]) (rest := []) ⟨hx, hb, hml, hown, hts⟩ (c_X4_mateOf l G sd _ inp otp tc fc on ze ou wd lo up a1 h) ⟨va_cnB 1 hts gX5_unfold_X4_mateOf_n129 rfl rfl rfl (hK.2.M 26 (q := ("PlaFolder", 129, ⟨"PlaFolder$State", "mateOf", "(I)I"⟩, "PlaFolder")) rfl) (hts (.initialized RX4) (by decide +kernel)) (by decide +kernel) ⟨Nat.le_of_ble_eq_true rfl, Nat.le_of_ble_eq_true rfl⟩, hts (.instanceMethod yX4_mateOf) (by decide +kernel), hts (.selects RX4 yX4_mateOf yX4_mateOf) (by decide +kernel)⟩ (kpVp hK hP hD hZ hS hA (pm6_02345_1 (wP G ad sd hd md rd be er) (wS G sd inp otp tc fc on ze ou wd lo up) (wH G hd hc sa sv) (wD G md ab) (wR G rd tr rt) (wB G be beD kn ct bu bl tu tl bd bm d0 d1 d2 d3 d4 d5)) (q0 := 0) (ci := 4) rfl rfl) rfl rfl hl.1 rfl (lv_room (Nat.le_of_ble_eq_true rfl)) dX5_unfold_23 ⟨Nat.zero_le _, Nat.zero_le _⟩) hP hD hS hA (pm6_02345_1 (wP G ad sd hd md rd be er) (wS G sd inp otp tc fc on ze ou wd lo up) (wH G hd hc sa sv) (wD G md ab) (wR G rd tr rt) (wB G be beD kn ct bu bl tu tl bd bm d0 d1 d2 d3 d4 d5)) (fun r3 w23 H locs h hP hD hS => ?_)
    have hP : va_P G.1 vwCl (wP G ad sd hd md rd be er ++ (wS G sd inp otp tc fc on ze ou wd lo up ++ (wH G hd hc sa sv ++ (wD G md ab ++ (wR G rd tr rt ++ (wB G be beD kn ct bu bl tu tl bd bm d0 d1 d2 d3 d4 d5)))))) H := hP.perm (pm6_02345_1 (wP G ad sd hd md rd be er) (wS G sd inp otp tc fc on ze ou wd lo up) (wH G hd hc sa sv) (wD G md ab) (wR G rd tr rt) (wB G be beD kn ct bu bl tu tl bd bm d0 d1 d2 d3 d4 d5)).symm
    have hD : va_D A (wP G ad sd hd md rd be er ++ (wS G sd inp otp tc fc on ze ou wd lo up ++ (wH G hd hc sa sv ++ (wD G md ab ++ (wR G rd tr rt ++ (wB G be beD kn ct bu bl tu tl bd bm d0 d1 d2 d3 d4 d5)))))) := hD.perm (pm6_02345_1 (wP G ad sd hd md rd be er) (wS G sd inp otp tc fc on ze ou wd lo up) (wH G hd hc sa sv) (wD G md ab) (wR G rd tr rt) (wB G be beD kn ct bu bl tu tl bd bm d0 d1 d2 d3 d4 d5)).symm
    try dsimp only at h
    refine lv_iconst (v := (-1 : Int32)) hx hb dX5_unfold_26 (by decide) ?_
    refine lv_icmp_ne (tgt := 37) hx hb dX5_unfold_27 (by decide) (fun c_4 => ?_) (fun c_4 => ?_)
    · have h := h.1 c_4
      refine lv_aload_n hx hb dX5_unfold_37 rfl (lv_at hl 0 rfl) ?_
      refine va_get (D := G.1) (ci := 5) (v := .ref (hd 0)) (C := RX5) (T := TX5) (N := 6) hx hb hts hinX5 hown hK.1 hP.l 0 rfl rfl 1 (by decide) (hts (.fieldLink RX5 19 "PlaFolder" "history" "LPlaFolder$History;") (by decide +kernel)) (fun _ h9 => h9) rfl dX5_unfold_38 ?_
      refine lv_aload_n hx hb dX5_unfold_41 rfl (lv_at hl 0 rfl) ?_
      refine va_get (D := G.1) (ci := 5) (v := .ref (sd 0)) (C := RX5) (T := TX5) (N := 6) hx hb hts hinX5 hown hK.1 hP.l 0 rfl rfl 0 (by decide) (hts (.fieldLink RX5 12 "PlaFolder" "state" "LPlaFolder$State;") (by decide +kernel)) (fun _ h9 => h9) rfl dX5_unfold_42 ?_
      refine kp_v (wr := wP G ad sd hd md rd be er ++ (wD G md ab ++ (wR G rd tr rt ++ (wB G be beD kn ct bu bl tu tl bd bm d0 d1 d2 d3 d4 d5)))) (va_runVN (As := [.ref (sd 0)]) (rest := []) ⟨hx, hb, hml, hown, hts⟩ (c_X2_push l G hd sd _ hc sa sv inp otp tc fc on ze ou wd lo up  h) ⟨va_cnB 1 hts gX5_unfold_X2_push_n52 rfl rfl rfl (hK.2.M 7 (q := ("PlaFolder", 52, ⟨"PlaFolder$History", "push", "(LPlaFolder$State;)V"⟩, "PlaFolder")) rfl) (hts (.initialized RX2) (by decide +kernel)) (by decide +kernel) ⟨Nat.le_of_ble_eq_true rfl, Nat.le_of_ble_eq_true rfl⟩, hts (.instanceMethod yX2_push) (by decide +kernel), hts (.selects RX2 yX2_push yX2_push) (by decide +kernel)⟩ (kpVp hK hP hD hZ hS hA (pm6_0345_21 (wP G ad sd hd md rd be er) (wS G sd inp otp tc fc on ze ou wd lo up) (wH G hd hc sa sv) (wD G md ab) (wR G rd tr rt) (wB G be beD kn ct bu bl tu tl bd bm d0 d1 d2 d3 d4 d5)) (q0 := 0) (ci := 2) rfl rfl) rfl rfl hl.1 rfl (lv_room (Nat.le_of_ble_eq_true rfl)) dX5_unfold_45 ⟨Nat.zero_le _, Nat.zero_le _⟩) hP hD hS hA (pm6_0345_21 (wP G ad sd hd md rd be er) (wS G sd inp otp tc fc on ze ou wd lo up) (wH G hd hc sa sv) (wD G md ab) (wR G rd tr rt) (wB G be beD kn ct bu bl tu tl bd bm d0 d1 d2 d3 d4 d5)) (fun w19 H locs h hP hD hS => ?_)
      obtain ⟨u6, u7, u8⟩ := w19
      have hP : va_P G.1 vwCl (wP G ad sd hd md rd be er ++ (wS G sd inp otp tc fc on ze ou wd lo up ++ (wH G hd u6 u7 u8 ++ (wD G md ab ++ (wR G rd tr rt ++ (wB G be beD kn ct bu bl tu tl bd bm d0 d1 d2 d3 d4 d5)))))) H := hP.perm (pm6_0345_21 (wP G ad sd hd md rd be er) (wS G sd inp otp tc fc on ze ou wd lo up) (wH G hd u6 u7 u8) (wD G md ab) (wR G rd tr rt) (wB G be beD kn ct bu bl tu tl bd bm d0 d1 d2 d3 d4 d5)).symm
      have hD : va_D A (wP G ad sd hd md rd be er ++ (wS G sd inp otp tc fc on ze ou wd lo up ++ (wH G hd u6 u7 u8 ++ (wD G md ab ++ (wR G rd tr rt ++ (wB G be beD kn ct bu bl tu tl bd bm d0 d1 d2 d3 d4 d5)))))) := hD.perm (pm6_0345_21 (wP G ad sd hd md rd be er) (wS G sd inp otp tc fc on ze ou wd lo up) (wH G hd u6 u7 u8) (wD G md ab) (wR G rd tr rt) (wB G be beD kn ct bu bl tu tl bd bm d0 d1 d2 d3 d4 d5)).symm
      try dsimp only at h
      refine lv_aload_n hx hb dX5_unfold_48 rfl (lv_at hl 0 rfl) ?_
      refine va_get (D := G.1) (ci := 5) (v := .ref (sd 0)) (C := RX5) (T := TX5) (N := 6) hx hb hts hinX5 hown hK.1 hP.l 0 rfl rfl 0 (by decide) (hts (.fieldLink RX5 12 "PlaFolder" "state" "LPlaFolder$State;") (by decide +kernel)) (fun _ h9 => h9) rfl dX5_unfold_49 ?_
      refine lv_iload_n hx hb dX5_unfold_52 rfl (lv_at hl 1 rfl) ?_
      refine kp_v (wr := wP G ad sd hd md rd be er ++ (wH G hd u6 u7 u8 ++ (wD G md ab ++ (wR G rd tr rt ++ (wB G be beD kn ct bu bl tu tl bd bm d0 d1 d2 d3 d4 d5))))) (va_runVN (As := [.int a1]) (rest := []) ⟨hx, hb, hml, hown, hts⟩ (c_X4_part l G sd _ inp otp tc fc on ze ou wd lo up a1 h) ⟨va_cnB 1 hts gX5_unfold_X4_part_n144 rfl rfl rfl (hK.2.M 29 (q := ("PlaFolder", 144, ⟨"PlaFolder$State", "part", "(I)V"⟩, "PlaFolder")) rfl) (hts (.initialized RX4) (by decide +kernel)) (by decide +kernel) ⟨Nat.le_of_ble_eq_true rfl, Nat.le_of_ble_eq_true rfl⟩, hts (.instanceMethod yX4_part) (by decide +kernel), hts (.selects RX4 yX4_part yX4_part) (by decide +kernel)⟩ (kpVp hK hP hD hZ hS hA (pm6_02345_1 (wP G ad sd hd md rd be er) (wS G sd inp otp tc fc on ze ou wd lo up) (wH G hd u6 u7 u8) (wD G md ab) (wR G rd tr rt) (wB G be beD kn ct bu bl tu tl bd bm d0 d1 d2 d3 d4 d5)) (q0 := 0) (ci := 4) rfl rfl) rfl rfl hl.1 rfl (lv_room (Nat.le_of_ble_eq_true rfl)) dX5_unfold_53 ⟨Nat.zero_le _, Nat.zero_le _⟩) hP hD hS hA (pm6_02345_1 (wP G ad sd hd md rd be er) (wS G sd inp otp tc fc on ze ou wd lo up) (wH G hd u6 u7 u8) (wD G md ab) (wR G rd tr rt) (wB G be beD kn ct bu bl tu tl bd bm d0 d1 d2 d3 d4 d5)) (fun w18 H locs h hP hD hS => ?_)
      obtain ⟨u10, u11, u12⟩ := w18
      have hP : va_P G.1 vwCl (wP G ad sd hd md rd be er ++ (wS G sd inp otp tc u10 on ze ou wd u11 u12 ++ (wH G hd u6 u7 u8 ++ (wD G md ab ++ (wR G rd tr rt ++ (wB G be beD kn ct bu bl tu tl bd bm d0 d1 d2 d3 d4 d5)))))) H := hP.perm (pm6_02345_1 (wP G ad sd hd md rd be er) (wS G sd inp otp tc u10 on ze ou wd u11 u12) (wH G hd u6 u7 u8) (wD G md ab) (wR G rd tr rt) (wB G be beD kn ct bu bl tu tl bd bm d0 d1 d2 d3 d4 d5)).symm
      have hD : va_D A (wP G ad sd hd md rd be er ++ (wS G sd inp otp tc u10 on ze ou wd u11 u12 ++ (wH G hd u6 u7 u8 ++ (wD G md ab ++ (wR G rd tr rt ++ (wB G be beD kn ct bu bl tu tl bd bm d0 d1 d2 d3 d4 d5)))))) := hD.perm (pm6_02345_1 (wP G ad sd hd md rd be er) (wS G sd inp otp tc u10 on ze ou wd u11 u12) (wH G hd u6 u7 u8) (wD G md ab) (wR G rd tr rt) (wB G be beD kn ct bu bl tu tl bd bm d0 d1 d2 d3 d4 d5)).symm
      try dsimp only at h
      refine lv_aload_n hx hb dX5_unfold_56 rfl (lv_at hl 0 rfl) ?_
      refine kp_v (wr := ([] : va_W)) (va_runV (As := []) (rest := []) ⟨hx, hb, hml, hown, hts⟩ (c_X5_foldsChanged l G ad sd hd md rd be beD _ er inp otp tc u10 on ze ou wd u11 u12 u6 u7 u8 ab tr rt kn ct bu bl tu tl bd bm d0 d1 d2 d3 d4 d5  h) (cwV 0 hts gX5_unfold_X5_foldsChanged rfl rfl rfl (by decide +kernel) ⟨Nat.le_of_ble_eq_true rfl, Nat.le_of_ble_eq_true rfl⟩) (kpVp hK hP hD hZ hS hA (pm_all _) (q0 := 0) (ci := 5) rfl rfl) rfl rfl hl.1 rfl (lv_room (Nat.le_of_ble_eq_true rfl)) dX5_unfold_57 ⟨Nat.zero_le _, Nat.zero_le _⟩) hP hD hS hA (pm_all _) (fun w17 H locs h hP hD hS => ?_)
      obtain ⟨u14, u15, u16⟩ := w17
      have hP : va_P G.1 vwCl (wP G ad sd hd md rd be er ++ (wS G sd inp otp tc u10 on ze ou wd u11 u12 ++ (wH G hd u6 u7 u8 ++ (wD G md u14 ++ (wR G rd u15 u16 ++ (wB G be beD kn ct bu bl tu tl bd bm d0 d1 d2 d3 d4 d5)))))) H := hP.perm (pm_all _).symm
      have hD : va_D A (wP G ad sd hd md rd be er ++ (wS G sd inp otp tc u10 on ze ou wd u11 u12 ++ (wH G hd u6 u7 u8 ++ (wD G md u14 ++ (wR G rd u15 u16 ++ (wB G be beD kn ct bu bl tu tl bd bm d0 d1 d2 d3 d4 d5)))))) := hD.perm (pm_all _).symm
      try dsimp only at h
      refine lv_aload_n hx hb dX5_unfold_60 rfl (lv_at hl 0 rfl) ?_
      refine va_get (D := G.1) (ci := 5) (v := .ref (sd 0)) (C := RX5) (T := TX5) (N := 6) hx hb hts hinX5 hown hK.1 hP.l 0 rfl rfl 0 (by decide) (hts (.fieldLink RX5 12 "PlaFolder" "state" "LPlaFolder$State;") (by decide +kernel)) (fun _ h9 => h9) rfl dX5_unfold_61 ?_
      refine va_getN (D := G.1) (ci := 4) (v := .int u10) (C := RX4) (T := TX4) (N := 10) (host := "PlaFolder") hx hb hts hinX4 hown hK.1 hP.r.l 0 rfl rfl 3 (by decide) (hK.2.F 3 (q := ("PlaFolder", 141, "PlaFolder$State", "foldCount", "I", "PlaFolder")) rfl) (fun _ h9 => h9) rfl dX5_unfold_64 ?_
      exact W.iret hx hb hr (fun t ht hW => ⟨⟨_, (er, u10, u11, u12, u6, u7, u8, u14, u15, u16), rfl, h, by rw [ht]; exact hP, hD⟩, hS.F ht⟩) hS.2.2 dX5_unfold_67
    · have h := h.2 c_4
      refine lv_aload_n hx hb dX5_unfold_30 rfl (lv_at hl 0 rfl) ?_
      refine lv_bipush (v := (-3 : Int32)) hx hb dX5_unfold_31 (by decide) ?_
      refine kp_i (wr := ([] : va_W)) (va_runV (As := [.int (-3 : Int32)]) (rest := []) ⟨hx, hb, hml, hown, hts⟩ (c_X5_fail l G ad sd hd md rd be beD _ er inp otp tc fc on ze ou wd lo up hc sa sv ab tr rt kn ct bu bl tu tl bd bm d0 d1 d2 d3 d4 d5 (-3 : Int32) h) (cwV 1 hts gX5_unfold_X5_fail rfl rfl rfl (by decide +kernel) ⟨Nat.le_of_ble_eq_true rfl, Nat.le_of_ble_eq_true rfl⟩) (kpVp hK hP hD hZ hS hA (pm_all _) (q0 := 0) (ci := 5) rfl rfl) rfl rfl hl.1 rfl (lv_room (Nat.le_of_ble_eq_true rfl)) dX5_unfold_33 ⟨Nat.zero_le _, Nat.zero_le _⟩) hP hD hS hA (pm_all _) (fun r20 w22 H locs h hP hD hS => ?_)
      obtain ⟨u21, rfl⟩ : ∃ z, z = w22 := ⟨_, rfl⟩
      have hP : va_P G.1 vwCl (wP G ad sd hd md rd be u21 ++ (wS G sd inp otp tc fc on ze ou wd lo up ++ (wH G hd hc sa sv ++ (wD G md ab ++ (wR G rd tr rt ++ (wB G be beD kn ct bu bl tu tl bd bm d0 d1 d2 d3 d4 d5)))))) H := hP.perm (pm_all _).symm
      have hD : va_D A (wP G ad sd hd md rd be u21 ++ (wS G sd inp otp tc fc on ze ou wd lo up ++ (wH G hd hc sa sv ++ (wD G md ab ++ (wR G rd tr rt ++ (wB G be beD kn ct bu bl tu tl bd bm d0 d1 d2 d3 d4 d5)))))) := hD.perm (pm_all _).symm
      try dsimp only at h
      exact W.iret hx hb hr (fun t ht hW => ⟨⟨_, (u21, fc, lo, up, hc, sa, sv, ab, tr, rt), rfl, h, by rw [ht]; exact hP, hD⟩, hS.F ht⟩) hS.2.2 dX5_unfold_36
  · have h := h.2 c_2
    refine lv_aload_n hx hb dX5_unfold_11 rfl (lv_at hl 0 rfl) ?_
    refine lv_bipush (v := (-2 : Int32)) hx hb dX5_unfold_12 (by decide) ?_
    refine kp_i (wr := ([] : va_W)) (va_runV (As := [.int (-2 : Int32)]) (rest := []) ⟨hx, hb, hml, hown, hts⟩ (c_X5_fail l G ad sd hd md rd be beD _ er inp otp tc fc on ze ou wd lo up hc sa sv ab tr rt kn ct bu bl tu tl bd bm d0 d1 d2 d3 d4 d5 (-2 : Int32) h) (cwV 1 hts gX5_unfold_X5_fail rfl rfl rfl (by decide +kernel) ⟨Nat.le_of_ble_eq_true rfl, Nat.le_of_ble_eq_true rfl⟩) (kpVp hK hP hD hZ hS hA (pm_all _) (q0 := 0) (ci := 5) rfl rfl) rfl rfl hl.1 rfl (lv_room (Nat.le_of_ble_eq_true rfl)) dX5_unfold_14 ⟨Nat.zero_le _, Nat.zero_le _⟩) hP hD hS hA (pm_all _) (fun r24 w26 H locs h hP hD hS => ?_)
    obtain ⟨u25, rfl⟩ : ∃ z, z = w26 := ⟨_, rfl⟩
    have hP : va_P G.1 vwCl (wP G ad sd hd md rd be u25 ++ (wS G sd inp otp tc fc on ze ou wd lo up ++ (wH G hd hc sa sv ++ (wD G md ab ++ (wR G rd tr rt ++ (wB G be beD kn ct bu bl tu tl bd bm d0 d1 d2 d3 d4 d5)))))) H := hP.perm (pm_all _).symm
    have hD : va_D A (wP G ad sd hd md rd be u25 ++ (wS G sd inp otp tc fc on ze ou wd lo up ++ (wH G hd hc sa sv ++ (wD G md ab ++ (wR G rd tr rt ++ (wB G be beD kn ct bu bl tu tl bd bm d0 d1 d2 d3 d4 d5)))))) := hD.perm (pm_all _).symm
    try dsimp only at h
    exact W.iret hx hb hr (fun t ht hW => ⟨⟨_, (u25, fc, lo, up, hc, sa, sv, ab, tr, rt), rfl, h, by rw [ht]; exact hP, hD⟩, hS.F ht⟩) hS.2.2 dX5_unfold_17
def wp_X5_partner (a1 : Int32) (er : Nat → Int32) (inp : Int32) (otp : Int32) (lo : Nat → Int32) (up : Nat → Int32) (K : Int32 → (Nat → Int32) → Prop) : Prop :=
 wp_X4_hasColumn a1 inp otp (fun (r1 : Int32) => ((¬ r1 = 0 → wp_X4_mateOf a1 lo up (fun (r3 : Int32) => K r3 er)) ∧
 (r1 = 0 → wp_X5_fail (-2 : Int32) er (fun (r5 : Int32) (u6 : Nat → Int32) => K r5 u6))))
abbrev rm_X5_partner : Room := { frames := 1, cells := 0, slots := 0, locals := 21 }
set_option maxHeartbeats 4000000 in
set_option maxRecDepth 100000 in
theorem c_X5_partner (l : Launch) (G : GG) (ad : Nat → Nat) (sd : Nat → Nat) (hd : Nat → Nat) (md : Nat → Nat) (rd : Nat → Nat) (be : Nat → Nat) (beD : Nat → Nat → Nat) (sz : Nat) (er : Nat → Int32) (inp : Int32) (otp : Int32) (tc : Int32) (fc : Int32) (on : Nat → Int32) (ze : Nat → Int32) (ou : Nat → Int32) (wd : Nat → Int64) (lo : Nat → Int32) (up : Nat → Int32) (hc : Int32) (sa : Nat → Nat → Nat) (sv : Nat → SS) (ab : Nat → Int32) (tr : Nat → Int32) (rt : Nat → Int32) (kn : Int32) (ct : Int32) (bu : Nat → Int32) (bl : Nat → Int32) (tu : Nat → Int32) (tl : Nat → Int32) (bd : Nat → Int32) (bm : Nat → Int32) (d0 : Nat → Int32) (d1 : Nat → Int32) (d2 : Nat → Int32) (d3 : Nat → Int32) (d4 : Nat → Int32) (d5 : Nat → Int32) (a1 : Int32) {K : Int32 → (Nat → Int32) → Prop} (h : wp_X5_partner a1 er inp otp lo up K) : CI l yX5_partner wsX5_partner rm_X5_partner G [.ref (ad 0), .int a1] (wP G ad sd hd md rd be er ++ (wS G sd inp otp tc fc on ze ou wd lo up ++ (wH G hd hc sa sv ++ (wD G md ab ++ (wR G rd tr rt ++ (wB G be beD kn ct bu bl tu tl bd bm d0 d1 d2 d3 d4 d5)))))) sz (fun u : (Nat → Int32) => wP G ad sd hd md rd be u ++ (wS G sd inp otp tc fc on ze ou wd lo up ++ (wH G hd hc sa sv ++ (wD G md ab ++ (wR G rd tr rt ++ (wB G be beD kn ct bu bl tu tl bd bm d0 d1 d2 d3 d4 d5)))))) (fun r u => K r u) := by
  refine Met.ofW (cc := cX5_partner) (maxL := 2) (ret := (some .int)) (by decide) rfl ?_
  intro p e s m args below meth c s₁ B hml hv
  obtain ⟨rfl, hsz, hP, hK, hD0, hZ⟩ := hv
  have hx := B.exec
  have hb := B.bytes
  have hr := B.returns
  have hts := atoms_spec (ws := wsX5_partner) B.pre
  have hown : s.vm.findClass RX5 = some m.cls := findClass_of_methodNamed B.named
  have hlocks := B.notSynchronized
  subst hsz
  have hD := hD0.self (sz := s.heap.size)
  generalize hAe : va_A (wP G ad sd hd md rd be er ++ (wS G sd inp otp tc fc on ze ou wd lo up ++ (wH G hd hc sa sv ++ (wD G md ab ++ (wR G rd tr rt ++ (wB G be beD kn ct bu bl tu tl bd bm d0 d1 d2 d3 d4 d5)))))) s.heap.size = A at hD hZ ⊢
  have hA : ∀ q : Nat, s.heap.size ≤ q → A q := fun q h => by rw [← hAe]; exact Or.inr h
  have hS : va_S A s.heap s.heap [] := va_S.rf
  have hl := lv_entry ([.ref (ad 0), .int a1]) (n := 2) (Nat.le_of_ble_eq_true rfl)
  rw [lg_entry_eq]
  generalize (lg_sl ([.ref (ad 0), .int a1]) ++ List.replicate (2 - (lg_sl ([.ref (ad 0), .int a1])).length) Slot.unset).toArray = ls at hl ⊢
  have hl : lv_has ls 2 [(0, .ref (ad 0)), (1, .int a1)] := hl
  unfold wp_X5_partner at h
  have hinX5 : ∀ w ∈ wsX50, w ∈ wsX5_partner := by decide +kernel
  refine lv_aload_n hx hb dX5_partner_0 rfl (lv_at hl 0 rfl) ?_
  refine va_get (D := G.1) (ci := 5) (v := .ref (sd 0)) (C := RX5) (T := TX5) (N := 6) hx hb hts hinX5 hown hK.1 hP.l 0 rfl rfl 0 (by decide) (hts (.fieldLink RX5 12 "PlaFolder" "state" "LPlaFolder$State;") (by decide +kernel)) (fun _ h9 => h9) rfl dX5_partner_1 ?_
  refine lv_iload_n hx hb dX5_partner_4 rfl (lv_at hl 1 rfl) ?_
  refine kp_i (wr := wP G ad sd hd md rd be er ++ (wH G hd hc sa sv ++ (wD G md ab ++ (wR G rd tr rt ++ (wB G be beD kn ct bu bl tu tl bd bm d0 d1 d2 d3 d4 d5))))) (va_runVN (As := [.int a1]) (rest := []) ⟨hx, hb, hml, hown, hts⟩ (c_X4_hasColumn l G sd _ inp otp tc fc on ze ou wd lo up a1 h) ⟨va_cnB 1 hts gX5_partner_X4_hasColumn_n119 rfl rfl rfl (hK.2.M 23 (q := ("PlaFolder", 119, ⟨"PlaFolder$State", "hasColumn", "(I)Z"⟩, "PlaFolder")) rfl) (hts (.initialized RX4) (by decide +kernel)) (by decide +kernel) ⟨Nat.le_of_ble_eq_true rfl, Nat.le_of_ble_eq_true rfl⟩, hts (.instanceMethod yX4_hasColumn) (by decide +kernel), hts (.selects RX4 yX4_hasColumn yX4_hasColumn) (by decide +kernel)⟩ (kpVp hK hP hD hZ hS hA (pm6_02345_1 (wP G ad sd hd md rd be er) (wS G sd inp otp tc fc on ze ou wd lo up) (wH G hd hc sa sv) (wD G md ab) (wR G rd tr rt) (wB G be beD kn ct bu bl tu tl bd bm d0 d1 d2 d3 d4 d5)) (q0 := 0) (ci := 4) rfl rfl) rfl rfl hl.1 rfl (lv_room (Nat.le_of_ble_eq_true rfl)) dX5_partner_5 ⟨Nat.zero_le _, Nat.zero_le _⟩) hP hD hS hA (pm6_02345_1 (wP G ad sd hd md rd be er) (wS G sd inp otp tc fc on ze ou wd lo up) (wH G hd hc sa sv) (wD G md ab) (wR G rd tr rt) (wB G be beD kn ct bu bl tu tl bd bm d0 d1 d2 d3 d4 d5)) (fun r1 w8 H locs h hP hD hS => ?_)
  have hP : va_P G.1 vwCl (wP G ad sd hd md rd be er ++ (wS G sd inp otp tc fc on ze ou wd lo up ++ (wH G hd hc sa sv ++ (wD G md ab ++ (wR G rd tr rt ++ (wB G be beD kn ct bu bl tu tl bd bm d0 d1 d2 d3 d4 d5)))))) H := hP.perm (pm6_02345_1 (wP G ad sd hd md rd be er) (wS G sd inp otp tc fc on ze ou wd lo up) (wH G hd hc sa sv) (wD G md ab) (wR G rd tr rt) (wB G be beD kn ct bu bl tu tl bd bm d0 d1 d2 d3 d4 d5)).symm
  have hD : va_D A (wP G ad sd hd md rd be er ++ (wS G sd inp otp tc fc on ze ou wd lo up ++ (wH G hd hc sa sv ++ (wD G md ab ++ (wR G rd tr rt ++ (wB G be beD kn ct bu bl tu tl bd bm d0 d1 d2 d3 d4 d5)))))) := hD.perm (pm6_02345_1 (wP G ad sd hd md rd be er) (wS G sd inp otp tc fc on ze ou wd lo up) (wH G hd hc sa sv) (wD G md ab) (wR G rd tr rt) (wB G be beD kn ct bu bl tu tl bd bm d0 d1 d2 d3 d4 d5)).symm
  try dsimp only at h
  refine lv_if_ne (tgt := 18) hx hb dX5_partner_8 (by decide) (fun c_2 => ?_) (fun c_2 => ?_)
  · have h := h.1 c_2
    refine lv_aload_n hx hb dX5_partner_18 rfl (lv_at hl 0 rfl) ?_
    refine va_get (D := G.1) (ci := 5) (v := .ref (sd 0)) (C := RX5) (T := TX5) (N := 6) hx hb hts hinX5 hown hK.1 hP.l 0 rfl rfl 0 (by decide) (hts (.fieldLink RX5 12 "PlaFolder" "state" "LPlaFolder$State;") (by decide +kernel)) (fun _ h9 => h9) rfl dX5_partner_19 ?_
    refine lv_iload_n hx hb dX5_partner_22 rfl (lv_at hl 1 rfl) ?_
    refine kp_i (wr := wP G ad sd hd md rd be er ++ (wH G hd hc sa sv ++ (wD G md ab ++ (wR G rd tr rt ++ (wB G be beD kn ct bu bl tu tl bd bm d0 d1 d2 d3 d4 d5))))) (va_runVN (As := [.int a1]) (rest := []) ⟨hx, hb, hml, hown, hts⟩ (c_X4_mateOf l G sd _ inp otp tc fc on ze ou wd lo up a1 h) ⟨va_cnB 1 hts gX5_partner_X4_mateOf_n129 rfl rfl rfl (hK.2.M 26 (q := ("PlaFolder", 129, ⟨"PlaFolder$State", "mateOf", "(I)I"⟩, "PlaFolder")) rfl) (hts (.initialized RX4) (by decide +kernel)) (by decide +kernel) ⟨Nat.le_of_ble_eq_true rfl, Nat.le_of_ble_eq_true rfl⟩, hts (.instanceMethod yX4_mateOf) (by decide +kernel), hts (.selects RX4 yX4_mateOf yX4_mateOf) (by decide +kernel)⟩ (kpVp hK hP hD hZ hS hA (pm6_02345_1 (wP G ad sd hd md rd be er) (wS G sd inp otp tc fc on ze ou wd lo up) (wH G hd hc sa sv) (wD G md ab) (wR G rd tr rt) (wB G be beD kn ct bu bl tu tl bd bm d0 d1 d2 d3 d4 d5)) (q0 := 0) (ci := 4) rfl rfl) rfl rfl hl.1 rfl (lv_room (Nat.le_of_ble_eq_true rfl)) dX5_partner_23 ⟨Nat.zero_le _, Nat.zero_le _⟩) hP hD hS hA (pm6_02345_1 (wP G ad sd hd md rd be er) (wS G sd inp otp tc fc on ze ou wd lo up) (wH G hd hc sa sv) (wD G md ab) (wR G rd tr rt) (wB G be beD kn ct bu bl tu tl bd bm d0 d1 d2 d3 d4 d5)) (fun r3 w4 H locs h hP hD hS => ?_)
    have hP : va_P G.1 vwCl (wP G ad sd hd md rd be er ++ (wS G sd inp otp tc fc on ze ou wd lo up ++ (wH G hd hc sa sv ++ (wD G md ab ++ (wR G rd tr rt ++ (wB G be beD kn ct bu bl tu tl bd bm d0 d1 d2 d3 d4 d5)))))) H := hP.perm (pm6_02345_1 (wP G ad sd hd md rd be er) (wS G sd inp otp tc fc on ze ou wd lo up) (wH G hd hc sa sv) (wD G md ab) (wR G rd tr rt) (wB G be beD kn ct bu bl tu tl bd bm d0 d1 d2 d3 d4 d5)).symm
    have hD : va_D A (wP G ad sd hd md rd be er ++ (wS G sd inp otp tc fc on ze ou wd lo up ++ (wH G hd hc sa sv ++ (wD G md ab ++ (wR G rd tr rt ++ (wB G be beD kn ct bu bl tu tl bd bm d0 d1 d2 d3 d4 d5)))))) := hD.perm (pm6_02345_1 (wP G ad sd hd md rd be er) (wS G sd inp otp tc fc on ze ou wd lo up) (wH G hd hc sa sv) (wD G md ab) (wR G rd tr rt) (wB G be beD kn ct bu bl tu tl bd bm d0 d1 d2 d3 d4 d5)).symm
    try dsimp only at h
    exact W.iret hx hb hr (fun t ht hW => ⟨⟨_, er, rfl, h, by rw [ht]; exact hP, hD⟩, hS.F ht⟩) hS.2.2 dX5_partner_26
  · have h := h.2 c_2
    refine lv_aload_n hx hb dX5_partner_11 rfl (lv_at hl 0 rfl) ?_
    refine lv_bipush (v := (-2 : Int32)) hx hb dX5_partner_12 (by decide) ?_
    refine kp_i (wr := ([] : va_W)) (va_runV (As := [.int (-2 : Int32)]) (rest := []) ⟨hx, hb, hml, hown, hts⟩ (c_X5_fail l G ad sd hd md rd be beD _ er inp otp tc fc on ze ou wd lo up hc sa sv ab tr rt kn ct bu bl tu tl bd bm d0 d1 d2 d3 d4 d5 (-2 : Int32) h) (cwV 1 hts gX5_partner_X5_fail rfl rfl rfl (by decide +kernel) ⟨Nat.le_of_ble_eq_true rfl, Nat.le_of_ble_eq_true rfl⟩) (kpVp hK hP hD hZ hS hA (pm_all _) (q0 := 0) (ci := 5) rfl rfl) rfl rfl hl.1 rfl (lv_room (Nat.le_of_ble_eq_true rfl)) dX5_partner_14 ⟨Nat.zero_le _, Nat.zero_le _⟩) hP hD hS hA (pm_all _) (fun r5 w7 H locs h hP hD hS => ?_)
    obtain ⟨u6, rfl⟩ : ∃ z, z = w7 := ⟨_, rfl⟩
    have hP : va_P G.1 vwCl (wP G ad sd hd md rd be u6 ++ (wS G sd inp otp tc fc on ze ou wd lo up ++ (wH G hd hc sa sv ++ (wD G md ab ++ (wR G rd tr rt ++ (wB G be beD kn ct bu bl tu tl bd bm d0 d1 d2 d3 d4 d5)))))) H := hP.perm (pm_all _).symm
    have hD : va_D A (wP G ad sd hd md rd be u6 ++ (wS G sd inp otp tc fc on ze ou wd lo up ++ (wH G hd hc sa sv ++ (wD G md ab ++ (wR G rd tr rt ++ (wB G be beD kn ct bu bl tu tl bd bm d0 d1 d2 d3 d4 d5)))))) := hD.perm (pm_all _).symm
    try dsimp only at h
    exact W.iret hx hb hr (fun t ht hW => ⟨⟨_, u6, rfl, h, by rw [ht]; exact hP, hD⟩, hS.F ht⟩) hS.2.2 dX5_partner_17
def wp_X5_folds (fc : Int32) (K : Int32 → Prop) : Prop :=
 K fc
abbrev rm_X5_folds : Room := { frames := 0, cells := 0, slots := 0, locals := 0 }
set_option maxHeartbeats 4000000 in
set_option maxRecDepth 100000 in
theorem c_X5_folds (l : Launch) (G : GG) (ad : Nat → Nat) (sd : Nat → Nat) (hd : Nat → Nat) (md : Nat → Nat) (rd : Nat → Nat) (be : Nat → Nat) (beD : Nat → Nat → Nat) (sz : Nat) (er : Nat → Int32) (inp : Int32) (otp : Int32) (tc : Int32) (fc : Int32) (on : Nat → Int32) (ze : Nat → Int32) (ou : Nat → Int32) (wd : Nat → Int64) (lo : Nat → Int32) (up : Nat → Int32) (hc : Int32) (sa : Nat → Nat → Nat) (sv : Nat → SS) (ab : Nat → Int32) (tr : Nat → Int32) (rt : Nat → Int32) (kn : Int32) (ct : Int32) (bu : Nat → Int32) (bl : Nat → Int32) (tu : Nat → Int32) (tl : Nat → Int32) (bd : Nat → Int32) (bm : Nat → Int32) (d0 : Nat → Int32) (d1 : Nat → Int32) (d2 : Nat → Int32) (d3 : Nat → Int32) (d4 : Nat → Int32) (d5 : Nat → Int32) {K : Int32 → Prop} (h : wp_X5_folds fc K) : CI l yX5_folds wsX5_folds rm_X5_folds G [.ref (ad 0)] (wP G ad sd hd md rd be er ++ (wS G sd inp otp tc fc on ze ou wd lo up ++ (wH G hd hc sa sv ++ (wD G md ab ++ (wR G rd tr rt ++ (wB G be beD kn ct bu bl tu tl bd bm d0 d1 d2 d3 d4 d5)))))) sz (fun u : Unit => wP G ad sd hd md rd be er ++ (wS G sd inp otp tc fc on ze ou wd lo up ++ (wH G hd hc sa sv ++ (wD G md ab ++ (wR G rd tr rt ++ (wB G be beD kn ct bu bl tu tl bd bm d0 d1 d2 d3 d4 d5)))))) (fun r u => K r ) := by
  refine Met.ofW (cc := cX5_folds) (maxL := 1) (ret := (some .int)) (by decide) rfl ?_
  intro p e s m args below meth c s₁ B hml hv
  obtain ⟨rfl, hsz, hP, hK, hD0, hZ⟩ := hv
  have hx := B.exec
  have hb := B.bytes
  have hr := B.returns
  have hts := atoms_spec (ws := wsX5_folds) B.pre
  have hown : s.vm.findClass RX5 = some m.cls := findClass_of_methodNamed B.named
  have hlocks := B.notSynchronized
  subst hsz
  have hD := hD0.self (sz := s.heap.size)
  generalize hAe : va_A (wP G ad sd hd md rd be er ++ (wS G sd inp otp tc fc on ze ou wd lo up ++ (wH G hd hc sa sv ++ (wD G md ab ++ (wR G rd tr rt ++ (wB G be beD kn ct bu bl tu tl bd bm d0 d1 d2 d3 d4 d5)))))) s.heap.size = A at hD hZ ⊢
  have hA : ∀ q : Nat, s.heap.size ≤ q → A q := fun q h => by rw [← hAe]; exact Or.inr h
  have hS : va_S A s.heap s.heap [] := va_S.rf
  have hl := lv_entry ([.ref (ad 0)]) (n := 1) (Nat.le_of_ble_eq_true rfl)
  rw [lg_entry_eq]
  generalize (lg_sl ([.ref (ad 0)]) ++ List.replicate (1 - (lg_sl ([.ref (ad 0)])).length) Slot.unset).toArray = ls at hl ⊢
  have hl : lv_has ls 1 [(0, .ref (ad 0))] := hl
  unfold wp_X5_folds at h
  have hinX4 : ∀ w ∈ wsX40, w ∈ wsX5_folds := by decide +kernel
  have hinX5 : ∀ w ∈ wsX50, w ∈ wsX5_folds := by decide +kernel
  refine lv_aload_n hx hb dX5_folds_0 rfl (lv_at hl 0 rfl) ?_
  refine va_get (D := G.1) (ci := 5) (v := .ref (sd 0)) (C := RX5) (T := TX5) (N := 6) hx hb hts hinX5 hown hK.1 hP.l 0 rfl rfl 0 (by decide) (hts (.fieldLink RX5 12 "PlaFolder" "state" "LPlaFolder$State;") (by decide +kernel)) (fun _ h9 => h9) rfl dX5_folds_1 ?_
  refine va_getN (D := G.1) (ci := 4) (v := .int fc) (C := RX4) (T := TX4) (N := 10) (host := "PlaFolder") hx hb hts hinX4 hown hK.1 hP.r.l 0 rfl rfl 3 (by decide) (hK.2.F 3 (q := ("PlaFolder", 141, "PlaFolder$State", "foldCount", "I", "PlaFolder")) rfl) (fun _ h9 => h9) rfl dX5_folds_4 ?_
  exact W.iret hx hb hr (fun t ht hW => ⟨⟨_, (), rfl, h, by rw [ht]; exact hP, hD⟩, hS.F ht⟩) hS.2.2 dX5_folds_7
def wp_X5_termAt (a1 : Int32) (er : Nat → Int32) (tc : Int32) (tr : Nat → Int32) (K : Int32 → (Nat → Int32) → Prop) : Prop :=
 wp_X4_hasTerm a1 tc (fun (r1 : Int32) => ((¬ r1 = 0 → (vp_in a1 10 ∧ K (tr a1.toNatClampNeg) er)) ∧
 (r1 = 0 → wp_X5_fail (-2 : Int32) er (fun (r4 : Int32) (u5 : Nat → Int32) => K r4 u5))))
abbrev rm_X5_termAt : Room := { frames := 1, cells := 0, slots := 0, locals := 21 }
set_option maxHeartbeats 4000000 in
set_option maxRecDepth 100000 in
theorem c_X5_termAt (l : Launch) (G : GG) (ad : Nat → Nat) (sd : Nat → Nat) (hd : Nat → Nat) (md : Nat → Nat) (rd : Nat → Nat) (be : Nat → Nat) (beD : Nat → Nat → Nat) (sz : Nat) (er : Nat → Int32) (inp : Int32) (otp : Int32) (tc : Int32) (fc : Int32) (on : Nat → Int32) (ze : Nat → Int32) (ou : Nat → Int32) (wd : Nat → Int64) (lo : Nat → Int32) (up : Nat → Int32) (hc : Int32) (sa : Nat → Nat → Nat) (sv : Nat → SS) (ab : Nat → Int32) (tr : Nat → Int32) (rt : Nat → Int32) (kn : Int32) (ct : Int32) (bu : Nat → Int32) (bl : Nat → Int32) (tu : Nat → Int32) (tl : Nat → Int32) (bd : Nat → Int32) (bm : Nat → Int32) (d0 : Nat → Int32) (d1 : Nat → Int32) (d2 : Nat → Int32) (d3 : Nat → Int32) (d4 : Nat → Int32) (d5 : Nat → Int32) (a1 : Int32) {K : Int32 → (Nat → Int32) → Prop} (h : wp_X5_termAt a1 er tc tr K) : CI l yX5_termAt wsX5_termAt rm_X5_termAt G [.ref (ad 0), .int a1] (wP G ad sd hd md rd be er ++ (wS G sd inp otp tc fc on ze ou wd lo up ++ (wH G hd hc sa sv ++ (wD G md ab ++ (wR G rd tr rt ++ (wB G be beD kn ct bu bl tu tl bd bm d0 d1 d2 d3 d4 d5)))))) sz (fun u : (Nat → Int32) => wP G ad sd hd md rd be u ++ (wS G sd inp otp tc fc on ze ou wd lo up ++ (wH G hd hc sa sv ++ (wD G md ab ++ (wR G rd tr rt ++ (wB G be beD kn ct bu bl tu tl bd bm d0 d1 d2 d3 d4 d5)))))) (fun r u => K r u) := by
  refine Met.ofW (cc := cX5_termAt) (maxL := 2) (ret := (some .int)) (by decide) rfl ?_
  intro p e s m args below meth c s₁ B hml hv
  obtain ⟨rfl, hsz, hP, hK, hD0, hZ⟩ := hv
  have hx := B.exec
  have hb := B.bytes
  have hr := B.returns
  have hts := atoms_spec (ws := wsX5_termAt) B.pre
  have hown : s.vm.findClass RX5 = some m.cls := findClass_of_methodNamed B.named
  have hlocks := B.notSynchronized
  subst hsz
  have hD := hD0.self (sz := s.heap.size)
  generalize hAe : va_A (wP G ad sd hd md rd be er ++ (wS G sd inp otp tc fc on ze ou wd lo up ++ (wH G hd hc sa sv ++ (wD G md ab ++ (wR G rd tr rt ++ (wB G be beD kn ct bu bl tu tl bd bm d0 d1 d2 d3 d4 d5)))))) s.heap.size = A at hD hZ ⊢
  have hA : ∀ q : Nat, s.heap.size ≤ q → A q := fun q h => by rw [← hAe]; exact Or.inr h
  have hS : va_S A s.heap s.heap [] := va_S.rf
  have hl := lv_entry ([.ref (ad 0), .int a1]) (n := 2) (Nat.le_of_ble_eq_true rfl)
  rw [lg_entry_eq]
  generalize (lg_sl ([.ref (ad 0), .int a1]) ++ List.replicate (2 - (lg_sl ([.ref (ad 0), .int a1])).length) Slot.unset).toArray = ls at hl ⊢
  have hl : lv_has ls 2 [(0, .ref (ad 0)), (1, .int a1)] := hl
  unfold wp_X5_termAt at h
  have hinX3 : ∀ w ∈ wsX30, w ∈ wsX5_termAt := by decide +kernel
  have hinX5 : ∀ w ∈ wsX50, w ∈ wsX5_termAt := by decide +kernel
  refine lv_aload_n hx hb dX5_termAt_0 rfl (lv_at hl 0 rfl) ?_
  refine va_get (D := G.1) (ci := 5) (v := .ref (sd 0)) (C := RX5) (T := TX5) (N := 6) hx hb hts hinX5 hown hK.1 hP.l 0 rfl rfl 0 (by decide) (hts (.fieldLink RX5 12 "PlaFolder" "state" "LPlaFolder$State;") (by decide +kernel)) (fun _ h9 => h9) rfl dX5_termAt_1 ?_
  refine lv_iload_n hx hb dX5_termAt_4 rfl (lv_at hl 1 rfl) ?_
  refine kp_i (wr := wP G ad sd hd md rd be er ++ (wH G hd hc sa sv ++ (wD G md ab ++ (wR G rd tr rt ++ (wB G be beD kn ct bu bl tu tl bd bm d0 d1 d2 d3 d4 d5))))) (va_runVN (As := [.int a1]) (rest := []) ⟨hx, hb, hml, hown, hts⟩ (c_X4_hasTerm l G sd _ inp otp tc fc on ze ou wd lo up a1 h) ⟨va_cnB 1 hts gX5_termAt_X4_hasTerm_n75 rfl rfl rfl (hK.2.M 18 (q := ("PlaFolder", 75, ⟨"PlaFolder$State", "hasTerm", "(I)Z"⟩, "PlaFolder")) rfl) (hts (.initialized RX4) (by decide +kernel)) (by decide +kernel) ⟨Nat.le_of_ble_eq_true rfl, Nat.le_of_ble_eq_true rfl⟩, hts (.instanceMethod yX4_hasTerm) (by decide +kernel), hts (.selects RX4 yX4_hasTerm yX4_hasTerm) (by decide +kernel)⟩ (kpVp hK hP hD hZ hS hA (pm6_02345_1 (wP G ad sd hd md rd be er) (wS G sd inp otp tc fc on ze ou wd lo up) (wH G hd hc sa sv) (wD G md ab) (wR G rd tr rt) (wB G be beD kn ct bu bl tu tl bd bm d0 d1 d2 d3 d4 d5)) (q0 := 0) (ci := 4) rfl rfl) rfl rfl hl.1 rfl (lv_room (Nat.le_of_ble_eq_true rfl)) dX5_termAt_5 ⟨Nat.zero_le _, Nat.zero_le _⟩) hP hD hS hA (pm6_02345_1 (wP G ad sd hd md rd be er) (wS G sd inp otp tc fc on ze ou wd lo up) (wH G hd hc sa sv) (wD G md ab) (wR G rd tr rt) (wB G be beD kn ct bu bl tu tl bd bm d0 d1 d2 d3 d4 d5)) (fun r1 w7 H locs h hP hD hS => ?_)
  have hP : va_P G.1 vwCl (wP G ad sd hd md rd be er ++ (wS G sd inp otp tc fc on ze ou wd lo up ++ (wH G hd hc sa sv ++ (wD G md ab ++ (wR G rd tr rt ++ (wB G be beD kn ct bu bl tu tl bd bm d0 d1 d2 d3 d4 d5)))))) H := hP.perm (pm6_02345_1 (wP G ad sd hd md rd be er) (wS G sd inp otp tc fc on ze ou wd lo up) (wH G hd hc sa sv) (wD G md ab) (wR G rd tr rt) (wB G be beD kn ct bu bl tu tl bd bm d0 d1 d2 d3 d4 d5)).symm
  have hD : va_D A (wP G ad sd hd md rd be er ++ (wS G sd inp otp tc fc on ze ou wd lo up ++ (wH G hd hc sa sv ++ (wD G md ab ++ (wR G rd tr rt ++ (wB G be beD kn ct bu bl tu tl bd bm d0 d1 d2 d3 d4 d5)))))) := hD.perm (pm6_02345_1 (wP G ad sd hd md rd be er) (wS G sd inp otp tc fc on ze ou wd lo up) (wH G hd hc sa sv) (wD G md ab) (wR G rd tr rt) (wB G be beD kn ct bu bl tu tl bd bm d0 d1 d2 d3 d4 d5)).symm
  try dsimp only at h
  refine lv_if_ne (tgt := 18) hx hb dX5_termAt_8 (by decide) (fun c_2 => ?_) (fun c_2 => ?_)
  · have h := h.1 c_2
    refine lv_aload_n hx hb dX5_termAt_18 rfl (lv_at hl 0 rfl) ?_
    refine va_get (D := G.1) (ci := 5) (v := .ref (rd 0)) (C := RX5) (T := TX5) (N := 6) hx hb hts hinX5 hown hK.1 hP.l 0 rfl rfl 3 (by decide) (hts (.fieldLink RX5 33 "PlaFolder" "rows" "LPlaFolder$RowOrder;") (by decide +kernel)) (fun _ h9 => h9) rfl dX5_termAt_19 ?_
    refine va_getN (D := G.1) (ci := 3) (v := .ref (rd 1)) (C := RX3) (T := TX3) (N := 2) (host := "PlaFolder") hx hb hts hinX3 hown hK.1 hP.r.r.r.r.l 0 rfl rfl 0 (by decide) (hK.2.F 11 (q := ("PlaFolder", 147, "PlaFolder$RowOrder", "termInRow", "[I", "PlaFolder")) rfl) (fun _ h9 => h9) rfl dX5_termAt_22 ?_
    refine lv_iload_n hx hb dX5_termAt_25 rfl (lv_at hl 1 rfl) ?_
    obtain ⟨hi3, h⟩ := h
    refine x_iald hx hb hK hP.r.r.r.r.l 1 rfl hi3 rfl dX5_termAt_26 ?_
    exact W.iret hx hb hr (fun t ht hW => ⟨⟨_, er, rfl, h, by rw [ht]; exact hP, hD⟩, hS.F ht⟩) hS.2.2 dX5_termAt_27
  · have h := h.2 c_2
    refine lv_aload_n hx hb dX5_termAt_11 rfl (lv_at hl 0 rfl) ?_
    refine lv_bipush (v := (-2 : Int32)) hx hb dX5_termAt_12 (by decide) ?_
    refine kp_i (wr := ([] : va_W)) (va_runV (As := [.int (-2 : Int32)]) (rest := []) ⟨hx, hb, hml, hown, hts⟩ (c_X5_fail l G ad sd hd md rd be beD _ er inp otp tc fc on ze ou wd lo up hc sa sv ab tr rt kn ct bu bl tu tl bd bm d0 d1 d2 d3 d4 d5 (-2 : Int32) h) (cwV 1 hts gX5_termAt_X5_fail rfl rfl rfl (by decide +kernel) ⟨Nat.le_of_ble_eq_true rfl, Nat.le_of_ble_eq_true rfl⟩) (kpVp hK hP hD hZ hS hA (pm_all _) (q0 := 0) (ci := 5) rfl rfl) rfl rfl hl.1 rfl (lv_room (Nat.le_of_ble_eq_true rfl)) dX5_termAt_14 ⟨Nat.zero_le _, Nat.zero_le _⟩) hP hD hS hA (pm_all _) (fun r4 w6 H locs h hP hD hS => ?_)
    obtain ⟨u5, rfl⟩ : ∃ z, z = w6 := ⟨_, rfl⟩
    have hP : va_P G.1 vwCl (wP G ad sd hd md rd be u5 ++ (wS G sd inp otp tc fc on ze ou wd lo up ++ (wH G hd hc sa sv ++ (wD G md ab ++ (wR G rd tr rt ++ (wB G be beD kn ct bu bl tu tl bd bm d0 d1 d2 d3 d4 d5)))))) H := hP.perm (pm_all _).symm
    have hD : va_D A (wP G ad sd hd md rd be u5 ++ (wS G sd inp otp tc fc on ze ou wd lo up ++ (wH G hd hc sa sv ++ (wD G md ab ++ (wR G rd tr rt ++ (wB G be beD kn ct bu bl tu tl bd bm d0 d1 d2 d3 d4 d5)))))) := hD.perm (pm_all _).symm
    try dsimp only at h
    exact W.iret hx hb hr (fun t ht hW => ⟨⟨_, u5, rfl, h, by rw [ht]; exact hP, hD⟩, hS.F ht⟩) hS.2.2 dX5_termAt_17
def wp_X5_rowOf (a1 : Int32) (er : Nat → Int32) (tc : Int32) (rt : Nat → Int32) (K : Int32 → (Nat → Int32) → Prop) : Prop :=
 wp_X4_hasTerm a1 tc (fun (r1 : Int32) => ((¬ r1 = 0 → (vp_in a1 10 ∧ K (rt a1.toNatClampNeg) er)) ∧
 (r1 = 0 → wp_X5_fail (-2 : Int32) er (fun (r4 : Int32) (u5 : Nat → Int32) => K r4 u5))))
abbrev rm_X5_rowOf : Room := { frames := 1, cells := 0, slots := 0, locals := 21 }
set_option maxHeartbeats 4000000 in
set_option maxRecDepth 100000 in
theorem c_X5_rowOf (l : Launch) (G : GG) (ad : Nat → Nat) (sd : Nat → Nat) (hd : Nat → Nat) (md : Nat → Nat) (rd : Nat → Nat) (be : Nat → Nat) (beD : Nat → Nat → Nat) (sz : Nat) (er : Nat → Int32) (inp : Int32) (otp : Int32) (tc : Int32) (fc : Int32) (on : Nat → Int32) (ze : Nat → Int32) (ou : Nat → Int32) (wd : Nat → Int64) (lo : Nat → Int32) (up : Nat → Int32) (hc : Int32) (sa : Nat → Nat → Nat) (sv : Nat → SS) (ab : Nat → Int32) (tr : Nat → Int32) (rt : Nat → Int32) (kn : Int32) (ct : Int32) (bu : Nat → Int32) (bl : Nat → Int32) (tu : Nat → Int32) (tl : Nat → Int32) (bd : Nat → Int32) (bm : Nat → Int32) (d0 : Nat → Int32) (d1 : Nat → Int32) (d2 : Nat → Int32) (d3 : Nat → Int32) (d4 : Nat → Int32) (d5 : Nat → Int32) (a1 : Int32) {K : Int32 → (Nat → Int32) → Prop} (h : wp_X5_rowOf a1 er tc rt K) : CI l yX5_rowOf wsX5_rowOf rm_X5_rowOf G [.ref (ad 0), .int a1] (wP G ad sd hd md rd be er ++ (wS G sd inp otp tc fc on ze ou wd lo up ++ (wH G hd hc sa sv ++ (wD G md ab ++ (wR G rd tr rt ++ (wB G be beD kn ct bu bl tu tl bd bm d0 d1 d2 d3 d4 d5)))))) sz (fun u : (Nat → Int32) => wP G ad sd hd md rd be u ++ (wS G sd inp otp tc fc on ze ou wd lo up ++ (wH G hd hc sa sv ++ (wD G md ab ++ (wR G rd tr rt ++ (wB G be beD kn ct bu bl tu tl bd bm d0 d1 d2 d3 d4 d5)))))) (fun r u => K r u) := by
  refine Met.ofW (cc := cX5_rowOf) (maxL := 2) (ret := (some .int)) (by decide) rfl ?_
  intro p e s m args below meth c s₁ B hml hv
  obtain ⟨rfl, hsz, hP, hK, hD0, hZ⟩ := hv
  have hx := B.exec
  have hb := B.bytes
  have hr := B.returns
  have hts := atoms_spec (ws := wsX5_rowOf) B.pre
  have hown : s.vm.findClass RX5 = some m.cls := findClass_of_methodNamed B.named
  have hlocks := B.notSynchronized
  subst hsz
  have hD := hD0.self (sz := s.heap.size)
  generalize hAe : va_A (wP G ad sd hd md rd be er ++ (wS G sd inp otp tc fc on ze ou wd lo up ++ (wH G hd hc sa sv ++ (wD G md ab ++ (wR G rd tr rt ++ (wB G be beD kn ct bu bl tu tl bd bm d0 d1 d2 d3 d4 d5)))))) s.heap.size = A at hD hZ ⊢
  have hA : ∀ q : Nat, s.heap.size ≤ q → A q := fun q h => by rw [← hAe]; exact Or.inr h
  have hS : va_S A s.heap s.heap [] := va_S.rf
  have hl := lv_entry ([.ref (ad 0), .int a1]) (n := 2) (Nat.le_of_ble_eq_true rfl)
  rw [lg_entry_eq]
  generalize (lg_sl ([.ref (ad 0), .int a1]) ++ List.replicate (2 - (lg_sl ([.ref (ad 0), .int a1])).length) Slot.unset).toArray = ls at hl ⊢
  have hl : lv_has ls 2 [(0, .ref (ad 0)), (1, .int a1)] := hl
  unfold wp_X5_rowOf at h
  have hinX3 : ∀ w ∈ wsX30, w ∈ wsX5_rowOf := by decide +kernel
  have hinX5 : ∀ w ∈ wsX50, w ∈ wsX5_rowOf := by decide +kernel
  refine lv_aload_n hx hb dX5_rowOf_0 rfl (lv_at hl 0 rfl) ?_
  refine va_get (D := G.1) (ci := 5) (v := .ref (sd 0)) (C := RX5) (T := TX5) (N := 6) hx hb hts hinX5 hown hK.1 hP.l 0 rfl rfl 0 (by decide) (hts (.fieldLink RX5 12 "PlaFolder" "state" "LPlaFolder$State;") (by decide +kernel)) (fun _ h9 => h9) rfl dX5_rowOf_1 ?_
  refine lv_iload_n hx hb dX5_rowOf_4 rfl (lv_at hl 1 rfl) ?_
  refine kp_i (wr := wP G ad sd hd md rd be er ++ (wH G hd hc sa sv ++ (wD G md ab ++ (wR G rd tr rt ++ (wB G be beD kn ct bu bl tu tl bd bm d0 d1 d2 d3 d4 d5))))) (va_runVN (As := [.int a1]) (rest := []) ⟨hx, hb, hml, hown, hts⟩ (c_X4_hasTerm l G sd _ inp otp tc fc on ze ou wd lo up a1 h) ⟨va_cnB 1 hts gX5_rowOf_X4_hasTerm_n75 rfl rfl rfl (hK.2.M 18 (q := ("PlaFolder", 75, ⟨"PlaFolder$State", "hasTerm", "(I)Z"⟩, "PlaFolder")) rfl) (hts (.initialized RX4) (by decide +kernel)) (by decide +kernel) ⟨Nat.le_of_ble_eq_true rfl, Nat.le_of_ble_eq_true rfl⟩, hts (.instanceMethod yX4_hasTerm) (by decide +kernel), hts (.selects RX4 yX4_hasTerm yX4_hasTerm) (by decide +kernel)⟩ (kpVp hK hP hD hZ hS hA (pm6_02345_1 (wP G ad sd hd md rd be er) (wS G sd inp otp tc fc on ze ou wd lo up) (wH G hd hc sa sv) (wD G md ab) (wR G rd tr rt) (wB G be beD kn ct bu bl tu tl bd bm d0 d1 d2 d3 d4 d5)) (q0 := 0) (ci := 4) rfl rfl) rfl rfl hl.1 rfl (lv_room (Nat.le_of_ble_eq_true rfl)) dX5_rowOf_5 ⟨Nat.zero_le _, Nat.zero_le _⟩) hP hD hS hA (pm6_02345_1 (wP G ad sd hd md rd be er) (wS G sd inp otp tc fc on ze ou wd lo up) (wH G hd hc sa sv) (wD G md ab) (wR G rd tr rt) (wB G be beD kn ct bu bl tu tl bd bm d0 d1 d2 d3 d4 d5)) (fun r1 w7 H locs h hP hD hS => ?_)
  have hP : va_P G.1 vwCl (wP G ad sd hd md rd be er ++ (wS G sd inp otp tc fc on ze ou wd lo up ++ (wH G hd hc sa sv ++ (wD G md ab ++ (wR G rd tr rt ++ (wB G be beD kn ct bu bl tu tl bd bm d0 d1 d2 d3 d4 d5)))))) H := hP.perm (pm6_02345_1 (wP G ad sd hd md rd be er) (wS G sd inp otp tc fc on ze ou wd lo up) (wH G hd hc sa sv) (wD G md ab) (wR G rd tr rt) (wB G be beD kn ct bu bl tu tl bd bm d0 d1 d2 d3 d4 d5)).symm
  have hD : va_D A (wP G ad sd hd md rd be er ++ (wS G sd inp otp tc fc on ze ou wd lo up ++ (wH G hd hc sa sv ++ (wD G md ab ++ (wR G rd tr rt ++ (wB G be beD kn ct bu bl tu tl bd bm d0 d1 d2 d3 d4 d5)))))) := hD.perm (pm6_02345_1 (wP G ad sd hd md rd be er) (wS G sd inp otp tc fc on ze ou wd lo up) (wH G hd hc sa sv) (wD G md ab) (wR G rd tr rt) (wB G be beD kn ct bu bl tu tl bd bm d0 d1 d2 d3 d4 d5)).symm
  try dsimp only at h
  refine lv_if_ne (tgt := 18) hx hb dX5_rowOf_8 (by decide) (fun c_2 => ?_) (fun c_2 => ?_)
  · have h := h.1 c_2
    refine lv_aload_n hx hb dX5_rowOf_18 rfl (lv_at hl 0 rfl) ?_
    refine va_get (D := G.1) (ci := 5) (v := .ref (rd 0)) (C := RX5) (T := TX5) (N := 6) hx hb hts hinX5 hown hK.1 hP.l 0 rfl rfl 3 (by decide) (hts (.fieldLink RX5 33 "PlaFolder" "rows" "LPlaFolder$RowOrder;") (by decide +kernel)) (fun _ h9 => h9) rfl dX5_rowOf_19 ?_
    refine va_getN (D := G.1) (ci := 3) (v := .ref (rd 2)) (C := RX3) (T := TX3) (N := 2) (host := "PlaFolder") hx hb hts hinX3 hown hK.1 hP.r.r.r.r.l 0 rfl rfl 1 (by decide) (hK.2.F 12 (q := ("PlaFolder", 150, "PlaFolder$RowOrder", "rowOfTerm", "[I", "PlaFolder")) rfl) (fun _ h9 => h9) rfl dX5_rowOf_22 ?_
    refine lv_iload_n hx hb dX5_rowOf_25 rfl (lv_at hl 1 rfl) ?_
    obtain ⟨hi3, h⟩ := h
    refine x_iald hx hb hK hP.r.r.r.r.l 2 rfl hi3 rfl dX5_rowOf_26 ?_
    exact W.iret hx hb hr (fun t ht hW => ⟨⟨_, er, rfl, h, by rw [ht]; exact hP, hD⟩, hS.F ht⟩) hS.2.2 dX5_rowOf_27
  · have h := h.2 c_2
    refine lv_aload_n hx hb dX5_rowOf_11 rfl (lv_at hl 0 rfl) ?_
    refine lv_bipush (v := (-2 : Int32)) hx hb dX5_rowOf_12 (by decide) ?_
    refine kp_i (wr := ([] : va_W)) (va_runV (As := [.int (-2 : Int32)]) (rest := []) ⟨hx, hb, hml, hown, hts⟩ (c_X5_fail l G ad sd hd md rd be beD _ er inp otp tc fc on ze ou wd lo up hc sa sv ab tr rt kn ct bu bl tu tl bd bm d0 d1 d2 d3 d4 d5 (-2 : Int32) h) (cwV 1 hts gX5_rowOf_X5_fail rfl rfl rfl (by decide +kernel) ⟨Nat.le_of_ble_eq_true rfl, Nat.le_of_ble_eq_true rfl⟩) (kpVp hK hP hD hZ hS hA (pm_all _) (q0 := 0) (ci := 5) rfl rfl) rfl rfl hl.1 rfl (lv_room (Nat.le_of_ble_eq_true rfl)) dX5_rowOf_14 ⟨Nat.zero_le _, Nat.zero_le _⟩) hP hD hS hA (pm_all _) (fun r4 w6 H locs h hP hD hS => ?_)
    obtain ⟨u5, rfl⟩ : ∃ z, z = w6 := ⟨_, rfl⟩
    have hP : va_P G.1 vwCl (wP G ad sd hd md rd be u5 ++ (wS G sd inp otp tc fc on ze ou wd lo up ++ (wH G hd hc sa sv ++ (wD G md ab ++ (wR G rd tr rt ++ (wB G be beD kn ct bu bl tu tl bd bm d0 d1 d2 d3 d4 d5)))))) H := hP.perm (pm_all _).symm
    have hD : va_D A (wP G ad sd hd md rd be u5 ++ (wS G sd inp otp tc fc on ze ou wd lo up ++ (wH G hd hc sa sv ++ (wD G md ab ++ (wR G rd tr rt ++ (wB G be beD kn ct bu bl tu tl bd bm d0 d1 d2 d3 d4 d5)))))) := hD.perm (pm_all _).symm
    try dsimp only at h
    exact W.iret hx hb hr (fun t ht hW => ⟨⟨_, u5, rfl, h, by rw [ht]; exact hP, hD⟩, hS.F ht⟩) hS.2.2 dX5_rowOf_17
def wp_X5_mustPrecede (a1 : Int32) (a2 : Int32) (er : Nat → Int32) (tc : Int32) (ab : Nat → Int32) (K : Int32 → (Nat → Int32) → Prop) : Prop :=
 wp_X4_hasTerm a1 tc (fun (r1 : Int32) => ((r1 = 0 → wp_X5_fail (-2 : Int32) er (fun (r3 : Int32) (u4 : Nat → Int32) => K r3 u4)) ∧
 (¬ (r1 = 0) → wp_X4_hasTerm a2 tc (fun (r6 : Int32) => ((¬ r6 = 0 → (vp_in a2 10 ∧ wp_X5_contains (ab a2.toNatClampNeg) a1 (fun (r9 : Int32) => wp_X5_flag r9 (fun (r10 : Int32) => K r10 er)))) ∧
 (r6 = 0 → wp_X5_fail (-2 : Int32) er (fun (r13 : Int32) (u14 : Nat → Int32) => K r13 u14)))))))
abbrev rm_X5_mustPrecede : Room := { frames := 1, cells := 0, slots := 0, locals := 21 }
set_option maxHeartbeats 4000000 in
set_option maxRecDepth 100000 in
theorem c_X5_mustPrecede (l : Launch) (G : GG) (ad : Nat → Nat) (sd : Nat → Nat) (hd : Nat → Nat) (md : Nat → Nat) (rd : Nat → Nat) (be : Nat → Nat) (beD : Nat → Nat → Nat) (sz : Nat) (er : Nat → Int32) (inp : Int32) (otp : Int32) (tc : Int32) (fc : Int32) (on : Nat → Int32) (ze : Nat → Int32) (ou : Nat → Int32) (wd : Nat → Int64) (lo : Nat → Int32) (up : Nat → Int32) (hc : Int32) (sa : Nat → Nat → Nat) (sv : Nat → SS) (ab : Nat → Int32) (tr : Nat → Int32) (rt : Nat → Int32) (kn : Int32) (ct : Int32) (bu : Nat → Int32) (bl : Nat → Int32) (tu : Nat → Int32) (tl : Nat → Int32) (bd : Nat → Int32) (bm : Nat → Int32) (d0 : Nat → Int32) (d1 : Nat → Int32) (d2 : Nat → Int32) (d3 : Nat → Int32) (d4 : Nat → Int32) (d5 : Nat → Int32) (a1 : Int32) (a2 : Int32) {K : Int32 → (Nat → Int32) → Prop} (h : wp_X5_mustPrecede a1 a2 er tc ab K) : CI l yX5_mustPrecede wsX5_mustPrecede rm_X5_mustPrecede G [.ref (ad 0), .int a1, .int a2] (wP G ad sd hd md rd be er ++ (wS G sd inp otp tc fc on ze ou wd lo up ++ (wH G hd hc sa sv ++ (wD G md ab ++ (wR G rd tr rt ++ (wB G be beD kn ct bu bl tu tl bd bm d0 d1 d2 d3 d4 d5)))))) sz (fun u : (Nat → Int32) => wP G ad sd hd md rd be u ++ (wS G sd inp otp tc fc on ze ou wd lo up ++ (wH G hd hc sa sv ++ (wD G md ab ++ (wR G rd tr rt ++ (wB G be beD kn ct bu bl tu tl bd bm d0 d1 d2 d3 d4 d5)))))) (fun r u => K r u) := by
  refine Met.ofW (cc := cX5_mustPrecede) (maxL := 3) (ret := (some .int)) (by decide) rfl ?_
  intro p e s m args below meth c s₁ B hml hv
  obtain ⟨rfl, hsz, hP, hK, hD0, hZ⟩ := hv
  have hx := B.exec
  have hb := B.bytes
  have hr := B.returns
  have hts := atoms_spec (ws := wsX5_mustPrecede) B.pre
  have hown : s.vm.findClass RX5 = some m.cls := findClass_of_methodNamed B.named
  have hlocks := B.notSynchronized
  subst hsz
  have hD := hD0.self (sz := s.heap.size)
  generalize hAe : va_A (wP G ad sd hd md rd be er ++ (wS G sd inp otp tc fc on ze ou wd lo up ++ (wH G hd hc sa sv ++ (wD G md ab ++ (wR G rd tr rt ++ (wB G be beD kn ct bu bl tu tl bd bm d0 d1 d2 d3 d4 d5)))))) s.heap.size = A at hD hZ ⊢
  have hA : ∀ q : Nat, s.heap.size ≤ q → A q := fun q h => by rw [← hAe]; exact Or.inr h
  have hS : va_S A s.heap s.heap [] := va_S.rf
  have hl := lv_entry ([.ref (ad 0), .int a1, .int a2]) (n := 3) (Nat.le_of_ble_eq_true rfl)
  rw [lg_entry_eq]
  generalize (lg_sl ([.ref (ad 0), .int a1, .int a2]) ++ List.replicate (3 - (lg_sl ([.ref (ad 0), .int a1, .int a2])).length) Slot.unset).toArray = ls at hl ⊢
  have hl : lv_has ls 3 [(0, .ref (ad 0)), (1, .int a1), (2, .int a2)] := hl
  unfold wp_X5_mustPrecede at h
  have hinX1 : ∀ w ∈ wsX10, w ∈ wsX5_mustPrecede := by decide +kernel
  have hinX5 : ∀ w ∈ wsX50, w ∈ wsX5_mustPrecede := by decide +kernel
  refine lv_aload_n hx hb dX5_mustPrecede_0 rfl (lv_at hl 0 rfl) ?_
  refine va_get (D := G.1) (ci := 5) (v := .ref (sd 0)) (C := RX5) (T := TX5) (N := 6) hx hb hts hinX5 hown hK.1 hP.l 0 rfl rfl 0 (by decide) (hts (.fieldLink RX5 12 "PlaFolder" "state" "LPlaFolder$State;") (by decide +kernel)) (fun _ h9 => h9) rfl dX5_mustPrecede_1 ?_
  refine lv_iload_n hx hb dX5_mustPrecede_4 rfl (lv_at hl 1 rfl) ?_
  refine kp_i (wr := wP G ad sd hd md rd be er ++ (wH G hd hc sa sv ++ (wD G md ab ++ (wR G rd tr rt ++ (wB G be beD kn ct bu bl tu tl bd bm d0 d1 d2 d3 d4 d5))))) (va_runVN (As := [.int a1]) (rest := []) ⟨hx, hb, hml, hown, hts⟩ (c_X4_hasTerm l G sd _ inp otp tc fc on ze ou wd lo up a1 h) ⟨va_cnB 1 hts gX5_mustPrecede_X4_hasTerm_n75 rfl rfl rfl (hK.2.M 18 (q := ("PlaFolder", 75, ⟨"PlaFolder$State", "hasTerm", "(I)Z"⟩, "PlaFolder")) rfl) (hts (.initialized RX4) (by decide +kernel)) (by decide +kernel) ⟨Nat.le_of_ble_eq_true rfl, Nat.le_of_ble_eq_true rfl⟩, hts (.instanceMethod yX4_hasTerm) (by decide +kernel), hts (.selects RX4 yX4_hasTerm yX4_hasTerm) (by decide +kernel)⟩ (kpVp hK hP hD hZ hS hA (pm6_02345_1 (wP G ad sd hd md rd be er) (wS G sd inp otp tc fc on ze ou wd lo up) (wH G hd hc sa sv) (wD G md ab) (wR G rd tr rt) (wB G be beD kn ct bu bl tu tl bd bm d0 d1 d2 d3 d4 d5)) (q0 := 0) (ci := 4) rfl rfl) rfl rfl hl.1 rfl (lv_room (Nat.le_of_ble_eq_true rfl)) dX5_mustPrecede_5 ⟨Nat.zero_le _, Nat.zero_le _⟩) hP hD hS hA (pm6_02345_1 (wP G ad sd hd md rd be er) (wS G sd inp otp tc fc on ze ou wd lo up) (wH G hd hc sa sv) (wD G md ab) (wR G rd tr rt) (wB G be beD kn ct bu bl tu tl bd bm d0 d1 d2 d3 d4 d5)) (fun r1 w17 H locs h hP hD hS => ?_)
  have hP : va_P G.1 vwCl (wP G ad sd hd md rd be er ++ (wS G sd inp otp tc fc on ze ou wd lo up ++ (wH G hd hc sa sv ++ (wD G md ab ++ (wR G rd tr rt ++ (wB G be beD kn ct bu bl tu tl bd bm d0 d1 d2 d3 d4 d5)))))) H := hP.perm (pm6_02345_1 (wP G ad sd hd md rd be er) (wS G sd inp otp tc fc on ze ou wd lo up) (wH G hd hc sa sv) (wD G md ab) (wR G rd tr rt) (wB G be beD kn ct bu bl tu tl bd bm d0 d1 d2 d3 d4 d5)).symm
  have hD : va_D A (wP G ad sd hd md rd be er ++ (wS G sd inp otp tc fc on ze ou wd lo up ++ (wH G hd hc sa sv ++ (wD G md ab ++ (wR G rd tr rt ++ (wB G be beD kn ct bu bl tu tl bd bm d0 d1 d2 d3 d4 d5)))))) := hD.perm (pm6_02345_1 (wP G ad sd hd md rd be er) (wS G sd inp otp tc fc on ze ou wd lo up) (wH G hd hc sa sv) (wD G md ab) (wR G rd tr rt) (wB G be beD kn ct bu bl tu tl bd bm d0 d1 d2 d3 d4 d5)).symm
  try dsimp only at h
  refine lv_if_eq (tgt := 22) hx hb dX5_mustPrecede_8 (by decide) (fun c_2 => ?_) (fun c_2 => ?_)
  · have h := h.1 c_2
    refine lv_aload_n hx hb dX5_mustPrecede_22 rfl (lv_at hl 0 rfl) ?_
    refine lv_bipush (v := (-2 : Int32)) hx hb dX5_mustPrecede_23 (by decide) ?_
    refine kp_i (wr := ([] : va_W)) (va_runV (As := [.int (-2 : Int32)]) (rest := []) ⟨hx, hb, hml, hown, hts⟩ (c_X5_fail l G ad sd hd md rd be beD _ er inp otp tc fc on ze ou wd lo up hc sa sv ab tr rt kn ct bu bl tu tl bd bm d0 d1 d2 d3 d4 d5 (-2 : Int32) h) (cwV 1 hts gX5_mustPrecede_X5_fail rfl rfl rfl (by decide +kernel) ⟨Nat.le_of_ble_eq_true rfl, Nat.le_of_ble_eq_true rfl⟩) (kpVp hK hP hD hZ hS hA (pm_all _) (q0 := 0) (ci := 5) rfl rfl) rfl rfl hl.1 rfl (lv_room (Nat.le_of_ble_eq_true rfl)) dX5_mustPrecede_25 ⟨Nat.zero_le _, Nat.zero_le _⟩) hP hD hS hA (pm_all _) (fun r3 w5 H locs h hP hD hS => ?_)
    obtain ⟨u4, rfl⟩ : ∃ z, z = w5 := ⟨_, rfl⟩
    have hP : va_P G.1 vwCl (wP G ad sd hd md rd be u4 ++ (wS G sd inp otp tc fc on ze ou wd lo up ++ (wH G hd hc sa sv ++ (wD G md ab ++ (wR G rd tr rt ++ (wB G be beD kn ct bu bl tu tl bd bm d0 d1 d2 d3 d4 d5)))))) H := hP.perm (pm_all _).symm
    have hD : va_D A (wP G ad sd hd md rd be u4 ++ (wS G sd inp otp tc fc on ze ou wd lo up ++ (wH G hd hc sa sv ++ (wD G md ab ++ (wR G rd tr rt ++ (wB G be beD kn ct bu bl tu tl bd bm d0 d1 d2 d3 d4 d5)))))) := hD.perm (pm_all _).symm
    try dsimp only at h
    exact W.iret hx hb hr (fun t ht hW => ⟨⟨_, u4, rfl, h, by rw [ht]; exact hP, hD⟩, hS.F ht⟩) hS.2.2 dX5_mustPrecede_28
  · have h := h.2 c_2
    refine lv_aload_n hx hb dX5_mustPrecede_11 rfl (lv_at hl 0 rfl) ?_
    refine va_get (D := G.1) (ci := 5) (v := .ref (sd 0)) (C := RX5) (T := TX5) (N := 6) hx hb hts hinX5 hown hK.1 hP.l 0 rfl rfl 0 (by decide) (hts (.fieldLink RX5 12 "PlaFolder" "state" "LPlaFolder$State;") (by decide +kernel)) (fun _ h9 => h9) rfl dX5_mustPrecede_12 ?_
    refine lv_iload_n hx hb dX5_mustPrecede_15 rfl (lv_at hl 2 rfl) ?_
    refine kp_i (wr := wP G ad sd hd md rd be er ++ (wH G hd hc sa sv ++ (wD G md ab ++ (wR G rd tr rt ++ (wB G be beD kn ct bu bl tu tl bd bm d0 d1 d2 d3 d4 d5))))) (va_runVN (As := [.int a2]) (rest := []) ⟨hx, hb, hml, hown, hts⟩ (c_X4_hasTerm l G sd _ inp otp tc fc on ze ou wd lo up a2 h) ⟨va_cnB 1 hts gX5_mustPrecede_X4_hasTerm_n75 rfl rfl rfl (hK.2.M 18 (q := ("PlaFolder", 75, ⟨"PlaFolder$State", "hasTerm", "(I)Z"⟩, "PlaFolder")) rfl) (hts (.initialized RX4) (by decide +kernel)) (by decide +kernel) ⟨Nat.le_of_ble_eq_true rfl, Nat.le_of_ble_eq_true rfl⟩, hts (.instanceMethod yX4_hasTerm) (by decide +kernel), hts (.selects RX4 yX4_hasTerm yX4_hasTerm) (by decide +kernel)⟩ (kpVp hK hP hD hZ hS hA (pm6_02345_1 (wP G ad sd hd md rd be er) (wS G sd inp otp tc fc on ze ou wd lo up) (wH G hd hc sa sv) (wD G md ab) (wR G rd tr rt) (wB G be beD kn ct bu bl tu tl bd bm d0 d1 d2 d3 d4 d5)) (q0 := 0) (ci := 4) rfl rfl) rfl rfl hl.1 rfl (lv_room (Nat.le_of_ble_eq_true rfl)) dX5_mustPrecede_16 ⟨Nat.zero_le _, Nat.zero_le _⟩) hP hD hS hA (pm6_02345_1 (wP G ad sd hd md rd be er) (wS G sd inp otp tc fc on ze ou wd lo up) (wH G hd hc sa sv) (wD G md ab) (wR G rd tr rt) (wB G be beD kn ct bu bl tu tl bd bm d0 d1 d2 d3 d4 d5)) (fun r6 w16 H locs h hP hD hS => ?_)
    have hP : va_P G.1 vwCl (wP G ad sd hd md rd be er ++ (wS G sd inp otp tc fc on ze ou wd lo up ++ (wH G hd hc sa sv ++ (wD G md ab ++ (wR G rd tr rt ++ (wB G be beD kn ct bu bl tu tl bd bm d0 d1 d2 d3 d4 d5)))))) H := hP.perm (pm6_02345_1 (wP G ad sd hd md rd be er) (wS G sd inp otp tc fc on ze ou wd lo up) (wH G hd hc sa sv) (wD G md ab) (wR G rd tr rt) (wB G be beD kn ct bu bl tu tl bd bm d0 d1 d2 d3 d4 d5)).symm
    have hD : va_D A (wP G ad sd hd md rd be er ++ (wS G sd inp otp tc fc on ze ou wd lo up ++ (wH G hd hc sa sv ++ (wD G md ab ++ (wR G rd tr rt ++ (wB G be beD kn ct bu bl tu tl bd bm d0 d1 d2 d3 d4 d5)))))) := hD.perm (pm6_02345_1 (wP G ad sd hd md rd be er) (wS G sd inp otp tc fc on ze ou wd lo up) (wH G hd hc sa sv) (wD G md ab) (wR G rd tr rt) (wB G be beD kn ct bu bl tu tl bd bm d0 d1 d2 d3 d4 d5)).symm
    try dsimp only at h
    refine lv_if_ne (tgt := 29) hx hb dX5_mustPrecede_19 (by decide) (fun c_7 => ?_) (fun c_7 => ?_)
    · have h := h.1 c_7
      refine lv_aload_n hx hb dX5_mustPrecede_29 rfl (lv_at hl 0 rfl) ?_
      refine va_get (D := G.1) (ci := 5) (v := .ref (md 0)) (C := RX5) (T := TX5) (N := 6) hx hb hts hinX5 hown hK.1 hP.l 0 rfl rfl 2 (by decide) (hts (.fieldLink RX5 26 "PlaFolder" "demands" "LPlaFolder$Demands;") (by decide +kernel)) (fun _ h9 => h9) rfl dX5_mustPrecede_30 ?_
      refine va_getN (D := G.1) (ci := 1) (v := .ref (md 1)) (C := RX1) (T := TX1) (N := 1) (host := "PlaFolder") hx hb hts hinX1 hown hK.1 hP.r.r.r.l 0 rfl rfl 0 (by decide) (hK.2.F 10 (q := ("PlaFolder", 153, "PlaFolder$Demands", "above", "[I", "PlaFolder")) rfl) (fun _ h9 => h9) rfl dX5_mustPrecede_33 ?_
      refine lv_iload_n hx hb dX5_mustPrecede_36 rfl (lv_at hl 2 rfl) ?_
      obtain ⟨hi8, h⟩ := h
      refine x_iald hx hb hK hP.r.r.r.l 1 rfl hi8 rfl dX5_mustPrecede_37 ?_
      refine lv_iload_n hx hb dX5_mustPrecede_38 rfl (lv_at hl 1 rfl) ?_
      refine kp_i (wr := wP G ad sd hd md rd be er ++ (wS G sd inp otp tc fc on ze ou wd lo up ++ (wH G hd hc sa sv ++ (wD G md ab ++ (wR G rd tr rt ++ (wB G be beD kn ct bu bl tu tl bd bm d0 d1 d2 d3 d4 d5)))))) (va_runS (As := [.int (ab a2.toNatClampNeg), .int a1]) (rest := []) ⟨hx, hb, hml, hown, hts⟩ (c_X5_contains l G  _  (ab a2.toNatClampNeg) a1 h) (va_cwS 2 hts gX5_mustPrecede_X5_contains rfl rfl rfl (by decide +kernel) ⟨Nat.le_of_ble_eq_true rfl, Nat.le_of_ble_eq_true rfl⟩) (kpSp hK hP hD hZ hS hA (pm_nil _)) rfl rfl hl.1 rfl (lv_room (Nat.le_of_ble_eq_true rfl)) dX5_mustPrecede_39 ⟨Nat.zero_le _, Nat.zero_le _⟩) hP hD hS hA (pm_nil _) (fun r9 w12 H locs h hP hD hS => ?_)
      have hP : va_P G.1 vwCl (wP G ad sd hd md rd be er ++ (wS G sd inp otp tc fc on ze ou wd lo up ++ (wH G hd hc sa sv ++ (wD G md ab ++ (wR G rd tr rt ++ (wB G be beD kn ct bu bl tu tl bd bm d0 d1 d2 d3 d4 d5)))))) H := hP.perm (pm_nil _).symm
      have hD : va_D A (wP G ad sd hd md rd be er ++ (wS G sd inp otp tc fc on ze ou wd lo up ++ (wH G hd hc sa sv ++ (wD G md ab ++ (wR G rd tr rt ++ (wB G be beD kn ct bu bl tu tl bd bm d0 d1 d2 d3 d4 d5)))))) := hD.perm (pm_nil _).symm
      try dsimp only at h
      refine kp_i (wr := wP G ad sd hd md rd be er ++ (wS G sd inp otp tc fc on ze ou wd lo up ++ (wH G hd hc sa sv ++ (wD G md ab ++ (wR G rd tr rt ++ (wB G be beD kn ct bu bl tu tl bd bm d0 d1 d2 d3 d4 d5)))))) (va_runS (As := [.int r9]) (rest := []) ⟨hx, hb, hml, hown, hts⟩ (c_X5_flag l G  _  r9 h) (va_cwS 1 hts gX5_mustPrecede_X5_flag rfl rfl rfl (by decide +kernel) ⟨Nat.le_of_ble_eq_true rfl, Nat.le_of_ble_eq_true rfl⟩) (kpSp hK hP hD hZ hS hA (pm_nil _)) rfl rfl hl.1 rfl (lv_room (Nat.le_of_ble_eq_true rfl)) dX5_mustPrecede_42 ⟨Nat.zero_le _, Nat.zero_le _⟩) hP hD hS hA (pm_nil _) (fun r10 w11 H locs h hP hD hS => ?_)
      have hP : va_P G.1 vwCl (wP G ad sd hd md rd be er ++ (wS G sd inp otp tc fc on ze ou wd lo up ++ (wH G hd hc sa sv ++ (wD G md ab ++ (wR G rd tr rt ++ (wB G be beD kn ct bu bl tu tl bd bm d0 d1 d2 d3 d4 d5)))))) H := hP.perm (pm_nil _).symm
      have hD : va_D A (wP G ad sd hd md rd be er ++ (wS G sd inp otp tc fc on ze ou wd lo up ++ (wH G hd hc sa sv ++ (wD G md ab ++ (wR G rd tr rt ++ (wB G be beD kn ct bu bl tu tl bd bm d0 d1 d2 d3 d4 d5)))))) := hD.perm (pm_nil _).symm
      try dsimp only at h
      exact W.iret hx hb hr (fun t ht hW => ⟨⟨_, er, rfl, h, by rw [ht]; exact hP, hD⟩, hS.F ht⟩) hS.2.2 dX5_mustPrecede_45
    · have h := h.2 c_7
      refine lv_aload_n hx hb dX5_mustPrecede_22 rfl (lv_at hl 0 rfl) ?_
      refine lv_bipush (v := (-2 : Int32)) hx hb dX5_mustPrecede_23 (by decide) ?_
      refine kp_i (wr := ([] : va_W)) (va_runV (As := [.int (-2 : Int32)]) (rest := []) ⟨hx, hb, hml, hown, hts⟩ (c_X5_fail l G ad sd hd md rd be beD _ er inp otp tc fc on ze ou wd lo up hc sa sv ab tr rt kn ct bu bl tu tl bd bm d0 d1 d2 d3 d4 d5 (-2 : Int32) h) (cwV 1 hts gX5_mustPrecede_X5_fail rfl rfl rfl (by decide +kernel) ⟨Nat.le_of_ble_eq_true rfl, Nat.le_of_ble_eq_true rfl⟩) (kpVp hK hP hD hZ hS hA (pm_all _) (q0 := 0) (ci := 5) rfl rfl) rfl rfl hl.1 rfl (lv_room (Nat.le_of_ble_eq_true rfl)) dX5_mustPrecede_25 ⟨Nat.zero_le _, Nat.zero_le _⟩) hP hD hS hA (pm_all _) (fun r13 w15 H locs h hP hD hS => ?_)
      obtain ⟨u14, rfl⟩ : ∃ z, z = w15 := ⟨_, rfl⟩
      have hP : va_P G.1 vwCl (wP G ad sd hd md rd be u14 ++ (wS G sd inp otp tc fc on ze ou wd lo up ++ (wH G hd hc sa sv ++ (wD G md ab ++ (wR G rd tr rt ++ (wB G be beD kn ct bu bl tu tl bd bm d0 d1 d2 d3 d4 d5)))))) H := hP.perm (pm_all _).symm
      have hD : va_D A (wP G ad sd hd md rd be u14 ++ (wS G sd inp otp tc fc on ze ou wd lo up ++ (wH G hd hc sa sv ++ (wD G md ab ++ (wR G rd tr rt ++ (wB G be beD kn ct bu bl tu tl bd bm d0 d1 d2 d3 d4 d5)))))) := hD.perm (pm_all _).symm
      try dsimp only at h
      exact W.iret hx hb hr (fun t ht hW => ⟨⟨_, u14, rfl, h, by rw [ht]; exact hP, hD⟩, hS.F ht⟩) hS.2.2 dX5_mustPrecede_28
def wp_X5_area (inp : Int32) (otp : Int32) (tc : Int32) (fc : Int32) (K : Int32 → Prop) : Prop :=
 K (tc * ((inp + otp) - fc))
abbrev rm_X5_area : Room := { frames := 0, cells := 0, slots := 0, locals := 0 }
set_option maxHeartbeats 4000000 in
set_option maxRecDepth 100000 in
theorem c_X5_area (l : Launch) (G : GG) (ad : Nat → Nat) (sd : Nat → Nat) (hd : Nat → Nat) (md : Nat → Nat) (rd : Nat → Nat) (be : Nat → Nat) (beD : Nat → Nat → Nat) (sz : Nat) (er : Nat → Int32) (inp : Int32) (otp : Int32) (tc : Int32) (fc : Int32) (on : Nat → Int32) (ze : Nat → Int32) (ou : Nat → Int32) (wd : Nat → Int64) (lo : Nat → Int32) (up : Nat → Int32) (hc : Int32) (sa : Nat → Nat → Nat) (sv : Nat → SS) (ab : Nat → Int32) (tr : Nat → Int32) (rt : Nat → Int32) (kn : Int32) (ct : Int32) (bu : Nat → Int32) (bl : Nat → Int32) (tu : Nat → Int32) (tl : Nat → Int32) (bd : Nat → Int32) (bm : Nat → Int32) (d0 : Nat → Int32) (d1 : Nat → Int32) (d2 : Nat → Int32) (d3 : Nat → Int32) (d4 : Nat → Int32) (d5 : Nat → Int32) {K : Int32 → Prop} (h : wp_X5_area inp otp tc fc K) : CI l yX5_area wsX5_area rm_X5_area G [.ref (ad 0)] (wP G ad sd hd md rd be er ++ (wS G sd inp otp tc fc on ze ou wd lo up ++ (wH G hd hc sa sv ++ (wD G md ab ++ (wR G rd tr rt ++ (wB G be beD kn ct bu bl tu tl bd bm d0 d1 d2 d3 d4 d5)))))) sz (fun u : Unit => wP G ad sd hd md rd be er ++ (wS G sd inp otp tc fc on ze ou wd lo up ++ (wH G hd hc sa sv ++ (wD G md ab ++ (wR G rd tr rt ++ (wB G be beD kn ct bu bl tu tl bd bm d0 d1 d2 d3 d4 d5)))))) (fun r u => K r ) := by
  refine Met.ofW (cc := cX5_area) (maxL := 1) (ret := (some .int)) (by decide) rfl ?_
  intro p e s m args below meth c s₁ B hml hv
  obtain ⟨rfl, hsz, hP, hK, hD0, hZ⟩ := hv
  have hx := B.exec
  have hb := B.bytes
  have hr := B.returns
  have hts := atoms_spec (ws := wsX5_area) B.pre
  have hown : s.vm.findClass RX5 = some m.cls := findClass_of_methodNamed B.named
  have hlocks := B.notSynchronized
  subst hsz
  have hD := hD0.self (sz := s.heap.size)
  generalize hAe : va_A (wP G ad sd hd md rd be er ++ (wS G sd inp otp tc fc on ze ou wd lo up ++ (wH G hd hc sa sv ++ (wD G md ab ++ (wR G rd tr rt ++ (wB G be beD kn ct bu bl tu tl bd bm d0 d1 d2 d3 d4 d5)))))) s.heap.size = A at hD hZ ⊢
  have hA : ∀ q : Nat, s.heap.size ≤ q → A q := fun q h => by rw [← hAe]; exact Or.inr h
  have hS : va_S A s.heap s.heap [] := va_S.rf
  have hl := lv_entry ([.ref (ad 0)]) (n := 1) (Nat.le_of_ble_eq_true rfl)
  rw [lg_entry_eq]
  generalize (lg_sl ([.ref (ad 0)]) ++ List.replicate (1 - (lg_sl ([.ref (ad 0)])).length) Slot.unset).toArray = ls at hl ⊢
  have hl : lv_has ls 1 [(0, .ref (ad 0))] := hl
  unfold wp_X5_area at h
  have hinX4 : ∀ w ∈ wsX40, w ∈ wsX5_area := by decide +kernel
  have hinX5 : ∀ w ∈ wsX50, w ∈ wsX5_area := by decide +kernel
  refine lv_aload_n hx hb dX5_area_0 rfl (lv_at hl 0 rfl) ?_
  refine va_get (D := G.1) (ci := 5) (v := .ref (sd 0)) (C := RX5) (T := TX5) (N := 6) hx hb hts hinX5 hown hK.1 hP.l 0 rfl rfl 0 (by decide) (hts (.fieldLink RX5 12 "PlaFolder" "state" "LPlaFolder$State;") (by decide +kernel)) (fun _ h9 => h9) rfl dX5_area_1 ?_
  refine va_getN (D := G.1) (ci := 4) (v := .int tc) (C := RX4) (T := TX4) (N := 10) (host := "PlaFolder") hx hb hts hinX4 hown hK.1 hP.r.l 0 rfl rfl 2 (by decide) (hK.2.F 2 (q := ("PlaFolder", 56, "PlaFolder$State", "termCount", "I", "PlaFolder")) rfl) (fun _ h9 => h9) rfl dX5_area_4 ?_
  refine lv_aload_n hx hb dX5_area_7 rfl (lv_at hl 0 rfl) ?_
  refine va_get (D := G.1) (ci := 5) (v := .ref (sd 0)) (C := RX5) (T := TX5) (N := 6) hx hb hts hinX5 hown hK.1 hP.l 0 rfl rfl 0 (by decide) (hts (.fieldLink RX5 12 "PlaFolder" "state" "LPlaFolder$State;") (by decide +kernel)) (fun _ h9 => h9) rfl dX5_area_8 ?_
  refine va_getN (D := G.1) (ci := 4) (v := .int inp) (C := RX4) (T := TX4) (N := 10) (host := "PlaFolder") hx hb hts hinX4 hown hK.1 hP.r.l 0 rfl rfl 0 (by decide) (hK.2.F 0 (q := ("PlaFolder", 94, "PlaFolder$State", "inputs", "I", "PlaFolder")) rfl) (fun _ h9 => h9) rfl dX5_area_11 ?_
  refine lv_aload_n hx hb dX5_area_14 rfl (lv_at hl 0 rfl) ?_
  refine va_get (D := G.1) (ci := 5) (v := .ref (sd 0)) (C := RX5) (T := TX5) (N := 6) hx hb hts hinX5 hown hK.1 hP.l 0 rfl rfl 0 (by decide) (hts (.fieldLink RX5 12 "PlaFolder" "state" "LPlaFolder$State;") (by decide +kernel)) (fun _ h9 => h9) rfl dX5_area_15 ?_
  refine va_getN (D := G.1) (ci := 4) (v := .int otp) (C := RX4) (T := TX4) (N := 10) (host := "PlaFolder") hx hb hts hinX4 hown hK.1 hP.r.l 0 rfl rfl 1 (by decide) (hK.2.F 1 (q := ("PlaFolder", 100, "PlaFolder$State", "outputs", "I", "PlaFolder")) rfl) (fun _ h9 => h9) rfl dX5_area_18 ?_
  refine lv_iadd hx hb dX5_area_21 ?_
  refine lv_aload_n hx hb dX5_area_22 rfl (lv_at hl 0 rfl) ?_
  refine va_get (D := G.1) (ci := 5) (v := .ref (sd 0)) (C := RX5) (T := TX5) (N := 6) hx hb hts hinX5 hown hK.1 hP.l 0 rfl rfl 0 (by decide) (hts (.fieldLink RX5 12 "PlaFolder" "state" "LPlaFolder$State;") (by decide +kernel)) (fun _ h9 => h9) rfl dX5_area_23 ?_
  refine va_getN (D := G.1) (ci := 4) (v := .int fc) (C := RX4) (T := TX4) (N := 10) (host := "PlaFolder") hx hb hts hinX4 hown hK.1 hP.r.l 0 rfl rfl 3 (by decide) (hK.2.F 3 (q := ("PlaFolder", 141, "PlaFolder$State", "foldCount", "I", "PlaFolder")) rfl) (fun _ h9 => h9) rfl dX5_area_26 ?_
  refine lv_isub hx hb dX5_area_29 ?_
  refine lv_imul hx hb dX5_area_30 ?_
  exact W.iret hx hb hr (fun t ht hW => ⟨⟨_, (), rfl, h, by rw [ht]; exact hP, hD⟩, hS.F ht⟩) hS.2.2 dX5_area_31
def wp_X5_span (a1 : Int32) (er : Nat → Int32) (inp : Int32) (otp : Int32) (tc : Int32) (on : Nat → Int32) (ze : Nat → Int32) (ou : Nat → Int32) (rt : Nat → Int32) (K : Int32 → (Nat → Int32) → Prop) : Prop :=
 wp_X4_hasColumn a1 inp otp (fun (r1 : Int32) => ((¬ r1 = 0 → wp_X4_termsOfColumn a1 tc on ze ou (fun (r3 : Int32) => wp_X3_spread r3 tc rt (fun (r4 : Int32) => K r4 er))) ∧
 (r1 = 0 → wp_X5_fail (-2 : Int32) er (fun (r7 : Int32) (u8 : Nat → Int32) => K r7 u8))))
abbrev rm_X5_span : Room := { frames := 2, cells := 0, slots := 0, locals := 65 }
set_option maxHeartbeats 4000000 in
set_option maxRecDepth 100000 in
theorem c_X5_span (l : Launch) (G : GG) (ad : Nat → Nat) (sd : Nat → Nat) (hd : Nat → Nat) (md : Nat → Nat) (rd : Nat → Nat) (be : Nat → Nat) (beD : Nat → Nat → Nat) (sz : Nat) (er : Nat → Int32) (inp : Int32) (otp : Int32) (tc : Int32) (fc : Int32) (on : Nat → Int32) (ze : Nat → Int32) (ou : Nat → Int32) (wd : Nat → Int64) (lo : Nat → Int32) (up : Nat → Int32) (hc : Int32) (sa : Nat → Nat → Nat) (sv : Nat → SS) (ab : Nat → Int32) (tr : Nat → Int32) (rt : Nat → Int32) (kn : Int32) (ct : Int32) (bu : Nat → Int32) (bl : Nat → Int32) (tu : Nat → Int32) (tl : Nat → Int32) (bd : Nat → Int32) (bm : Nat → Int32) (d0 : Nat → Int32) (d1 : Nat → Int32) (d2 : Nat → Int32) (d3 : Nat → Int32) (d4 : Nat → Int32) (d5 : Nat → Int32) (a1 : Int32) {K : Int32 → (Nat → Int32) → Prop} (h : wp_X5_span a1 er inp otp tc on ze ou rt K) : CI l yX5_span wsX5_span rm_X5_span G [.ref (ad 0), .int a1] (wP G ad sd hd md rd be er ++ (wS G sd inp otp tc fc on ze ou wd lo up ++ (wH G hd hc sa sv ++ (wD G md ab ++ (wR G rd tr rt ++ (wB G be beD kn ct bu bl tu tl bd bm d0 d1 d2 d3 d4 d5)))))) sz (fun u : (Nat → Int32) => wP G ad sd hd md rd be u ++ (wS G sd inp otp tc fc on ze ou wd lo up ++ (wH G hd hc sa sv ++ (wD G md ab ++ (wR G rd tr rt ++ (wB G be beD kn ct bu bl tu tl bd bm d0 d1 d2 d3 d4 d5)))))) (fun r u => K r u) := by
  refine Met.ofW (cc := cX5_span) (maxL := 2) (ret := (some .int)) (by decide) rfl ?_
  intro p e s m args below meth c s₁ B hml hv
  obtain ⟨rfl, hsz, hP, hK, hD0, hZ⟩ := hv
  have hx := B.exec
  have hb := B.bytes
  have hr := B.returns
  have hts := atoms_spec (ws := wsX5_span) B.pre
  have hown : s.vm.findClass RX5 = some m.cls := findClass_of_methodNamed B.named
  have hlocks := B.notSynchronized
  subst hsz
  have hD := hD0.self (sz := s.heap.size)
  generalize hAe : va_A (wP G ad sd hd md rd be er ++ (wS G sd inp otp tc fc on ze ou wd lo up ++ (wH G hd hc sa sv ++ (wD G md ab ++ (wR G rd tr rt ++ (wB G be beD kn ct bu bl tu tl bd bm d0 d1 d2 d3 d4 d5)))))) s.heap.size = A at hD hZ ⊢
  have hA : ∀ q : Nat, s.heap.size ≤ q → A q := fun q h => by rw [← hAe]; exact Or.inr h
  have hS : va_S A s.heap s.heap [] := va_S.rf
  have hl := lv_entry ([.ref (ad 0), .int a1]) (n := 2) (Nat.le_of_ble_eq_true rfl)
  rw [lg_entry_eq]
  generalize (lg_sl ([.ref (ad 0), .int a1]) ++ List.replicate (2 - (lg_sl ([.ref (ad 0), .int a1])).length) Slot.unset).toArray = ls at hl ⊢
  have hl : lv_has ls 2 [(0, .ref (ad 0)), (1, .int a1)] := hl
  unfold wp_X5_span at h
  have hinX4 : ∀ w ∈ wsX40, w ∈ wsX5_span := by decide +kernel
  have hinX5 : ∀ w ∈ wsX50, w ∈ wsX5_span := by decide +kernel
  refine lv_aload_n hx hb dX5_span_0 rfl (lv_at hl 0 rfl) ?_
  refine va_get (D := G.1) (ci := 5) (v := .ref (sd 0)) (C := RX5) (T := TX5) (N := 6) hx hb hts hinX5 hown hK.1 hP.l 0 rfl rfl 0 (by decide) (hts (.fieldLink RX5 12 "PlaFolder" "state" "LPlaFolder$State;") (by decide +kernel)) (fun _ h9 => h9) rfl dX5_span_1 ?_
  refine lv_iload_n hx hb dX5_span_4 rfl (lv_at hl 1 rfl) ?_
  refine kp_i (wr := wP G ad sd hd md rd be er ++ (wH G hd hc sa sv ++ (wD G md ab ++ (wR G rd tr rt ++ (wB G be beD kn ct bu bl tu tl bd bm d0 d1 d2 d3 d4 d5))))) (va_runVN (As := [.int a1]) (rest := []) ⟨hx, hb, hml, hown, hts⟩ (c_X4_hasColumn l G sd _ inp otp tc fc on ze ou wd lo up a1 h) ⟨va_cnB 1 hts gX5_span_X4_hasColumn_n119 rfl rfl rfl (hK.2.M 23 (q := ("PlaFolder", 119, ⟨"PlaFolder$State", "hasColumn", "(I)Z"⟩, "PlaFolder")) rfl) (hts (.initialized RX4) (by decide +kernel)) (by decide +kernel) ⟨Nat.le_of_ble_eq_true rfl, Nat.le_of_ble_eq_true rfl⟩, hts (.instanceMethod yX4_hasColumn) (by decide +kernel), hts (.selects RX4 yX4_hasColumn yX4_hasColumn) (by decide +kernel)⟩ (kpVp hK hP hD hZ hS hA (pm6_02345_1 (wP G ad sd hd md rd be er) (wS G sd inp otp tc fc on ze ou wd lo up) (wH G hd hc sa sv) (wD G md ab) (wR G rd tr rt) (wB G be beD kn ct bu bl tu tl bd bm d0 d1 d2 d3 d4 d5)) (q0 := 0) (ci := 4) rfl rfl) rfl rfl hl.1 rfl (lv_room (Nat.le_of_ble_eq_true rfl)) dX5_span_5 ⟨Nat.zero_le _, Nat.zero_le _⟩) hP hD hS hA (pm6_02345_1 (wP G ad sd hd md rd be er) (wS G sd inp otp tc fc on ze ou wd lo up) (wH G hd hc sa sv) (wD G md ab) (wR G rd tr rt) (wB G be beD kn ct bu bl tu tl bd bm d0 d1 d2 d3 d4 d5)) (fun r1 w10 H locs h hP hD hS => ?_)
  have hP : va_P G.1 vwCl (wP G ad sd hd md rd be er ++ (wS G sd inp otp tc fc on ze ou wd lo up ++ (wH G hd hc sa sv ++ (wD G md ab ++ (wR G rd tr rt ++ (wB G be beD kn ct bu bl tu tl bd bm d0 d1 d2 d3 d4 d5)))))) H := hP.perm (pm6_02345_1 (wP G ad sd hd md rd be er) (wS G sd inp otp tc fc on ze ou wd lo up) (wH G hd hc sa sv) (wD G md ab) (wR G rd tr rt) (wB G be beD kn ct bu bl tu tl bd bm d0 d1 d2 d3 d4 d5)).symm
  have hD : va_D A (wP G ad sd hd md rd be er ++ (wS G sd inp otp tc fc on ze ou wd lo up ++ (wH G hd hc sa sv ++ (wD G md ab ++ (wR G rd tr rt ++ (wB G be beD kn ct bu bl tu tl bd bm d0 d1 d2 d3 d4 d5)))))) := hD.perm (pm6_02345_1 (wP G ad sd hd md rd be er) (wS G sd inp otp tc fc on ze ou wd lo up) (wH G hd hc sa sv) (wD G md ab) (wR G rd tr rt) (wB G be beD kn ct bu bl tu tl bd bm d0 d1 d2 d3 d4 d5)).symm
  try dsimp only at h
  refine lv_if_ne (tgt := 18) hx hb dX5_span_8 (by decide) (fun c_2 => ?_) (fun c_2 => ?_)
  · have h := h.1 c_2
    refine lv_aload_n hx hb dX5_span_18 rfl (lv_at hl 0 rfl) ?_
    refine va_get (D := G.1) (ci := 5) (v := .ref (rd 0)) (C := RX5) (T := TX5) (N := 6) hx hb hts hinX5 hown hK.1 hP.l 0 rfl rfl 3 (by decide) (hts (.fieldLink RX5 33 "PlaFolder" "rows" "LPlaFolder$RowOrder;") (by decide +kernel)) (fun _ h9 => h9) rfl dX5_span_19 ?_
    refine lv_aload_n hx hb dX5_span_22 rfl (lv_at hl 0 rfl) ?_
    refine va_get (D := G.1) (ci := 5) (v := .ref (sd 0)) (C := RX5) (T := TX5) (N := 6) hx hb hts hinX5 hown hK.1 hP.l 0 rfl rfl 0 (by decide) (hts (.fieldLink RX5 12 "PlaFolder" "state" "LPlaFolder$State;") (by decide +kernel)) (fun _ h9 => h9) rfl dX5_span_23 ?_
    refine lv_iload_n hx hb dX5_span_26 rfl (lv_at hl 1 rfl) ?_
    refine kp_i (wr := wP G ad sd hd md rd be er ++ (wH G hd hc sa sv ++ (wD G md ab ++ (wR G rd tr rt ++ (wB G be beD kn ct bu bl tu tl bd bm d0 d1 d2 d3 d4 d5))))) (va_runVN (As := [.int a1]) (rest := [.ref (rd 0)]) ⟨hx, hb, hml, hown, hts⟩ (c_X4_termsOfColumn l G sd _ inp otp tc fc on ze ou wd lo up a1 h) ⟨va_cnB 1 hts gX5_span_X4_termsOfColumn_n122 rfl rfl rfl (hK.2.M 24 (q := ("PlaFolder", 122, ⟨"PlaFolder$State", "termsOfColumn", "(I)I"⟩, "PlaFolder")) rfl) (hts (.initialized RX4) (by decide +kernel)) (by decide +kernel) ⟨Nat.le_of_ble_eq_true rfl, Nat.le_of_ble_eq_true rfl⟩, hts (.instanceMethod yX4_termsOfColumn) (by decide +kernel), hts (.selects RX4 yX4_termsOfColumn yX4_termsOfColumn) (by decide +kernel)⟩ (kpVp hK hP hD hZ hS hA (pm6_02345_1 (wP G ad sd hd md rd be er) (wS G sd inp otp tc fc on ze ou wd lo up) (wH G hd hc sa sv) (wD G md ab) (wR G rd tr rt) (wB G be beD kn ct bu bl tu tl bd bm d0 d1 d2 d3 d4 d5)) (q0 := 0) (ci := 4) rfl rfl) rfl rfl hl.1 rfl (lv_room (Nat.le_of_ble_eq_true rfl)) dX5_span_27 ⟨Nat.zero_le _, Nat.zero_le _⟩) hP hD hS hA (pm6_02345_1 (wP G ad sd hd md rd be er) (wS G sd inp otp tc fc on ze ou wd lo up) (wH G hd hc sa sv) (wD G md ab) (wR G rd tr rt) (wB G be beD kn ct bu bl tu tl bd bm d0 d1 d2 d3 d4 d5)) (fun r3 w6 H locs h hP hD hS => ?_)
    have hP : va_P G.1 vwCl (wP G ad sd hd md rd be er ++ (wS G sd inp otp tc fc on ze ou wd lo up ++ (wH G hd hc sa sv ++ (wD G md ab ++ (wR G rd tr rt ++ (wB G be beD kn ct bu bl tu tl bd bm d0 d1 d2 d3 d4 d5)))))) H := hP.perm (pm6_02345_1 (wP G ad sd hd md rd be er) (wS G sd inp otp tc fc on ze ou wd lo up) (wH G hd hc sa sv) (wD G md ab) (wR G rd tr rt) (wB G be beD kn ct bu bl tu tl bd bm d0 d1 d2 d3 d4 d5)).symm
    have hD : va_D A (wP G ad sd hd md rd be er ++ (wS G sd inp otp tc fc on ze ou wd lo up ++ (wH G hd hc sa sv ++ (wD G md ab ++ (wR G rd tr rt ++ (wB G be beD kn ct bu bl tu tl bd bm d0 d1 d2 d3 d4 d5)))))) := hD.perm (pm6_02345_1 (wP G ad sd hd md rd be er) (wS G sd inp otp tc fc on ze ou wd lo up) (wH G hd hc sa sv) (wD G md ab) (wR G rd tr rt) (wB G be beD kn ct bu bl tu tl bd bm d0 d1 d2 d3 d4 d5)).symm
    try dsimp only at h
    refine lv_aload_n hx hb dX5_span_30 rfl (lv_at hl 0 rfl) ?_
    refine va_get (D := G.1) (ci := 5) (v := .ref (sd 0)) (C := RX5) (T := TX5) (N := 6) hx hb hts hinX5 hown hK.1 hP.l 0 rfl rfl 0 (by decide) (hts (.fieldLink RX5 12 "PlaFolder" "state" "LPlaFolder$State;") (by decide +kernel)) (fun _ h9 => h9) rfl dX5_span_31 ?_
    refine va_getN (D := G.1) (ci := 4) (v := .int tc) (C := RX4) (T := TX4) (N := 10) (host := "PlaFolder") hx hb hts hinX4 hown hK.1 hP.r.l 0 rfl rfl 2 (by decide) (hK.2.F 2 (q := ("PlaFolder", 56, "PlaFolder$State", "termCount", "I", "PlaFolder")) rfl) (fun _ h9 => h9) rfl dX5_span_34 ?_
    refine kp_i (wr := wP G ad sd hd md rd be er ++ (wS G sd inp otp tc fc on ze ou wd lo up ++ (wH G hd hc sa sv ++ (wD G md ab ++ (wB G be beD kn ct bu bl tu tl bd bm d0 d1 d2 d3 d4 d5))))) (va_runVN (As := [.int r3, .int tc]) (rest := []) ⟨hx, hb, hml, hown, hts⟩ (c_X3_spread l G rd _ tr rt r3 tc h) ⟨va_cnB 2 hts gX5_span_X3_spread_n159 rfl rfl rfl (hK.2.M 30 (q := ("PlaFolder", 159, ⟨"PlaFolder$RowOrder", "spread", "(II)I"⟩, "PlaFolder")) rfl) (hts (.initialized RX3) (by decide +kernel)) (by decide +kernel) ⟨Nat.le_of_ble_eq_true rfl, Nat.le_of_ble_eq_true rfl⟩, hts (.instanceMethod yX3_spread) (by decide +kernel), hts (.selects RX3 yX3_spread yX3_spread) (by decide +kernel)⟩ (kpVp hK hP hD hZ hS hA (pm6_01235_4 (wP G ad sd hd md rd be er) (wS G sd inp otp tc fc on ze ou wd lo up) (wH G hd hc sa sv) (wD G md ab) (wR G rd tr rt) (wB G be beD kn ct bu bl tu tl bd bm d0 d1 d2 d3 d4 d5)) (q0 := 0) (ci := 3) rfl rfl) rfl rfl hl.1 rfl (lv_room (Nat.le_of_ble_eq_true rfl)) dX5_span_37 ⟨Nat.zero_le _, Nat.zero_le _⟩) hP hD hS hA (pm6_01235_4 (wP G ad sd hd md rd be er) (wS G sd inp otp tc fc on ze ou wd lo up) (wH G hd hc sa sv) (wD G md ab) (wR G rd tr rt) (wB G be beD kn ct bu bl tu tl bd bm d0 d1 d2 d3 d4 d5)) (fun r4 w5 H locs h hP hD hS => ?_)
    have hP : va_P G.1 vwCl (wP G ad sd hd md rd be er ++ (wS G sd inp otp tc fc on ze ou wd lo up ++ (wH G hd hc sa sv ++ (wD G md ab ++ (wR G rd tr rt ++ (wB G be beD kn ct bu bl tu tl bd bm d0 d1 d2 d3 d4 d5)))))) H := hP.perm (pm6_01235_4 (wP G ad sd hd md rd be er) (wS G sd inp otp tc fc on ze ou wd lo up) (wH G hd hc sa sv) (wD G md ab) (wR G rd tr rt) (wB G be beD kn ct bu bl tu tl bd bm d0 d1 d2 d3 d4 d5)).symm
    have hD : va_D A (wP G ad sd hd md rd be er ++ (wS G sd inp otp tc fc on ze ou wd lo up ++ (wH G hd hc sa sv ++ (wD G md ab ++ (wR G rd tr rt ++ (wB G be beD kn ct bu bl tu tl bd bm d0 d1 d2 d3 d4 d5)))))) := hD.perm (pm6_01235_4 (wP G ad sd hd md rd be er) (wS G sd inp otp tc fc on ze ou wd lo up) (wH G hd hc sa sv) (wD G md ab) (wR G rd tr rt) (wB G be beD kn ct bu bl tu tl bd bm d0 d1 d2 d3 d4 d5)).symm
    try dsimp only at h
    exact W.iret hx hb hr (fun t ht hW => ⟨⟨_, er, rfl, h, by rw [ht]; exact hP, hD⟩, hS.F ht⟩) hS.2.2 dX5_span_40
  · have h := h.2 c_2
    refine lv_aload_n hx hb dX5_span_11 rfl (lv_at hl 0 rfl) ?_
    refine lv_bipush (v := (-2 : Int32)) hx hb dX5_span_12 (by decide) ?_
    refine kp_i (wr := ([] : va_W)) (va_runV (As := [.int (-2 : Int32)]) (rest := []) ⟨hx, hb, hml, hown, hts⟩ (c_X5_fail l G ad sd hd md rd be beD _ er inp otp tc fc on ze ou wd lo up hc sa sv ab tr rt kn ct bu bl tu tl bd bm d0 d1 d2 d3 d4 d5 (-2 : Int32) h) (cwV 1 hts gX5_span_X5_fail rfl rfl rfl (by decide +kernel) ⟨Nat.le_of_ble_eq_true rfl, Nat.le_of_ble_eq_true rfl⟩) (kpVp hK hP hD hZ hS hA (pm_all _) (q0 := 0) (ci := 5) rfl rfl) rfl rfl hl.1 rfl (lv_room (Nat.le_of_ble_eq_true rfl)) dX5_span_14 ⟨Nat.zero_le _, Nat.zero_le _⟩) hP hD hS hA (pm_all _) (fun r7 w9 H locs h hP hD hS => ?_)
    obtain ⟨u8, rfl⟩ : ∃ z, z = w9 := ⟨_, rfl⟩
    have hP : va_P G.1 vwCl (wP G ad sd hd md rd be u8 ++ (wS G sd inp otp tc fc on ze ou wd lo up ++ (wH G hd hc sa sv ++ (wD G md ab ++ (wR G rd tr rt ++ (wB G be beD kn ct bu bl tu tl bd bm d0 d1 d2 d3 d4 d5)))))) H := hP.perm (pm_all _).symm
    have hD : va_D A (wP G ad sd hd md rd be u8 ++ (wS G sd inp otp tc fc on ze ou wd lo up ++ (wH G hd hc sa sv ++ (wD G md ab ++ (wR G rd tr rt ++ (wB G be beD kn ct bu bl tu tl bd bm d0 d1 d2 d3 d4 d5)))))) := hD.perm (pm_all _).symm
    try dsimp only at h
    exact W.iret hx hb hr (fun t ht hW => ⟨⟨_, u8, rfl, h, by rw [ht]; exact hP, hD⟩, hS.F ht⟩) hS.2.2 dX5_span_17
