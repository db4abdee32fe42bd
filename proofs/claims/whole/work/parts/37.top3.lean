def wp_X5_bestUpper (a1 : Int32) (er : Nat → Int32) (inp : Int32) (otp : Int32) (tc : Int32) (on : Nat → Int32) (ze : Nat → Int32) (ou : Nat → Int32) (kn : Int32) (ct : Int32) (bu : Nat → Int32) (bl : Nat → Int32) (tu : Nat → Int32) (tl : Nat → Int32) (bd : Nat → Int32) (bm : Nat → Int32) (d0 : Nat → Int32) (d1 : Nat → Int32) (d2 : Nat → Int32) (d3 : Nat → Int32) (d4 : Nat → Int32) (d5 : Nat → Int32) (K : Int32 → (Nat → Int32) → Int32 → Int32 → (Nat → Int32) → (Nat → Int32) → (Nat → Int32) → (Nat → Int32) → (Nat → Int32) → (Nat → Int32) → (Nat → Int32) → (Nat → Int32) → (Nat → Int32) → (Nat → Int32) → (Nat → Int32) → Prop) : Prop :=
 (((-1 : Int32) ≤ a1 → wp_X5_findBest inp otp tc on ze ou kn ct bu bl tu tl bd bm d0 d1 d2 d3 d4 d5 (fun (u3 : Int32) (u4 : Int32) (u5 : Nat → Int32) (u6 : Nat → Int32) (u7 : Nat → Int32) (u8 : Nat → Int32) (u9 : Nat → Int32) (u10 : Nat → Int32) (u11 : Nat → Int32) (u12 : Nat → Int32) (u13 : Nat → Int32) (u14 : Nat → Int32) (u15 : Nat → Int32) => ((¬ a1 = (-1 : Int32) → ((u4 ≤ a1 → K (-1 : Int32) er u3 u4 u5 u6 u7 u8 u9 u10 u11 u12 u13 u14 u15) ∧
 (¬ (u4 ≤ a1) → (vp_in a1 5 ∧ K (u5 a1.toNatClampNeg) er u3 u4 u5 u6 u7 u8 u9 u10 u11 u12 u13 u14 u15)))) ∧
 (a1 = (-1 : Int32) → K u4 er u3 u4 u5 u6 u7 u8 u9 u10 u11 u12 u13 u14 u15)))) ∧
 (¬ ((-1 : Int32) ≤ a1) → wp_X5_fail (-2 : Int32) er (fun (r20 : Int32) (u21 : Nat → Int32) => K r20 u21 kn ct bu bl tu tl bd bm d1 d2 d3 d4 d5)))
abbrev rm_X5_bestUpper : Room := { frames := 16, cells := 0, slots := 0, locals := 393 }
set_option maxHeartbeats 4000000 in
set_option maxRecDepth 100000 in
theorem c_X5_bestUpper (l : Launch) (G : GG) (ad : Nat → Nat) (sd : Nat → Nat) (hd : Nat → Nat) (md : Nat → Nat) (rd : Nat → Nat) (be : Nat → Nat) (beD : Nat → Nat → Nat) (sz : Nat) (er : Nat → Int32) (inp : Int32) (otp : Int32) (tc : Int32) (fc : Int32) (on : Nat → Int32) (ze : Nat → Int32) (ou : Nat → Int32) (wd : Nat → Int64) (lo : Nat → Int32) (up : Nat → Int32) (hc : Int32) (sa : Nat → Nat → Nat) (sv : Nat → SS) (ab : Nat → Int32) (tr : Nat → Int32) (rt : Nat → Int32) (kn : Int32) (ct : Int32) (bu : Nat → Int32) (bl : Nat → Int32) (tu : Nat → Int32) (tl : Nat → Int32) (bd : Nat → Int32) (bm : Nat → Int32) (d0 : Nat → Int32) (d1 : Nat → Int32) (d2 : Nat → Int32) (d3 : Nat → Int32) (d4 : Nat → Int32) (d5 : Nat → Int32) (a1 : Int32) {K : Int32 → (Nat → Int32) → Int32 → Int32 → (Nat → Int32) → (Nat → Int32) → (Nat → Int32) → (Nat → Int32) → (Nat → Int32) → (Nat → Int32) → (Nat → Int32) → (Nat → Int32) → (Nat → Int32) → (Nat → Int32) → (Nat → Int32) → Prop} (h : wp_X5_bestUpper a1 er inp otp tc on ze ou kn ct bu bl tu tl bd bm d0 d1 d2 d3 d4 d5 K) : CI l yX5_bestUpper wsX5_bestUpper rm_X5_bestUpper G [.ref (ad 0), .int a1] (wP G ad sd hd md rd be er ++ (wS G sd inp otp tc fc on ze ou wd lo up ++ (wH G hd hc sa sv ++ (wD G md ab ++ (wR G rd tr rt ++ (wB G be beD kn ct bu bl tu tl bd bm d0 d1 d2 d3 d4 d5)))))) sz (fun u : (Nat → Int32) × Int32 × Int32 × (Nat → Int32) × (Nat → Int32) × (Nat → Int32) × (Nat → Int32) × (Nat → Int32) × (Nat → Int32) × (Nat → Int32) × (Nat → Int32) × (Nat → Int32) × (Nat → Int32) × (Nat → Int32) => wP G ad sd hd md rd be u.1 ++ (wS G sd inp otp tc fc on ze ou wd lo up ++ (wH G hd hc sa sv ++ (wD G md ab ++ (wR G rd tr rt ++ (wB G be beD u.2.1 u.2.2.1 u.2.2.2.1 u.2.2.2.2.1 u.2.2.2.2.2.1 u.2.2.2.2.2.2.1 u.2.2.2.2.2.2.2.1 u.2.2.2.2.2.2.2.2.1 d0 u.2.2.2.2.2.2.2.2.2.1 u.2.2.2.2.2.2.2.2.2.2.1 u.2.2.2.2.2.2.2.2.2.2.2.1 u.2.2.2.2.2.2.2.2.2.2.2.2.1 u.2.2.2.2.2.2.2.2.2.2.2.2.2)))))) (fun r u => K r u.1 u.2.1 u.2.2.1 u.2.2.2.1 u.2.2.2.2.1 u.2.2.2.2.2.1 u.2.2.2.2.2.2.1 u.2.2.2.2.2.2.2.1 u.2.2.2.2.2.2.2.2.1 u.2.2.2.2.2.2.2.2.2.1 u.2.2.2.2.2.2.2.2.2.2.1 u.2.2.2.2.2.2.2.2.2.2.2.1 u.2.2.2.2.2.2.2.2.2.2.2.2.1 u.2.2.2.2.2.2.2.2.2.2.2.2.2) := by
  refine Met.ofW (cc := cX5_bestUpper) (maxL := 2) (ret := (some .int)) (by decide) rfl ?_
  intro p e s m args below meth c s₁ B hml hv
  obtain ⟨rfl, hsz, hP, hK, hD0, hZ⟩ := hv
  have hx := B.exec
  have hb := B.bytes
  have hr := B.returns
  have hts := atoms_spec (ws := wsX5_bestUpper) B.pre
  have hown : s.vm.findClass RX5 = some m.cls := findClass_of_methodNamed B.named
  have hlocks := B.notSynchronized
  subst hsz
  have hD := hD0.self (sz := s.heap.size)
  generalize hAe : va_A (wP G ad sd hd md rd be er ++ (wS G sd inp otp tc fc on ze ou wd lo up ++ (wH G hd hc sa sv ++ (wD G md ab ++ (wR G rd tr rt ++ (wB G be beD kn ct bu bl tu tl bd bm d0 d1 d2 d3 d4 d5)))))) s.heap.size = A at hD hZ ⊢
  have hA : ∀ q : Nat, s.heap.size ≤ q → A q := fun q h => by rw [← hAe]; exact Or.inr h
  have hS : va_S A s.heap s.heap [] := va_S.rf
  have hl := lv_entry ([.ref (ad 0), .int a1]) (n := 2) (Nat.le_of_ble_eq_true rfl)
  rw [lg_entry_eq]
  generalize (lg_sl ([.ref (ad 0), .int a1]) ++ List.replicate (2 - (lg_sl ([.ref (ad 0), .int a1])).length) Slot.unset).toArray = ls at hl ⊢
  have hl : lv_has ls 2 [(0, .ref (ad 0)), (1, .int a1)] := hl
  unfold wp_X5_bestUpper at h
  have hinX0 : ∀ w ∈ wsX00, w ∈ wsX5_bestUpper := by decide +kernel
  have hinX5 : ∀ w ∈ wsX50, w ∈ wsX5_bestUpper := by decide +kernel
  refine lv_iload_n hx hb dX5_bestUpper_0 rfl (lv_at hl 1 rfl) ?_
  refine lv_iconst (v := (-1 : Int32)) hx hb dX5_bestUpper_1 (by decide) ?_
  refine lv_icmp_ge (tgt := 12) hx hb dX5_bestUpper_2 (by decide) (fun c_1 => ?_) (fun c_1 => ?_)
  · have h := h.1 c_1
    refine lv_aload_n hx hb dX5_bestUpper_12 rfl (lv_at hl 0 rfl) ?_
    refine kp_v (wr := ([] : va_W)) (va_runV (As := []) (rest := []) ⟨hx, hb, hml, hown, hts⟩ (c_X5_findBest l G ad sd hd md rd be beD _ er inp otp tc fc on ze ou wd lo up hc sa sv ab tr rt kn ct bu bl tu tl bd bm d0 d1 d2 d3 d4 d5  h) (cwV 0 hts gX5_bestUpper_X5_findBest rfl rfl rfl (by decide +kernel) ⟨Nat.le_of_ble_eq_true rfl, Nat.le_of_ble_eq_true rfl⟩) (kpVp hK hP hD hZ hS hA (pm_all _) (q0 := 0) (ci := 5) rfl rfl) rfl rfl hl.1 rfl (lv_room (Nat.le_of_ble_eq_true rfl)) dX5_bestUpper_13 ⟨Nat.zero_le _, Nat.zero_le _⟩) hP hD hS hA (pm_all _) (fun w19 H locs h hP hD hS => ?_)
    obtain ⟨u3, u4, u5, u6, u7, u8, u9, u10, u11, u12, u13, u14, u15⟩ := w19
    have hP : va_P G.1 vwCl (wP G ad sd hd md rd be er ++ (wS G sd inp otp tc fc on ze ou wd lo up ++ (wH G hd hc sa sv ++ (wD G md ab ++ (wR G rd tr rt ++ (wB G be beD u3 u4 u5 u6 u7 u8 u9 u10 d0 u11 u12 u13 u14 u15)))))) H := hP.perm (pm_all _).symm
    have hD : va_D A (wP G ad sd hd md rd be er ++ (wS G sd inp otp tc fc on ze ou wd lo up ++ (wH G hd hc sa sv ++ (wD G md ab ++ (wR G rd tr rt ++ (wB G be beD u3 u4 u5 u6 u7 u8 u9 u10 d0 u11 u12 u13 u14 u15)))))) := hD.perm (pm_all _).symm
    try dsimp only at h
    refine lv_iload_n hx hb dX5_bestUpper_16 rfl (lv_at hl 1 rfl) ?_
    refine lv_iconst (v := (-1 : Int32)) hx hb dX5_bestUpper_17 (by decide) ?_
    refine lv_icmp_ne (tgt := 29) hx hb dX5_bestUpper_18 (by decide) (fun c_16 => ?_) (fun c_16 => ?_)
    · have h := h.1 c_16
      refine lv_iload_n hx hb dX5_bestUpper_29 rfl (lv_at hl 1 rfl) ?_
      refine lv_aload_n hx hb dX5_bestUpper_30 rfl (lv_at hl 0 rfl) ?_
      refine va_get (D := G.1) (ci := 5) (v := .ref (be 0)) (C := RX5) (T := TX5) (N := 6) hx hb hts hinX5 hown hK.1 hP.l 0 rfl rfl 4 (by decide) (hts (.fieldLink RX5 40 "PlaFolder" "best" "LPlaFolder$BestFolding;") (by decide +kernel)) (fun _ h9 => h9) rfl dX5_bestUpper_31 ?_
      refine va_getN (D := G.1) (ci := 0) (v := .int u4) (C := RX0) (T := TX0) (N := 9) (host := "PlaFolder") hx hb hts hinX0 hown hK.1 hP.r.r.r.r.r 0 rfl rfl 1 (by decide) (hK.2.F 14 (q := ("PlaFolder", 166, "PlaFolder$BestFolding", "count", "I", "PlaFolder")) rfl) (fun _ h9 => h9) rfl dX5_bestUpper_34 ?_
      refine lv_icmp_ge (tgt := 52) hx hb dX5_bestUpper_37 (by decide) (fun c_17 => ?_) (fun c_17 => ?_)
      · have h := h.1 c_17
        refine lv_iconst (v := (-1 : Int32)) hx hb dX5_bestUpper_52 (by decide) ?_
        exact W.iret hx hb hr (fun t ht hW => ⟨⟨_, (er, u3, u4, u5, u6, u7, u8, u9, u10, u11, u12, u13, u14, u15), rfl, h, by rw [ht]; exact hP, hD⟩, hS.F ht⟩) hS.2.2 dX5_bestUpper_53
      · have h := h.2 c_17
        refine lv_aload_n hx hb dX5_bestUpper_40 rfl (lv_at hl 0 rfl) ?_
        refine va_get (D := G.1) (ci := 5) (v := .ref (be 0)) (C := RX5) (T := TX5) (N := 6) hx hb hts hinX5 hown hK.1 hP.l 0 rfl rfl 4 (by decide) (hts (.fieldLink RX5 40 "PlaFolder" "best" "LPlaFolder$BestFolding;") (by decide +kernel)) (fun _ h9 => h9) rfl dX5_bestUpper_41 ?_
        refine va_getN (D := G.1) (ci := 0) (v := .ref (be 1)) (C := RX0) (T := TX0) (N := 9) (host := "PlaFolder") hx hb hts hinX0 hown hK.1 hP.r.r.r.r.r 0 rfl rfl 2 (by decide) (hK.2.F 15 (q := ("PlaFolder", 169, "PlaFolder$BestFolding", "upper", "[I", "PlaFolder")) rfl) (fun _ h9 => h9) rfl dX5_bestUpper_44 ?_
        refine lv_iload_n hx hb dX5_bestUpper_47 rfl (lv_at hl 1 rfl) ?_
        obtain ⟨hi18, h⟩ := h
        refine x_iald hx hb hK hP.r.r.r.r.r 1 rfl hi18 rfl dX5_bestUpper_48 ?_
        refine lv_goto (tgt := 53) hx hb dX5_bestUpper_49 (by decide) ?_
        exact W.iret hx hb hr (fun t ht hW => ⟨⟨_, (er, u3, u4, u5, u6, u7, u8, u9, u10, u11, u12, u13, u14, u15), rfl, h, by rw [ht]; exact hP, hD⟩, hS.F ht⟩) hS.2.2 dX5_bestUpper_53
    · have h := h.2 c_16
      refine lv_aload_n hx hb dX5_bestUpper_21 rfl (lv_at hl 0 rfl) ?_
      refine va_get (D := G.1) (ci := 5) (v := .ref (be 0)) (C := RX5) (T := TX5) (N := 6) hx hb hts hinX5 hown hK.1 hP.l 0 rfl rfl 4 (by decide) (hts (.fieldLink RX5 40 "PlaFolder" "best" "LPlaFolder$BestFolding;") (by decide +kernel)) (fun _ h9 => h9) rfl dX5_bestUpper_22 ?_
      refine va_getN (D := G.1) (ci := 0) (v := .int u4) (C := RX0) (T := TX0) (N := 9) (host := "PlaFolder") hx hb hts hinX0 hown hK.1 hP.r.r.r.r.r 0 rfl rfl 1 (by decide) (hK.2.F 14 (q := ("PlaFolder", 166, "PlaFolder$BestFolding", "count", "I", "PlaFolder")) rfl) (fun _ h9 => h9) rfl dX5_bestUpper_25 ?_
      exact W.iret hx hb hr (fun t ht hW => ⟨⟨_, (er, u3, u4, u5, u6, u7, u8, u9, u10, u11, u12, u13, u14, u15), rfl, h, by rw [ht]; exact hP, hD⟩, hS.F ht⟩) hS.2.2 dX5_bestUpper_28
  · have h := h.2 c_1
    refine lv_aload_n hx hb dX5_bestUpper_5 rfl (lv_at hl 0 rfl) ?_
    refine lv_bipush (v := (-2 : Int32)) hx hb dX5_bestUpper_6 (by decide) ?_
    refine kp_i (wr := ([] : va_W)) (va_runV (As := [.int (-2 : Int32)]) (rest := []) ⟨hx, hb, hml, hown, hts⟩ (c_X5_fail l G ad sd hd md rd be beD _ er inp otp tc fc on ze ou wd lo up hc sa sv ab tr rt kn ct bu bl tu tl bd bm d0 d1 d2 d3 d4 d5 (-2 : Int32) h) (cwV 1 hts gX5_bestUpper_X5_fail rfl rfl rfl (by decide +kernel) ⟨Nat.le_of_ble_eq_true rfl, Nat.le_of_ble_eq_true rfl⟩) (kpVp hK hP hD hZ hS hA (pm_all _) (q0 := 0) (ci := 5) rfl rfl) rfl rfl hl.1 rfl (lv_room (Nat.le_of_ble_eq_true rfl)) dX5_bestUpper_8 ⟨Nat.zero_le _, Nat.zero_le _⟩) hP hD hS hA (pm_all _) (fun r20 w22 H locs h hP hD hS => ?_)
    obtain ⟨u21, rfl⟩ : ∃ z, z = w22 := ⟨_, rfl⟩
    have hP : va_P G.1 vwCl (wP G ad sd hd md rd be u21 ++ (wS G sd inp otp tc fc on ze ou wd lo up ++ (wH G hd hc sa sv ++ (wD G md ab ++ (wR G rd tr rt ++ (wB G be beD kn ct bu bl tu tl bd bm d0 d1 d2 d3 d4 d5)))))) H := hP.perm (pm_all _).symm
    have hD : va_D A (wP G ad sd hd md rd be u21 ++ (wS G sd inp otp tc fc on ze ou wd lo up ++ (wH G hd hc sa sv ++ (wD G md ab ++ (wR G rd tr rt ++ (wB G be beD kn ct bu bl tu tl bd bm d0 d1 d2 d3 d4 d5)))))) := hD.perm (pm_all _).symm
    try dsimp only at h
    exact W.iret hx hb hr (fun t ht hW => ⟨⟨_, (u21, kn, ct, bu, bl, tu, tl, bd, bm, d1, d2, d3, d4, d5), rfl, h, by rw [ht]; exact hP, hD⟩, hS.F ht⟩) hS.2.2 dX5_bestUpper_11
def wp_X5_bestLower (a1 : Int32) (er : Nat → Int32) (inp : Int32) (otp : Int32) (tc : Int32) (on : Nat → Int32) (ze : Nat → Int32) (ou : Nat → Int32) (kn : Int32) (ct : Int32) (bu : Nat → Int32) (bl : Nat → Int32) (tu : Nat → Int32) (tl : Nat → Int32) (bd : Nat → Int32) (bm : Nat → Int32) (d0 : Nat → Int32) (d1 : Nat → Int32) (d2 : Nat → Int32) (d3 : Nat → Int32) (d4 : Nat → Int32) (d5 : Nat → Int32) (K : Int32 → (Nat → Int32) → Int32 → Int32 → (Nat → Int32) → (Nat → Int32) → (Nat → Int32) → (Nat → Int32) → (Nat → Int32) → (Nat → Int32) → (Nat → Int32) → (Nat → Int32) → (Nat → Int32) → (Nat → Int32) → (Nat → Int32) → Prop) : Prop :=
 ((0 ≤ a1 → wp_X5_findBest inp otp tc on ze ou kn ct bu bl tu tl bd bm d0 d1 d2 d3 d4 d5 (fun (u3 : Int32) (u4 : Int32) (u5 : Nat → Int32) (u6 : Nat → Int32) (u7 : Nat → Int32) (u8 : Nat → Int32) (u9 : Nat → Int32) (u10 : Nat → Int32) (u11 : Nat → Int32) (u12 : Nat → Int32) (u13 : Nat → Int32) (u14 : Nat → Int32) (u15 : Nat → Int32) => ((u4 ≤ a1 → K (-1 : Int32) er u3 u4 u5 u6 u7 u8 u9 u10 u11 u12 u13 u14 u15) ∧
 (¬ (u4 ≤ a1) → (vp_in a1 5 ∧ K (u6 a1.toNatClampNeg) er u3 u4 u5 u6 u7 u8 u9 u10 u11 u12 u13 u14 u15))))) ∧
 (¬ (0 ≤ a1) → wp_X5_fail (-2 : Int32) er (fun (r19 : Int32) (u20 : Nat → Int32) => K r19 u20 kn ct bu bl tu tl bd bm d1 d2 d3 d4 d5)))
abbrev rm_X5_bestLower : Room := { frames := 16, cells := 0, slots := 0, locals := 393 }
set_option maxHeartbeats 4000000 in
set_option maxRecDepth 100000 in
theorem c_X5_bestLower (l : Launch) (G : GG) (ad : Nat → Nat) (sd : Nat → Nat) (hd : Nat → Nat) (md : Nat → Nat) (rd : Nat → Nat) (be : Nat → Nat) (beD : Nat → Nat → Nat) (sz : Nat) (er : Nat → Int32) (inp : Int32) (otp : Int32) (tc : Int32) (fc : Int32) (on : Nat → Int32) (ze : Nat → Int32) (ou : Nat → Int32) (wd : Nat → Int64) (lo : Nat → Int32) (up : Nat → Int32) (hc : Int32) (sa : Nat → Nat → Nat) (sv : Nat → SS) (ab : Nat → Int32) (tr : Nat → Int32) (rt : Nat → Int32) (kn : Int32) (ct : Int32) (bu : Nat → Int32) (bl : Nat → Int32) (tu : Nat → Int32) (tl : Nat → Int32) (bd : Nat → Int32) (bm : Nat → Int32) (d0 : Nat → Int32) (d1 : Nat → Int32) (d2 : Nat → Int32) (d3 : Nat → Int32) (d4 : Nat → Int32) (d5 : Nat → Int32) (a1 : Int32) {K : Int32 → (Nat → Int32) → Int32 → Int32 → (Nat → Int32) → (Nat → Int32) → (Nat → Int32) → (Nat → Int32) → (Nat → Int32) → (Nat → Int32) → (Nat → Int32) → (Nat → Int32) → (Nat → Int32) → (Nat → Int32) → (Nat → Int32) → Prop} (h : wp_X5_bestLower a1 er inp otp tc on ze ou kn ct bu bl tu tl bd bm d0 d1 d2 d3 d4 d5 K) : CI l yX5_bestLower wsX5_bestLower rm_X5_bestLower G [.ref (ad 0), .int a1] (wP G ad sd hd md rd be er ++ (wS G sd inp otp tc fc on ze ou wd lo up ++ (wH G hd hc sa sv ++ (wD G md ab ++ (wR G rd tr rt ++ (wB G be beD kn ct bu bl tu tl bd bm d0 d1 d2 d3 d4 d5)))))) sz (fun u : (Nat → Int32) × Int32 × Int32 × (Nat → Int32) × (Nat → Int32) × (Nat → Int32) × (Nat → Int32) × (Nat → Int32) × (Nat → Int32) × (Nat → Int32) × (Nat → Int32) × (Nat → Int32) × (Nat → Int32) × (Nat → Int32) => wP G ad sd hd md rd be u.1 ++ (wS G sd inp otp tc fc on ze ou wd lo up ++ (wH G hd hc sa sv ++ (wD G md ab ++ (wR G rd tr rt ++ (wB G be beD u.2.1 u.2.2.1 u.2.2.2.1 u.2.2.2.2.1 u.2.2.2.2.2.1 u.2.2.2.2.2.2.1 u.2.2.2.2.2.2.2.1 u.2.2.2.2.2.2.2.2.1 d0 u.2.2.2.2.2.2.2.2.2.1 u.2.2.2.2.2.2.2.2.2.2.1 u.2.2.2.2.2.2.2.2.2.2.2.1 u.2.2.2.2.2.2.2.2.2.2.2.2.1 u.2.2.2.2.2.2.2.2.2.2.2.2.2)))))) (fun r u => K r u.1 u.2.1 u.2.2.1 u.2.2.2.1 u.2.2.2.2.1 u.2.2.2.2.2.1 u.2.2.2.2.2.2.1 u.2.2.2.2.2.2.2.1 u.2.2.2.2.2.2.2.2.1 u.2.2.2.2.2.2.2.2.2.1 u.2.2.2.2.2.2.2.2.2.2.1 u.2.2.2.2.2.2.2.2.2.2.2.1 u.2.2.2.2.2.2.2.2.2.2.2.2.1 u.2.2.2.2.2.2.2.2.2.2.2.2.2) := by
  refine Met.ofW (cc := cX5_bestLower) (maxL := 2) (ret := (some .int)) (by decide) rfl ?_
  intro p e s m args below meth c s₁ B hml hv
  obtain ⟨rfl, hsz, hP, hK, hD0, hZ⟩ := hv
  have hx := B.exec
  have hb := B.bytes
  have hr := B.returns
  have hts := atoms_spec (ws := wsX5_bestLower) B.pre
  have hown : s.vm.findClass RX5 = some m.cls := findClass_of_methodNamed B.named
  have hlocks := B.notSynchronized
  subst hsz
  have hD := hD0.self (sz := s.heap.size)
  generalize hAe : va_A (wP G ad sd hd md rd be er ++ (wS G sd inp otp tc fc on ze ou wd lo up ++ (wH G hd hc sa sv ++ (wD G md ab ++ (wR G rd tr rt ++ (wB G be beD kn ct bu bl tu tl bd bm d0 d1 d2 d3 d4 d5)))))) s.heap.size = A at hD hZ ⊢
  have hA : ∀ q : Nat, s.heap.size ≤ q → A q := fun q h => by rw [← hAe]; exact Or.inr h
  have hS : va_S A s.heap s.heap [] := va_S.rf
  have hl := lv_entry ([.ref (ad 0), .int a1]) (n := 2) (Nat.le_of_ble_eq_true rfl)
  rw [lg_entry_eq]
  generalize (lg_sl ([.ref (ad 0), .int a1]) ++ List.replicate (2 - (lg_sl ([.ref (ad 0), .int a1])).length) Slot.unset).toArray = ls at hl ⊢
  have hl : lv_has ls 2 [(0, .ref (ad 0)), (1, .int a1)] := hl
  unfold wp_X5_bestLower at h
  have hinX0 : ∀ w ∈ wsX00, w ∈ wsX5_bestLower := by decide +kernel
  have hinX5 : ∀ w ∈ wsX50, w ∈ wsX5_bestLower := by decide +kernel
  refine lv_iload_n hx hb dX5_bestLower_0 rfl (lv_at hl 1 rfl) ?_
  refine lv_if_ge (tgt := 11) hx hb dX5_bestLower_1 (by decide) (fun c_1 => ?_) (fun c_1 => ?_)
  · have h := h.1 c_1
    refine lv_aload_n hx hb dX5_bestLower_11 rfl (lv_at hl 0 rfl) ?_
    refine kp_v (wr := ([] : va_W)) (va_runV (As := []) (rest := []) ⟨hx, hb, hml, hown, hts⟩ (c_X5_findBest l G ad sd hd md rd be beD _ er inp otp tc fc on ze ou wd lo up hc sa sv ab tr rt kn ct bu bl tu tl bd bm d0 d1 d2 d3 d4 d5  h) (cwV 0 hts gX5_bestLower_X5_findBest rfl rfl rfl (by decide +kernel) ⟨Nat.le_of_ble_eq_true rfl, Nat.le_of_ble_eq_true rfl⟩) (kpVp hK hP hD hZ hS hA (pm_all _) (q0 := 0) (ci := 5) rfl rfl) rfl rfl hl.1 rfl (lv_room (Nat.le_of_ble_eq_true rfl)) dX5_bestLower_12 ⟨Nat.zero_le _, Nat.zero_le _⟩) hP hD hS hA (pm_all _) (fun w18 H locs h hP hD hS => ?_)
    obtain ⟨u3, u4, u5, u6, u7, u8, u9, u10, u11, u12, u13, u14, u15⟩ := w18
    have hP : va_P G.1 vwCl (wP G ad sd hd md rd be er ++ (wS G sd inp otp tc fc on ze ou wd lo up ++ (wH G hd hc sa sv ++ (wD G md ab ++ (wR G rd tr rt ++ (wB G be beD u3 u4 u5 u6 u7 u8 u9 u10 d0 u11 u12 u13 u14 u15)))))) H := hP.perm (pm_all _).symm
    have hD : va_D A (wP G ad sd hd md rd be er ++ (wS G sd inp otp tc fc on ze ou wd lo up ++ (wH G hd hc sa sv ++ (wD G md ab ++ (wR G rd tr rt ++ (wB G be beD u3 u4 u5 u6 u7 u8 u9 u10 d0 u11 u12 u13 u14 u15)))))) := hD.perm (pm_all _).symm
    try dsimp only at h
    refine lv_iload_n hx hb dX5_bestLower_15 rfl (lv_at hl 1 rfl) ?_
    refine lv_aload_n hx hb dX5_bestLower_16 rfl (lv_at hl 0 rfl) ?_
    refine va_get (D := G.1) (ci := 5) (v := .ref (be 0)) (C := RX5) (T := TX5) (N := 6) hx hb hts hinX5 hown hK.1 hP.l 0 rfl rfl 4 (by decide) (hts (.fieldLink RX5 40 "PlaFolder" "best" "LPlaFolder$BestFolding;") (by decide +kernel)) (fun _ h9 => h9) rfl dX5_bestLower_17 ?_
    refine va_getN (D := G.1) (ci := 0) (v := .int u4) (C := RX0) (T := TX0) (N := 9) (host := "PlaFolder") hx hb hts hinX0 hown hK.1 hP.r.r.r.r.r 0 rfl rfl 1 (by decide) (hK.2.F 14 (q := ("PlaFolder", 166, "PlaFolder$BestFolding", "count", "I", "PlaFolder")) rfl) (fun _ h9 => h9) rfl dX5_bestLower_20 ?_
    refine lv_icmp_ge (tgt := 38) hx hb dX5_bestLower_23 (by decide) (fun c_16 => ?_) (fun c_16 => ?_)
    · have h := h.1 c_16
      refine lv_iconst (v := (-1 : Int32)) hx hb dX5_bestLower_38 (by decide) ?_
      exact W.iret hx hb hr (fun t ht hW => ⟨⟨_, (er, u3, u4, u5, u6, u7, u8, u9, u10, u11, u12, u13, u14, u15), rfl, h, by rw [ht]; exact hP, hD⟩, hS.F ht⟩) hS.2.2 dX5_bestLower_39
    · have h := h.2 c_16
      refine lv_aload_n hx hb dX5_bestLower_26 rfl (lv_at hl 0 rfl) ?_
      refine va_get (D := G.1) (ci := 5) (v := .ref (be 0)) (C := RX5) (T := TX5) (N := 6) hx hb hts hinX5 hown hK.1 hP.l 0 rfl rfl 4 (by decide) (hts (.fieldLink RX5 40 "PlaFolder" "best" "LPlaFolder$BestFolding;") (by decide +kernel)) (fun _ h9 => h9) rfl dX5_bestLower_27 ?_
      refine va_getN (D := G.1) (ci := 0) (v := .ref (be 2)) (C := RX0) (T := TX0) (N := 9) (host := "PlaFolder") hx hb hts hinX0 hown hK.1 hP.r.r.r.r.r 0 rfl rfl 3 (by decide) (hK.2.F 16 (q := ("PlaFolder", 172, "PlaFolder$BestFolding", "lower", "[I", "PlaFolder")) rfl) (fun _ h9 => h9) rfl dX5_bestLower_30 ?_
      refine lv_iload_n hx hb dX5_bestLower_33 rfl (lv_at hl 1 rfl) ?_
      obtain ⟨hi17, h⟩ := h
      refine x_iald hx hb hK hP.r.r.r.r.r 2 rfl hi17 rfl dX5_bestLower_34 ?_
      refine lv_goto (tgt := 39) hx hb dX5_bestLower_35 (by decide) ?_
      exact W.iret hx hb hr (fun t ht hW => ⟨⟨_, (er, u3, u4, u5, u6, u7, u8, u9, u10, u11, u12, u13, u14, u15), rfl, h, by rw [ht]; exact hP, hD⟩, hS.F ht⟩) hS.2.2 dX5_bestLower_39
  · have h := h.2 c_1
    refine lv_aload_n hx hb dX5_bestLower_4 rfl (lv_at hl 0 rfl) ?_
    refine lv_bipush (v := (-2 : Int32)) hx hb dX5_bestLower_5 (by decide) ?_
    refine kp_i (wr := ([] : va_W)) (va_runV (As := [.int (-2 : Int32)]) (rest := []) ⟨hx, hb, hml, hown, hts⟩ (c_X5_fail l G ad sd hd md rd be beD _ er inp otp tc fc on ze ou wd lo up hc sa sv ab tr rt kn ct bu bl tu tl bd bm d0 d1 d2 d3 d4 d5 (-2 : Int32) h) (cwV 1 hts gX5_bestLower_X5_fail rfl rfl rfl (by decide +kernel) ⟨Nat.le_of_ble_eq_true rfl, Nat.le_of_ble_eq_true rfl⟩) (kpVp hK hP hD hZ hS hA (pm_all _) (q0 := 0) (ci := 5) rfl rfl) rfl rfl hl.1 rfl (lv_room (Nat.le_of_ble_eq_true rfl)) dX5_bestLower_7 ⟨Nat.zero_le _, Nat.zero_le _⟩) hP hD hS hA (pm_all _) (fun r19 w21 H locs h hP hD hS => ?_)
    obtain ⟨u20, rfl⟩ : ∃ z, z = w21 := ⟨_, rfl⟩
    have hP : va_P G.1 vwCl (wP G ad sd hd md rd be u20 ++ (wS G sd inp otp tc fc on ze ou wd lo up ++ (wH G hd hc sa sv ++ (wD G md ab ++ (wR G rd tr rt ++ (wB G be beD kn ct bu bl tu tl bd bm d0 d1 d2 d3 d4 d5)))))) H := hP.perm (pm_all _).symm
    have hD : va_D A (wP G ad sd hd md rd be u20 ++ (wS G sd inp otp tc fc on ze ou wd lo up ++ (wH G hd hc sa sv ++ (wD G md ab ++ (wR G rd tr rt ++ (wB G be beD kn ct bu bl tu tl bd bm d0 d1 d2 d3 d4 d5)))))) := hD.perm (pm_all _).symm
    try dsimp only at h
    exact W.iret hx hb hr (fun t ht hW => ⟨⟨_, (u20, kn, ct, bu, bl, tu, tl, bd, bm, d1, d2, d3, d4, d5), rfl, h, by rw [ht]; exact hP, hD⟩, hS.F ht⟩) hS.2.2 dX5_bestLower_10
def wp_X5_foldBest (inp : Int32) (otp : Int32) (tc : Int32) (fc : Int32) (on : Nat → Int32) (ze : Nat → Int32) (ou : Nat → Int32) (wd : Nat → Int64) (lo : Nat → Int32) (up : Nat → Int32) (hc : Int32) (sa : Nat → Nat → Nat) (sv : Nat → SS) (ab : Nat → Int32) (tr : Nat → Int32) (rt : Nat → Int32) (kn : Int32) (ct : Int32) (bu : Nat → Int32) (bl : Nat → Int32) (tu : Nat → Int32) (tl : Nat → Int32) (bd : Nat → Int32) (bm : Nat → Int32) (d0 : Nat → Int32) (d1 : Nat → Int32) (d2 : Nat → Int32) (d3 : Nat → Int32) (d4 : Nat → Int32) (d5 : Nat → Int32) (K : Int32 → Int32 → (Nat → Int32) → (Nat → Int32) → Int32 → (Nat → Nat → Nat) → (Nat → SS) → (Nat → Int32) → (Nat → Int32) → (Nat → Int32) → Int32 → Int32 → (Nat → Int32) → (Nat → Int32) → (Nat → Int32) → (Nat → Int32) → (Nat → Int32) → (Nat → Int32) → (Nat → Int32) → (Nat → Int32) → (Nat → Int32) → (Nat → Int32) → (Nat → Int32) → Prop) : Prop :=
 wp_X5_findBest inp otp tc on ze ou kn ct bu bl tu tl bd bm d0 d1 d2 d3 d4 d5 (fun (u2 : Int32) (u3 : Int32) (u4 : Nat → Int32) (u5 : Nat → Int32) (u6 : Nat → Int32) (u7 : Nat → Int32) (u8 : Nat → Int32) (u9 : Nat → Int32) (u10 : Nat → Int32) (u11 : Nat → Int32) (u12 : Nat → Int32) (u13 : Nat → Int32) (u14 : Nat → Int32) => wp_X2_push hc sa sv inp otp tc fc on ze ou wd lo up (fun (u16 : Int32) (u17 : Nat → Nat → Nat) (u18 : Nat → SS) => wp_X4_partAll fc lo up (fun (u20 : Int32) (u21 : Nat → Int32) (u22 : Nat → Int32) => (Lp4 (0 : Int32) u20 u21 u22 (fun (x23 : Int32) (z24 : Int32) (z25 : Nat → Int32) (z26 : Nat → Int32) (J30 : Int32 → Int32 → (Nat → Int32) → (Nat → Int32) → Prop) => ((u3 ≤ x23 → wp_X5_foldsChanged tc on ze ou z25 ab tr rt (fun (u35 : Nat → Int32) (u36 : Nat → Int32) (u37 : Nat → Int32) => wp_X5_area inp otp tc z24 (fun (r38 : Int32) => K r38 z24 z25 z26 u16 u17 u18 u35 u36 u37 u2 u3 u4 u5 u6 u7 u8 u9 u10 u11 u12 u13 u14))) ∧
 (¬ (u3 ≤ x23) → (vp_in x23 5 ∧ (vp_in x23 5 ∧ wp_X4_join (u4 x23.toNatClampNeg) (u5 x23.toNatClampNeg) z24 z25 z26 (fun (u44 : Int32) (u45 : Nat → Int32) (u46 : Nat → Int32) => J30 (x23 + (1 : Int32)) u44 u45 u46))))))))))
abbrev rm_X5_foldBest : Room := { frames := 16, cells := 0, slots := 0, locals := 393 }
set_option maxHeartbeats 4000000 in
set_option maxRecDepth 100000 in
theorem c_X5_foldBest (l : Launch) (G : GG) (ad : Nat → Nat) (sd : Nat → Nat) (hd : Nat → Nat) (md : Nat → Nat) (rd : Nat → Nat) (be : Nat → Nat) (beD : Nat → Nat → Nat) (sz : Nat) (er : Nat → Int32) (inp : Int32) (otp : Int32) (tc : Int32) (fc : Int32) (on : Nat → Int32) (ze : Nat → Int32) (ou : Nat → Int32) (wd : Nat → Int64) (lo : Nat → Int32) (up : Nat → Int32) (hc : Int32) (sa : Nat → Nat → Nat) (sv : Nat → SS) (ab : Nat → Int32) (tr : Nat → Int32) (rt : Nat → Int32) (kn : Int32) (ct : Int32) (bu : Nat → Int32) (bl : Nat → Int32) (tu : Nat → Int32) (tl : Nat → Int32) (bd : Nat → Int32) (bm : Nat → Int32) (d0 : Nat → Int32) (d1 : Nat → Int32) (d2 : Nat → Int32) (d3 : Nat → Int32) (d4 : Nat → Int32) (d5 : Nat → Int32) {K : Int32 → Int32 → (Nat → Int32) → (Nat → Int32) → Int32 → (Nat → Nat → Nat) → (Nat → SS) → (Nat → Int32) → (Nat → Int32) → (Nat → Int32) → Int32 → Int32 → (Nat → Int32) → (Nat → Int32) → (Nat → Int32) → (Nat → Int32) → (Nat → Int32) → (Nat → Int32) → (Nat → Int32) → (Nat → Int32) → (Nat → Int32) → (Nat → Int32) → (Nat → Int32) → Prop} (h : wp_X5_foldBest inp otp tc fc on ze ou wd lo up hc sa sv ab tr rt kn ct bu bl tu tl bd bm d0 d1 d2 d3 d4 d5 K) : CI l yX5_foldBest wsX5_foldBest rm_X5_foldBest G [.ref (ad 0)] (wP G ad sd hd md rd be er ++ (wS G sd inp otp tc fc on ze ou wd lo up ++ (wH G hd hc sa sv ++ (wD G md ab ++ (wR G rd tr rt ++ (wB G be beD kn ct bu bl tu tl bd bm d0 d1 d2 d3 d4 d5)))))) sz (fun u : Int32 × (Nat → Int32) × (Nat → Int32) × Int32 × (Nat → Nat → Nat) × (Nat → SS) × (Nat → Int32) × (Nat → Int32) × (Nat → Int32) × Int32 × Int32 × (Nat → Int32) × (Nat → Int32) × (Nat → Int32) × (Nat → Int32) × (Nat → Int32) × (Nat → Int32) × (Nat → Int32) × (Nat → Int32) × (Nat → Int32) × (Nat → Int32) × (Nat → Int32) => wP G ad sd hd md rd be er ++ (wS G sd inp otp tc u.1 on ze ou wd u.2.1 u.2.2.1 ++ (wH G hd u.2.2.2.1 u.2.2.2.2.1 u.2.2.2.2.2.1 ++ (wD G md u.2.2.2.2.2.2.1 ++ (wR G rd u.2.2.2.2.2.2.2.1 u.2.2.2.2.2.2.2.2.1 ++ (wB G be beD u.2.2.2.2.2.2.2.2.2.1 u.2.2.2.2.2.2.2.2.2.2.1 u.2.2.2.2.2.2.2.2.2.2.2.1 u.2.2.2.2.2.2.2.2.2.2.2.2.1 u.2.2.2.2.2.2.2.2.2.2.2.2.2.1 u.2.2.2.2.2.2.2.2.2.2.2.2.2.2.1 u.2.2.2.2.2.2.2.2.2.2.2.2.2.2.2.1 u.2.2.2.2.2.2.2.2.2.2.2.2.2.2.2.2.1 d0 u.2.2.2.2.2.2.2.2.2.2.2.2.2.2.2.2.2.1 u.2.2.2.2.2.2.2.2.2.2.2.2.2.2.2.2.2.2.1 u.2.2.2.2.2.2.2.2.2.2.2.2.2.2.2.2.2.2.2.1 u.2.2.2.2.2.2.2.2.2.2.2.2.2.2.2.2.2.2.2.2.1 u.2.2.2.2.2.2.2.2.2.2.2.2.2.2.2.2.2.2.2.2.2)))))) (fun r u => K r u.1 u.2.1 u.2.2.1 u.2.2.2.1 u.2.2.2.2.1 u.2.2.2.2.2.1 u.2.2.2.2.2.2.1 u.2.2.2.2.2.2.2.1 u.2.2.2.2.2.2.2.2.1 u.2.2.2.2.2.2.2.2.2.1 u.2.2.2.2.2.2.2.2.2.2.1 u.2.2.2.2.2.2.2.2.2.2.2.1 u.2.2.2.2.2.2.2.2.2.2.2.2.1 u.2.2.2.2.2.2.2.2.2.2.2.2.2.1 u.2.2.2.2.2.2.2.2.2.2.2.2.2.2.1 u.2.2.2.2.2.2.2.2.2.2.2.2.2.2.2.1 u.2.2.2.2.2.2.2.2.2.2.2.2.2.2.2.2.1 u.2.2.2.2.2.2.2.2.2.2.2.2.2.2.2.2.2.1 u.2.2.2.2.2.2.2.2.2.2.2.2.2.2.2.2.2.2.1 u.2.2.2.2.2.2.2.2.2.2.2.2.2.2.2.2.2.2.2.1 u.2.2.2.2.2.2.2.2.2.2.2.2.2.2.2.2.2.2.2.2.1 u.2.2.2.2.2.2.2.2.2.2.2.2.2.2.2.2.2.2.2.2.2) := by
  refine Met.ofW (cc := cX5_foldBest) (maxL := 2) (ret := (some .int)) (by decide) rfl ?_
  intro p e s m args below meth c s₁ B hml hv
  obtain ⟨rfl, hsz, hP, hK, hD0, hZ⟩ := hv
  have hx := B.exec
  have hb := B.bytes
  have hr := B.returns
  have hts := atoms_spec (ws := wsX5_foldBest) B.pre
  have hown : s.vm.findClass RX5 = some m.cls := findClass_of_methodNamed B.named
  have hlocks := B.notSynchronized
  subst hsz
  have hD := hD0.self (sz := s.heap.size)
  generalize hAe : va_A (wP G ad sd hd md rd be er ++ (wS G sd inp otp tc fc on ze ou wd lo up ++ (wH G hd hc sa sv ++ (wD G md ab ++ (wR G rd tr rt ++ (wB G be beD kn ct bu bl tu tl bd bm d0 d1 d2 d3 d4 d5)))))) s.heap.size = A at hD hZ ⊢
  have hA : ∀ q : Nat, s.heap.size ≤ q → A q := fun q h => by rw [← hAe]; exact Or.inr h
  have hS : va_S A s.heap s.heap [] := va_S.rf
  have hl := lv_entry ([.ref (ad 0)]) (n := 2) (Nat.le_of_ble_eq_true rfl)
  rw [lg_entry_eq]
  generalize (lg_sl ([.ref (ad 0)]) ++ List.replicate (2 - (lg_sl ([.ref (ad 0)])).length) Slot.unset).toArray = ls at hl ⊢
  have hl : lv_has ls 2 [(0, .ref (ad 0))] := hl
  unfold wp_X5_foldBest at h
  have hinX0 : ∀ w ∈ wsX00, w ∈ wsX5_foldBest := by decide +kernel
  have hinX5 : ∀ w ∈ wsX50, w ∈ wsX5_foldBest := by decide +kernel
  refine lv_aload_n hx hb dX5_foldBest_0 rfl (lv_at hl 0 rfl) ?_
  refine kp_v (wr := ([] : va_W)) (va_runV (As := []) (rest := []) ⟨hx, hb, hml, hown, hts⟩ (c_X5_findBest l G ad sd hd md rd be beD _ er inp otp tc fc on ze ou wd lo up hc sa sv ab tr rt kn ct bu bl tu tl bd bm d0 d1 d2 d3 d4 d5  h) (cwV 0 hts gX5_foldBest_X5_findBest rfl rfl rfl (by decide +kernel) ⟨Nat.le_of_ble_eq_true rfl, Nat.le_of_ble_eq_true rfl⟩) (kpVp hK hP hD hZ hS hA (pm_all _) (q0 := 0) (ci := 5) rfl rfl) rfl rfl hl.1 rfl (lv_room (Nat.le_of_ble_eq_true rfl)) dX5_foldBest_1 ⟨Nat.zero_le _, Nat.zero_le _⟩) hP hD hS hA (pm_all _) (fun w53 H locs h hP hD hS => ?_)
  obtain ⟨u2, u3, u4, u5, u6, u7, u8, u9, u10, u11, u12, u13, u14⟩ := w53
  have hP : va_P G.1 vwCl (wP G ad sd hd md rd be er ++ (wS G sd inp otp tc fc on ze ou wd lo up ++ (wH G hd hc sa sv ++ (wD G md ab ++ (wR G rd tr rt ++ (wB G be beD u2 u3 u4 u5 u6 u7 u8 u9 d0 u10 u11 u12 u13 u14)))))) H := hP.perm (pm_all _).symm
  have hD : va_D A (wP G ad sd hd md rd be er ++ (wS G sd inp otp tc fc on ze ou wd lo up ++ (wH G hd hc sa sv ++ (wD G md ab ++ (wR G rd tr rt ++ (wB G be beD u2 u3 u4 u5 u6 u7 u8 u9 d0 u10 u11 u12 u13 u14)))))) := hD.perm (pm_all _).symm
  try dsimp only at h
  refine lv_aload_n hx hb dX5_foldBest_4 rfl (lv_at hl 0 rfl) ?_
  refine va_get (D := G.1) (ci := 5) (v := .ref (hd 0)) (C := RX5) (T := TX5) (N := 6) hx hb hts hinX5 hown hK.1 hP.l 0 rfl rfl 1 (by decide) (hts (.fieldLink RX5 19 "PlaFolder" "history" "LPlaFolder$History;") (by decide +kernel)) (fun _ h9 => h9) rfl dX5_foldBest_5 ?_
  refine lv_aload_n hx hb dX5_foldBest_8 rfl (lv_at hl 0 rfl) ?_
  refine va_get (D := G.1) (ci := 5) (v := .ref (sd 0)) (C := RX5) (T := TX5) (N := 6) hx hb hts hinX5 hown hK.1 hP.l 0 rfl rfl 0 (by decide) (hts (.fieldLink RX5 12 "PlaFolder" "state" "LPlaFolder$State;") (by decide +kernel)) (fun _ h9 => h9) rfl dX5_foldBest_9 ?_
  refine kp_v (wr := wP G ad sd hd md rd be er ++ (wD G md ab ++ (wR G rd tr rt ++ (wB G be beD u2 u3 u4 u5 u6 u7 u8 u9 d0 u10 u11 u12 u13 u14)))) (va_runVN (As := [.ref (sd 0)]) (rest := []) ⟨hx, hb, hml, hown, hts⟩ (c_X2_push l G hd sd _ hc sa sv inp otp tc fc on ze ou wd lo up  h) ⟨va_cnB 1 hts gX5_foldBest_X2_push_n52 rfl rfl rfl (hK.2.M 7 (q := ("PlaFolder", 52, ⟨"PlaFolder$History", "push", "(LPlaFolder$State;)V"⟩, "PlaFolder")) rfl) (hts (.initialized RX2) (by decide +kernel)) (by decide +kernel) ⟨Nat.le_of_ble_eq_true rfl, Nat.le_of_ble_eq_true rfl⟩, hts (.instanceMethod yX2_push) (by decide +kernel), hts (.selects RX2 yX2_push yX2_push) (by decide +kernel)⟩ (kpVp hK hP hD hZ hS hA (pm6_0345_21 (wP G ad sd hd md rd be er) (wS G sd inp otp tc fc on ze ou wd lo up) (wH G hd hc sa sv) (wD G md ab) (wR G rd tr rt) (wB G be beD u2 u3 u4 u5 u6 u7 u8 u9 d0 u10 u11 u12 u13 u14)) (q0 := 0) (ci := 2) rfl rfl) rfl rfl hl.1 rfl (lv_room (Nat.le_of_ble_eq_true rfl)) dX5_foldBest_12 ⟨Nat.zero_le _, Nat.zero_le _⟩) hP hD hS hA (pm6_0345_21 (wP G ad sd hd md rd be er) (wS G sd inp otp tc fc on ze ou wd lo up) (wH G hd hc sa sv) (wD G md ab) (wR G rd tr rt) (wB G be beD u2 u3 u4 u5 u6 u7 u8 u9 d0 u10 u11 u12 u13 u14)) (fun w52 H locs h hP hD hS => ?_)
  obtain ⟨u16, u17, u18⟩ := w52
  have hP : va_P G.1 vwCl (wP G ad sd hd md rd be er ++ (wS G sd inp otp tc fc on ze ou wd lo up ++ (wH G hd u16 u17 u18 ++ (wD G md ab ++ (wR G rd tr rt ++ (wB G be beD u2 u3 u4 u5 u6 u7 u8 u9 d0 u10 u11 u12 u13 u14)))))) H := hP.perm (pm6_0345_21 (wP G ad sd hd md rd be er) (wS G sd inp otp tc fc on ze ou wd lo up) (wH G hd u16 u17 u18) (wD G md ab) (wR G rd tr rt) (wB G be beD u2 u3 u4 u5 u6 u7 u8 u9 d0 u10 u11 u12 u13 u14)).symm
  have hD : va_D A (wP G ad sd hd md rd be er ++ (wS G sd inp otp tc fc on ze ou wd lo up ++ (wH G hd u16 u17 u18 ++ (wD G md ab ++ (wR G rd tr rt ++ (wB G be beD u2 u3 u4 u5 u6 u7 u8 u9 d0 u10 u11 u12 u13 u14)))))) := hD.perm (pm6_0345_21 (wP G ad sd hd md rd be er) (wS G sd inp otp tc fc on ze ou wd lo up) (wH G hd u16 u17 u18) (wD G md ab) (wR G rd tr rt) (wB G be beD u2 u3 u4 u5 u6 u7 u8 u9 d0 u10 u11 u12 u13 u14)).symm
  try dsimp only at h
  refine lv_aload_n hx hb dX5_foldBest_15 rfl (lv_at hl 0 rfl) ?_
  refine va_get (D := G.1) (ci := 5) (v := .ref (sd 0)) (C := RX5) (T := TX5) (N := 6) hx hb hts hinX5 hown hK.1 hP.l 0 rfl rfl 0 (by decide) (hts (.fieldLink RX5 12 "PlaFolder" "state" "LPlaFolder$State;") (by decide +kernel)) (fun _ h9 => h9) rfl dX5_foldBest_16 ?_
  refine kp_v (wr := wP G ad sd hd md rd be er ++ (wH G hd u16 u17 u18 ++ (wD G md ab ++ (wR G rd tr rt ++ (wB G be beD u2 u3 u4 u5 u6 u7 u8 u9 d0 u10 u11 u12 u13 u14))))) (va_runVN (As := []) (rest := []) ⟨hx, hb, hml, hown, hts⟩ (c_X4_partAll l G sd _ inp otp tc fc on ze ou wd lo up  h) ⟨va_cnB 0 hts gX5_foldBest_X4_partAll_n175 rfl rfl rfl (hK.2.M 39 (q := ("PlaFolder", 175, ⟨"PlaFolder$State", "partAll", "()V"⟩, "PlaFolder")) rfl) (hts (.initialized RX4) (by decide +kernel)) (by decide +kernel) ⟨Nat.le_of_ble_eq_true rfl, Nat.le_of_ble_eq_true rfl⟩, hts (.instanceMethod yX4_partAll) (by decide +kernel), hts (.selects RX4 yX4_partAll yX4_partAll) (by decide +kernel)⟩ (kpVp hK hP hD hZ hS hA (pm6_02345_1 (wP G ad sd hd md rd be er) (wS G sd inp otp tc fc on ze ou wd lo up) (wH G hd u16 u17 u18) (wD G md ab) (wR G rd tr rt) (wB G be beD u2 u3 u4 u5 u6 u7 u8 u9 d0 u10 u11 u12 u13 u14)) (q0 := 0) (ci := 4) rfl rfl) rfl rfl hl.1 rfl (lv_room (Nat.le_of_ble_eq_true rfl)) dX5_foldBest_19 ⟨Nat.zero_le _, Nat.zero_le _⟩) hP hD hS hA (pm6_02345_1 (wP G ad sd hd md rd be er) (wS G sd inp otp tc fc on ze ou wd lo up) (wH G hd u16 u17 u18) (wD G md ab) (wR G rd tr rt) (wB G be beD u2 u3 u4 u5 u6 u7 u8 u9 d0 u10 u11 u12 u13 u14)) (fun w51 H locs h hP hD hS => ?_)
  obtain ⟨u20, u21, u22⟩ := w51
  have hP : va_P G.1 vwCl (wP G ad sd hd md rd be er ++ (wS G sd inp otp tc u20 on ze ou wd u21 u22 ++ (wH G hd u16 u17 u18 ++ (wD G md ab ++ (wR G rd tr rt ++ (wB G be beD u2 u3 u4 u5 u6 u7 u8 u9 d0 u10 u11 u12 u13 u14)))))) H := hP.perm (pm6_02345_1 (wP G ad sd hd md rd be er) (wS G sd inp otp tc u20 on ze ou wd u21 u22) (wH G hd u16 u17 u18) (wD G md ab) (wR G rd tr rt) (wB G be beD u2 u3 u4 u5 u6 u7 u8 u9 d0 u10 u11 u12 u13 u14)).symm
  have hD : va_D A (wP G ad sd hd md rd be er ++ (wS G sd inp otp tc u20 on ze ou wd u21 u22 ++ (wH G hd u16 u17 u18 ++ (wD G md ab ++ (wR G rd tr rt ++ (wB G be beD u2 u3 u4 u5 u6 u7 u8 u9 d0 u10 u11 u12 u13 u14)))))) := hD.perm (pm6_02345_1 (wP G ad sd hd md rd be er) (wS G sd inp otp tc u20 on ze ou wd u21 u22) (wH G hd u16 u17 u18) (wD G md ab) (wR G rd tr rt) (wB G be beD u2 u3 u4 u5 u6 u7 u8 u9 d0 u10 u11 u12 u13 u14)).symm
  try dsimp only at h
  refine lv_iconst (v := (0 : Int32)) hx hb dX5_foldBest_22 (by decide) ?_
  refine lv_istore_n (lv' := [(1, .int (0 : Int32)), (0, .ref (ad 0))]) hx hb dX5_foldBest_23 rfl hl (by decide) rfl (fun ls hl => ?_)
  obtain ⟨I27, n28, h0, hst29⟩ := h
  refine loopW (σ := Int32 × Int32 × (Nat → Int32) × (Nat → Int32)) (P := fun q H locs ls => va_P G.1 vwCl (wP G ad sd hd md rd be er ++ (wS G sd inp otp tc q.2.1 on ze ou wd q.2.2.1 q.2.2.2 ++ (wH G hd u16 u17 u18 ++ (wD G md ab ++ (wR G rd tr rt ++ (wB G be beD u2 u3 u4 u5 u6 u7 u8 u9 d0 u10 u11 u12 u13 u14)))))) H ∧ va_D A (wP G ad sd hd md rd be er ++ (wS G sd inp otp tc q.2.1 on ze ou wd q.2.2.1 q.2.2.2 ++ (wH G hd u16 u17 u18 ++ (wD G md ab ++ (wR G rd tr rt ++ (wB G be beD u2 u3 u4 u5 u6 u7 u8 u9 d0 u10 u11 u12 u13 u14)))))) ∧ va_S A s.heap H locs ∧ lv_has ls 2 [(0, .ref (ad 0)), (1, .int q.1)]) (I := fun n q => I27 n q.1 q.2.1 q.2.2.1 q.2.2.2) n28 ((0 : Int32), u20, u21, u22) h0 _ _ _ ⟨hP, hD, hS, lv_sub hl [1, 0] rfl⟩ ?_
  rintro n32 ⟨x23, z24, z25, z26⟩ hI ih31 H locs ls ⟨hP, hD, hS, hl⟩
  have hP : va_P G.1 vwCl (wP G ad sd hd md rd be er ++ (wS G sd inp otp tc z24 on ze ou wd z25 z26 ++ (wH G hd u16 u17 u18 ++ (wD G md ab ++ (wR G rd tr rt ++ (wB G be beD u2 u3 u4 u5 u6 u7 u8 u9 d0 u10 u11 u12 u13 u14)))))) H := hP
  have hD : va_D A (wP G ad sd hd md rd be er ++ (wS G sd inp otp tc z24 on ze ou wd z25 z26 ++ (wH G hd u16 u17 u18 ++ (wD G md ab ++ (wR G rd tr rt ++ (wB G be beD u2 u3 u4 u5 u6 u7 u8 u9 d0 u10 u11 u12 u13 u14)))))) := hD
  have hl : lv_has ls 2 [(0, .ref (ad 0)), (1, .int x23)] := hl
  have h := hst29 n32 x23 z24 z25 z26 hI
  refine lv_iload_n hx hb dX5_foldBest_24 rfl (lv_at hl 1 rfl) ?_
  refine lv_aload_n hx hb dX5_foldBest_25 rfl (lv_at hl 0 rfl) ?_
  refine va_get (D := G.1) (ci := 5) (v := .ref (be 0)) (C := RX5) (T := TX5) (N := 6) hx hb hts hinX5 hown hK.1 hP.l 0 rfl rfl 4 (by decide) (hts (.fieldLink RX5 40 "PlaFolder" "best" "LPlaFolder$BestFolding;") (by decide +kernel)) (fun _ h9 => h9) rfl dX5_foldBest_26 ?_
  refine va_getN (D := G.1) (ci := 0) (v := .int u3) (C := RX0) (T := TX0) (N := 9) (host := "PlaFolder") hx hb hts hinX0 hown hK.1 hP.r.r.r.r.r 0 rfl rfl 1 (by decide) (hK.2.F 14 (q := ("PlaFolder", 166, "PlaFolder$BestFolding", "count", "I", "PlaFolder")) rfl) (fun _ h9 => h9) rfl dX5_foldBest_29 ?_
  refine lv_icmp_ge (tgt := 66) hx hb dX5_foldBest_32 (by decide) (fun c_33 => ?_) (fun c_33 => ?_)
  · have h := h.1 c_33
    refine lv_aload_n hx hb dX5_foldBest_66 rfl (lv_at hl 0 rfl) ?_
    refine kp_v (wr := ([] : va_W)) (va_runV (As := []) (rest := []) ⟨hx, hb, hml, hown, hts⟩ (c_X5_foldsChanged l G ad sd hd md rd be beD _ er inp otp tc z24 on ze ou wd z25 z26 u16 u17 u18 ab tr rt u2 u3 u4 u5 u6 u7 u8 u9 d0 u10 u11 u12 u13 u14  h) (cwV 0 hts gX5_foldBest_X5_foldsChanged rfl rfl rfl (by decide +kernel) ⟨Nat.le_of_ble_eq_true rfl, Nat.le_of_ble_eq_true rfl⟩) (kpVp hK hP hD hZ hS hA (pm_all _) (q0 := 0) (ci := 5) rfl rfl) rfl rfl hl.1 rfl (lv_room (Nat.le_of_ble_eq_true rfl)) dX5_foldBest_67 ⟨Nat.zero_le _, Nat.zero_le _⟩) hP hD hS hA (pm_all _) (fun w40 H locs h hP hD hS => ?_)
    obtain ⟨u35, u36, u37⟩ := w40
    have hP : va_P G.1 vwCl (wP G ad sd hd md rd be er ++ (wS G sd inp otp tc z24 on ze ou wd z25 z26 ++ (wH G hd u16 u17 u18 ++ (wD G md u35 ++ (wR G rd u36 u37 ++ (wB G be beD u2 u3 u4 u5 u6 u7 u8 u9 d0 u10 u11 u12 u13 u14)))))) H := hP.perm (pm_all _).symm
    have hD : va_D A (wP G ad sd hd md rd be er ++ (wS G sd inp otp tc z24 on ze ou wd z25 z26 ++ (wH G hd u16 u17 u18 ++ (wD G md u35 ++ (wR G rd u36 u37 ++ (wB G be beD u2 u3 u4 u5 u6 u7 u8 u9 d0 u10 u11 u12 u13 u14)))))) := hD.perm (pm_all _).symm
    try dsimp only at h
    refine lv_aload_n hx hb dX5_foldBest_70 rfl (lv_at hl 0 rfl) ?_
    refine kp_i (wr := ([] : va_W)) (va_runV (As := []) (rest := []) ⟨hx, hb, hml, hown, hts⟩ (c_X5_area l G ad sd hd md rd be beD _ er inp otp tc z24 on ze ou wd z25 z26 u16 u17 u18 u35 u36 u37 u2 u3 u4 u5 u6 u7 u8 u9 d0 u10 u11 u12 u13 u14  h) (cwV 0 hts gX5_foldBest_X5_area rfl rfl rfl (by decide +kernel) ⟨Nat.le_of_ble_eq_true rfl, Nat.le_of_ble_eq_true rfl⟩) (kpVp hK hP hD hZ hS hA (pm_all _) (q0 := 0) (ci := 5) rfl rfl) rfl rfl hl.1 rfl (lv_room (Nat.le_of_ble_eq_true rfl)) dX5_foldBest_71 ⟨Nat.zero_le _, Nat.zero_le _⟩) hP hD hS hA (pm_all _) (fun r38 w39 H locs h hP hD hS => ?_)
    have hP : va_P G.1 vwCl (wP G ad sd hd md rd be er ++ (wS G sd inp otp tc z24 on ze ou wd z25 z26 ++ (wH G hd u16 u17 u18 ++ (wD G md u35 ++ (wR G rd u36 u37 ++ (wB G be beD u2 u3 u4 u5 u6 u7 u8 u9 d0 u10 u11 u12 u13 u14)))))) H := hP.perm (pm_all _).symm
    have hD : va_D A (wP G ad sd hd md rd be er ++ (wS G sd inp otp tc z24 on ze ou wd z25 z26 ++ (wH G hd u16 u17 u18 ++ (wD G md u35 ++ (wR G rd u36 u37 ++ (wB G be beD u2 u3 u4 u5 u6 u7 u8 u9 d0 u10 u11 u12 u13 u14)))))) := hD.perm (pm_all _).symm
    try dsimp only at h
    exact W.iret hx hb hr (fun t ht hW => ⟨⟨_, (z24, z25, z26, u16, u17, u18, u35, u36, u37, u2, u3, u4, u5, u6, u7, u8, u9, u10, u11, u12, u13, u14), rfl, h, by rw [ht]; exact hP, hD⟩, hS.F ht⟩) hS.2.2 dX5_foldBest_74
  · have h := h.2 c_33
    refine lv_aload_n hx hb dX5_foldBest_35 rfl (lv_at hl 0 rfl) ?_
    refine va_get (D := G.1) (ci := 5) (v := .ref (sd 0)) (C := RX5) (T := TX5) (N := 6) hx hb hts hinX5 hown hK.1 hP.l 0 rfl rfl 0 (by decide) (hts (.fieldLink RX5 12 "PlaFolder" "state" "LPlaFolder$State;") (by decide +kernel)) (fun _ h9 => h9) rfl dX5_foldBest_36 ?_
    refine lv_aload_n hx hb dX5_foldBest_39 rfl (lv_at hl 0 rfl) ?_
    refine va_get (D := G.1) (ci := 5) (v := .ref (be 0)) (C := RX5) (T := TX5) (N := 6) hx hb hts hinX5 hown hK.1 hP.l 0 rfl rfl 4 (by decide) (hts (.fieldLink RX5 40 "PlaFolder" "best" "LPlaFolder$BestFolding;") (by decide +kernel)) (fun _ h9 => h9) rfl dX5_foldBest_40 ?_
    refine va_getN (D := G.1) (ci := 0) (v := .ref (be 1)) (C := RX0) (T := TX0) (N := 9) (host := "PlaFolder") hx hb hts hinX0 hown hK.1 hP.r.r.r.r.r 0 rfl rfl 2 (by decide) (hK.2.F 15 (q := ("PlaFolder", 169, "PlaFolder$BestFolding", "upper", "[I", "PlaFolder")) rfl) (fun _ h9 => h9) rfl dX5_foldBest_43 ?_
    refine lv_iload_n hx hb dX5_foldBest_46 rfl (lv_at hl 1 rfl) ?_
    obtain ⟨hi41, h⟩ := h
    refine x_iald hx hb hK hP.r.r.r.r.r 1 rfl hi41 rfl dX5_foldBest_47 ?_
    refine lv_aload_n hx hb dX5_foldBest_48 rfl (lv_at hl 0 rfl) ?_
    refine va_get (D := G.1) (ci := 5) (v := .ref (be 0)) (C := RX5) (T := TX5) (N := 6) hx hb hts hinX5 hown hK.1 hP.l 0 rfl rfl 4 (by decide) (hts (.fieldLink RX5 40 "PlaFolder" "best" "LPlaFolder$BestFolding;") (by decide +kernel)) (fun _ h9 => h9) rfl dX5_foldBest_49 ?_
    refine va_getN (D := G.1) (ci := 0) (v := .ref (be 2)) (C := RX0) (T := TX0) (N := 9) (host := "PlaFolder") hx hb hts hinX0 hown hK.1 hP.r.r.r.r.r 0 rfl rfl 3 (by decide) (hK.2.F 16 (q := ("PlaFolder", 172, "PlaFolder$BestFolding", "lower", "[I", "PlaFolder")) rfl) (fun _ h9 => h9) rfl dX5_foldBest_52 ?_
    refine lv_iload_n hx hb dX5_foldBest_55 rfl (lv_at hl 1 rfl) ?_
    obtain ⟨hi42, h⟩ := h
    refine x_iald hx hb hK hP.r.r.r.r.r 2 rfl hi42 rfl dX5_foldBest_56 ?_
    refine kp_v (wr := wP G ad sd hd md rd be er ++ (wH G hd u16 u17 u18 ++ (wD G md ab ++ (wR G rd tr rt ++ (wB G be beD u2 u3 u4 u5 u6 u7 u8 u9 d0 u10 u11 u12 u13 u14))))) (va_runVN (As := [.int (u4 x23.toNatClampNeg), .int (u5 x23.toNatClampNeg)]) (rest := []) ⟨hx, hb, hml, hown, hts⟩ (c_X4_join l G sd _ inp otp tc z24 on ze ou wd z25 z26 (u4 x23.toNatClampNeg) (u5 x23.toNatClampNeg) h) ⟨va_cnB 2 hts gX5_foldBest_X4_join_n135 rfl rfl rfl (hK.2.M 28 (q := ("PlaFolder", 135, ⟨"PlaFolder$State", "join", "(II)V"⟩, "PlaFolder")) rfl) (hts (.initialized RX4) (by decide +kernel)) (by decide +kernel) ⟨Nat.le_of_ble_eq_true rfl, Nat.le_of_ble_eq_true rfl⟩, hts (.instanceMethod yX4_join) (by decide +kernel), hts (.selects RX4 yX4_join yX4_join) (by decide +kernel)⟩ (kpVp hK hP hD hZ hS hA (pm6_02345_1 (wP G ad sd hd md rd be er) (wS G sd inp otp tc z24 on ze ou wd z25 z26) (wH G hd u16 u17 u18) (wD G md ab) (wR G rd tr rt) (wB G be beD u2 u3 u4 u5 u6 u7 u8 u9 d0 u10 u11 u12 u13 u14)) (q0 := 0) (ci := 4) rfl rfl) rfl rfl hl.1 rfl (lv_room (Nat.le_of_ble_eq_true rfl)) dX5_foldBest_57 ⟨Nat.zero_le _, Nat.zero_le _⟩) hP hD hS hA (pm6_02345_1 (wP G ad sd hd md rd be er) (wS G sd inp otp tc z24 on ze ou wd z25 z26) (wH G hd u16 u17 u18) (wD G md ab) (wR G rd tr rt) (wB G be beD u2 u3 u4 u5 u6 u7 u8 u9 d0 u10 u11 u12 u13 u14)) (fun w50 H locs h hP hD hS => ?_)
    obtain ⟨u44, u45, u46⟩ := w50
    have hP : va_P G.1 vwCl (wP G ad sd hd md rd be er ++ (wS G sd inp otp tc u44 on ze ou wd u45 u46 ++ (wH G hd u16 u17 u18 ++ (wD G md ab ++ (wR G rd tr rt ++ (wB G be beD u2 u3 u4 u5 u6 u7 u8 u9 d0 u10 u11 u12 u13 u14)))))) H := hP.perm (pm6_02345_1 (wP G ad sd hd md rd be er) (wS G sd inp otp tc u44 on ze ou wd u45 u46) (wH G hd u16 u17 u18) (wD G md ab) (wR G rd tr rt) (wB G be beD u2 u3 u4 u5 u6 u7 u8 u9 d0 u10 u11 u12 u13 u14)).symm
    have hD : va_D A (wP G ad sd hd md rd be er ++ (wS G sd inp otp tc u44 on ze ou wd u45 u46 ++ (wH G hd u16 u17 u18 ++ (wD G md ab ++ (wR G rd tr rt ++ (wB G be beD u2 u3 u4 u5 u6 u7 u8 u9 d0 u10 u11 u12 u13 u14)))))) := hD.perm (pm6_02345_1 (wP G ad sd hd md rd be er) (wS G sd inp otp tc u44 on ze ou wd u45 u46) (wH G hd u16 u17 u18) (wD G md ab) (wR G rd tr rt) (wB G be beD u2 u3 u4 u5 u6 u7 u8 u9 d0 u10 u11 u12 u13 u14)).symm
    try dsimp only at h
    refine lv_iinc (v := (x23 + (1 : Int32))) (lv' := [(1, .int (x23 + (1 : Int32))), (0, .ref (ad 0))]) hx hb dX5_foldBest_60 hl (k := 1) rfl rfl (by decide) rfl (fun ls hl => ?_)
    refine lv_goto (tgt := 24) hx hb dX5_foldBest_63 (by decide) ?_
    obtain ⟨n48, hn47, hI49⟩ := h
    exact ih31 n48 ((x23 + (1 : Int32)), u44, u45, u46) hn47 hI49 _ _ _ ⟨hP, hD, hS, lv_sub hl [1, 0] rfl⟩
def wp_X5_undo (er : Nat → Int32) (inp : Int32) (otp : Int32) (tc : Int32) (fc : Int32) (on : Nat → Int32) (ze : Nat → Int32) (ou : Nat → Int32) (wd : Nat → Int64) (lo : Nat → Int32) (up : Nat → Int32) (hc : Int32) (sv : Nat → SS) (ab : Nat → Int32) (tr : Nat → Int32) (rt : Nat → Int32) (kn : Int32) (K : Int32 → (Nat → Int32) → Int32 → Int32 → Int32 → Int32 → (Nat → Int32) → (Nat → Int32) → (Nat → Int32) → (Nat → Int64) → (Nat → Int32) → (Nat → Int32) → Int32 → (Nat → Int32) → (Nat → Int32) → (Nat → Int32) → Int32 → Prop) : Prop :=
 ((¬ hc = 0 → wp_X2_pop hc sv inp otp tc fc on ze ou wd lo up (fun (u3 : Int32) (u4 : Int32) (u5 : Int32) (u6 : Int32) (u7 : Int32) (u8 : Nat → Int32) (u9 : Nat → Int32) (u10 : Nat → Int32) (u11 : Nat → Int64) (u12 : Nat → Int32) (u13 : Nat → Int32) => wp_X5_termsChanged u6 u8 u9 u10 u12 ab tr rt kn (fun (u15 : Nat → Int32) (u16 : Nat → Int32) (u17 : Nat → Int32) (u18 : Int32) => K u3 er u4 u5 u6 u7 u8 u9 u10 u11 u12 u13 u3 u15 u16 u17 u18))) ∧
 (hc = 0 → wp_X5_fail (-6 : Int32) er (fun (r21 : Int32) (u22 : Nat → Int32) => K r21 u22 inp otp tc fc on ze ou wd lo up hc ab tr rt kn)))
abbrev rm_X5_undo : Room := { frames := 6, cells := 0, slots := 0, locals := 131 }
set_option maxHeartbeats 4000000 in
set_option maxRecDepth 100000 in
theorem c_X5_undo (l : Launch) (G : GG) (ad : Nat → Nat) (sd : Nat → Nat) (hd : Nat → Nat) (md : Nat → Nat) (rd : Nat → Nat) (be : Nat → Nat) (beD : Nat → Nat → Nat) (sz : Nat) (er : Nat → Int32) (inp : Int32) (otp : Int32) (tc : Int32) (fc : Int32) (on : Nat → Int32) (ze : Nat → Int32) (ou : Nat → Int32) (wd : Nat → Int64) (lo : Nat → Int32) (up : Nat → Int32) (hc : Int32) (sa : Nat → Nat → Nat) (sv : Nat → SS) (ab : Nat → Int32) (tr : Nat → Int32) (rt : Nat → Int32) (kn : Int32) (ct : Int32) (bu : Nat → Int32) (bl : Nat → Int32) (tu : Nat → Int32) (tl : Nat → Int32) (bd : Nat → Int32) (bm : Nat → Int32) (d0 : Nat → Int32) (d1 : Nat → Int32) (d2 : Nat → Int32) (d3 : Nat → Int32) (d4 : Nat → Int32) (d5 : Nat → Int32) {K : Int32 → (Nat → Int32) → Int32 → Int32 → Int32 → Int32 → (Nat → Int32) → (Nat → Int32) → (Nat → Int32) → (Nat → Int64) → (Nat → Int32) → (Nat → Int32) → Int32 → (Nat → Int32) → (Nat → Int32) → (Nat → Int32) → Int32 → Prop} (h : wp_X5_undo er inp otp tc fc on ze ou wd lo up hc sv ab tr rt kn K) : CI l yX5_undo wsX5_undo rm_X5_undo G [.ref (ad 0)] (wP G ad sd hd md rd be er ++ (wS G sd inp otp tc fc on ze ou wd lo up ++ (wH G hd hc sa sv ++ (wD G md ab ++ (wR G rd tr rt ++ (wB G be beD kn ct bu bl tu tl bd bm d0 d1 d2 d3 d4 d5)))))) sz (fun u : (Nat → Int32) × Int32 × Int32 × Int32 × Int32 × (Nat → Int32) × (Nat → Int32) × (Nat → Int32) × (Nat → Int64) × (Nat → Int32) × (Nat → Int32) × Int32 × (Nat → Int32) × (Nat → Int32) × (Nat → Int32) × Int32 => wP G ad sd hd md rd be u.1 ++ (wS G sd u.2.1 u.2.2.1 u.2.2.2.1 u.2.2.2.2.1 u.2.2.2.2.2.1 u.2.2.2.2.2.2.1 u.2.2.2.2.2.2.2.1 u.2.2.2.2.2.2.2.2.1 u.2.2.2.2.2.2.2.2.2.1 u.2.2.2.2.2.2.2.2.2.2.1 ++ (wH G hd u.2.2.2.2.2.2.2.2.2.2.2.1 sa sv ++ (wD G md u.2.2.2.2.2.2.2.2.2.2.2.2.1 ++ (wR G rd u.2.2.2.2.2.2.2.2.2.2.2.2.2.1 u.2.2.2.2.2.2.2.2.2.2.2.2.2.2.1 ++ (wB G be beD u.2.2.2.2.2.2.2.2.2.2.2.2.2.2.2 ct bu bl tu tl bd bm d0 d1 d2 d3 d4 d5)))))) (fun r u => K r u.1 u.2.1 u.2.2.1 u.2.2.2.1 u.2.2.2.2.1 u.2.2.2.2.2.1 u.2.2.2.2.2.2.1 u.2.2.2.2.2.2.2.1 u.2.2.2.2.2.2.2.2.1 u.2.2.2.2.2.2.2.2.2.1 u.2.2.2.2.2.2.2.2.2.2.1 u.2.2.2.2.2.2.2.2.2.2.2.1 u.2.2.2.2.2.2.2.2.2.2.2.2.1 u.2.2.2.2.2.2.2.2.2.2.2.2.2.1 u.2.2.2.2.2.2.2.2.2.2.2.2.2.2.1 u.2.2.2.2.2.2.2.2.2.2.2.2.2.2.2) := by
  refine Met.ofW (cc := cX5_undo) (maxL := 1) (ret := (some .int)) (by decide) rfl ?_
  intro p e s m args below meth c s₁ B hml hv
  obtain ⟨rfl, hsz, hP, hK, hD0, hZ⟩ := hv
  have hx := B.exec
  have hb := B.bytes
  have hr := B.returns
  have hts := atoms_spec (ws := wsX5_undo) B.pre
  have hown : s.vm.findClass RX5 = some m.cls := findClass_of_methodNamed B.named
  have hlocks := B.notSynchronized
  subst hsz
  have hD := hD0.self (sz := s.heap.size)
  generalize hAe : va_A (wP G ad sd hd md rd be er ++ (wS G sd inp otp tc fc on ze ou wd lo up ++ (wH G hd hc sa sv ++ (wD G md ab ++ (wR G rd tr rt ++ (wB G be beD kn ct bu bl tu tl bd bm d0 d1 d2 d3 d4 d5)))))) s.heap.size = A at hD hZ ⊢
  have hA : ∀ q : Nat, s.heap.size ≤ q → A q := fun q h => by rw [← hAe]; exact Or.inr h
  have hS : va_S A s.heap s.heap [] := va_S.rf
  have hl := lv_entry ([.ref (ad 0)]) (n := 1) (Nat.le_of_ble_eq_true rfl)
  rw [lg_entry_eq]
  generalize (lg_sl ([.ref (ad 0)]) ++ List.replicate (1 - (lg_sl ([.ref (ad 0)])).length) Slot.unset).toArray = ls at hl ⊢
  have hl : lv_has ls 1 [(0, .ref (ad 0))] := hl
  unfold wp_X5_undo at h
  have hinX2 : ∀ w ∈ wsX20, w ∈ wsX5_undo := by decide +kernel
  have hinX5 : ∀ w ∈ wsX50, w ∈ wsX5_undo := by decide +kernel
  refine lv_aload_n hx hb dX5_undo_0 rfl (lv_at hl 0 rfl) ?_
  refine va_get (D := G.1) (ci := 5) (v := .ref (hd 0)) (C := RX5) (T := TX5) (N := 6) hx hb hts hinX5 hown hK.1 hP.l 0 rfl rfl 1 (by decide) (hts (.fieldLink RX5 19 "PlaFolder" "history" "LPlaFolder$History;") (by decide +kernel)) (fun _ h9 => h9) rfl dX5_undo_1 ?_
  refine va_getN (D := G.1) (ci := 2) (v := .int hc) (C := RX2) (T := TX2) (N := 2) (host := "PlaFolder") hx hb hts hinX2 hown hK.1 hP.r.r.l 0 rfl rfl 1 (by decide) (hK.2.F 8 (q := ("PlaFolder", 182, "PlaFolder$History", "count", "I", "PlaFolder")) rfl) (fun _ h9 => h9) rfl dX5_undo_4 ?_
  refine lv_if_ne (tgt := 17) hx hb dX5_undo_7 (by decide) (fun c_1 => ?_) (fun c_1 => ?_)
  · have h := h.1 c_1
    refine lv_aload_n hx hb dX5_undo_17 rfl (lv_at hl 0 rfl) ?_
    refine va_get (D := G.1) (ci := 5) (v := .ref (hd 0)) (C := RX5) (T := TX5) (N := 6) hx hb hts hinX5 hown hK.1 hP.l 0 rfl rfl 1 (by decide) (hts (.fieldLink RX5 19 "PlaFolder" "history" "LPlaFolder$History;") (by decide +kernel)) (fun _ h9 => h9) rfl dX5_undo_18 ?_
    refine lv_aload_n hx hb dX5_undo_21 rfl (lv_at hl 0 rfl) ?_
    refine va_get (D := G.1) (ci := 5) (v := .ref (sd 0)) (C := RX5) (T := TX5) (N := 6) hx hb hts hinX5 hown hK.1 hP.l 0 rfl rfl 0 (by decide) (hts (.fieldLink RX5 12 "PlaFolder" "state" "LPlaFolder$State;") (by decide +kernel)) (fun _ h9 => h9) rfl dX5_undo_22 ?_
    refine kp_v (wr := wP G ad sd hd md rd be er ++ (wD G md ab ++ (wR G rd tr rt ++ (wB G be beD kn ct bu bl tu tl bd bm d0 d1 d2 d3 d4 d5)))) (va_runVN (As := [.ref (sd 0)]) (rest := []) ⟨hx, hb, hml, hown, hts⟩ (c_X2_pop l G hd sd _ hc sa sv inp otp tc fc on ze ou wd lo up  h) ⟨va_cnB 1 hts gX5_undo_X2_pop_n183 rfl rfl rfl (hK.2.M 40 (q := ("PlaFolder", 183, ⟨"PlaFolder$History", "pop", "(LPlaFolder$State;)V"⟩, "PlaFolder")) rfl) (hts (.initialized RX2) (by decide +kernel)) (by decide +kernel) ⟨Nat.le_of_ble_eq_true rfl, Nat.le_of_ble_eq_true rfl⟩, hts (.instanceMethod yX2_pop) (by decide +kernel), hts (.selects RX2 yX2_pop yX2_pop) (by decide +kernel)⟩ (kpVp hK hP hD hZ hS hA (pm6_0345_21 (wP G ad sd hd md rd be er) (wS G sd inp otp tc fc on ze ou wd lo up) (wH G hd hc sa sv) (wD G md ab) (wR G rd tr rt) (wB G be beD kn ct bu bl tu tl bd bm d0 d1 d2 d3 d4 d5)) (q0 := 0) (ci := 2) rfl rfl) rfl rfl hl.1 rfl (lv_room (Nat.le_of_ble_eq_true rfl)) dX5_undo_25 ⟨Nat.zero_le _, Nat.zero_le _⟩) hP hD hS hA (pm6_0345_21 (wP G ad sd hd md rd be er) (wS G sd inp otp tc fc on ze ou wd lo up) (wH G hd hc sa sv) (wD G md ab) (wR G rd tr rt) (wB G be beD kn ct bu bl tu tl bd bm d0 d1 d2 d3 d4 d5)) (fun w20 H locs h hP hD hS => ?_)
    obtain ⟨u3, u4, u5, u6, u7, u8, u9, u10, u11, u12, u13⟩ := w20
    have hP : va_P G.1 vwCl (wP G ad sd hd md rd be er ++ (wS G sd u4 u5 u6 u7 u8 u9 u10 u11 u12 u13 ++ (wH G hd u3 sa sv ++ (wD G md ab ++ (wR G rd tr rt ++ (wB G be beD kn ct bu bl tu tl bd bm d0 d1 d2 d3 d4 d5)))))) H := hP.perm (pm6_0345_21 (wP G ad sd hd md rd be er) (wS G sd u4 u5 u6 u7 u8 u9 u10 u11 u12 u13) (wH G hd u3 sa sv) (wD G md ab) (wR G rd tr rt) (wB G be beD kn ct bu bl tu tl bd bm d0 d1 d2 d3 d4 d5)).symm
    have hD : va_D A (wP G ad sd hd md rd be er ++ (wS G sd u4 u5 u6 u7 u8 u9 u10 u11 u12 u13 ++ (wH G hd u3 sa sv ++ (wD G md ab ++ (wR G rd tr rt ++ (wB G be beD kn ct bu bl tu tl bd bm d0 d1 d2 d3 d4 d5)))))) := hD.perm (pm6_0345_21 (wP G ad sd hd md rd be er) (wS G sd u4 u5 u6 u7 u8 u9 u10 u11 u12 u13) (wH G hd u3 sa sv) (wD G md ab) (wR G rd tr rt) (wB G be beD kn ct bu bl tu tl bd bm d0 d1 d2 d3 d4 d5)).symm
    try dsimp only at h
    refine lv_aload_n hx hb dX5_undo_28 rfl (lv_at hl 0 rfl) ?_
    refine kp_v (wr := ([] : va_W)) (va_runV (As := []) (rest := []) ⟨hx, hb, hml, hown, hts⟩ (c_X5_termsChanged l G ad sd hd md rd be beD _ er u4 u5 u6 u7 u8 u9 u10 u11 u12 u13 u3 sa sv ab tr rt kn ct bu bl tu tl bd bm d0 d1 d2 d3 d4 d5  h) (cwV 0 hts gX5_undo_X5_termsChanged rfl rfl rfl (by decide +kernel) ⟨Nat.le_of_ble_eq_true rfl, Nat.le_of_ble_eq_true rfl⟩) (kpVp hK hP hD hZ hS hA (pm_all _) (q0 := 0) (ci := 5) rfl rfl) rfl rfl hl.1 rfl (lv_room (Nat.le_of_ble_eq_true rfl)) dX5_undo_29 ⟨Nat.zero_le _, Nat.zero_le _⟩) hP hD hS hA (pm_all _) (fun w19 H locs h hP hD hS => ?_)
    obtain ⟨u15, u16, u17, u18⟩ := w19
    have hP : va_P G.1 vwCl (wP G ad sd hd md rd be er ++ (wS G sd u4 u5 u6 u7 u8 u9 u10 u11 u12 u13 ++ (wH G hd u3 sa sv ++ (wD G md u15 ++ (wR G rd u16 u17 ++ (wB G be beD u18 ct bu bl tu tl bd bm d0 d1 d2 d3 d4 d5)))))) H := hP.perm (pm_all _).symm
    have hD : va_D A (wP G ad sd hd md rd be er ++ (wS G sd u4 u5 u6 u7 u8 u9 u10 u11 u12 u13 ++ (wH G hd u3 sa sv ++ (wD G md u15 ++ (wR G rd u16 u17 ++ (wB G be beD u18 ct bu bl tu tl bd bm d0 d1 d2 d3 d4 d5)))))) := hD.perm (pm_all _).symm
    try dsimp only at h
    refine lv_aload_n hx hb dX5_undo_32 rfl (lv_at hl 0 rfl) ?_
    refine va_get (D := G.1) (ci := 5) (v := .ref (hd 0)) (C := RX5) (T := TX5) (N := 6) hx hb hts hinX5 hown hK.1 hP.l 0 rfl rfl 1 (by decide) (hts (.fieldLink RX5 19 "PlaFolder" "history" "LPlaFolder$History;") (by decide +kernel)) (fun _ h9 => h9) rfl dX5_undo_33 ?_
    refine va_getN (D := G.1) (ci := 2) (v := .int u3) (C := RX2) (T := TX2) (N := 2) (host := "PlaFolder") hx hb hts hinX2 hown hK.1 hP.r.r.l 0 rfl rfl 1 (by decide) (hK.2.F 8 (q := ("PlaFolder", 182, "PlaFolder$History", "count", "I", "PlaFolder")) rfl) (fun _ h9 => h9) rfl dX5_undo_36 ?_
    exact W.iret hx hb hr (fun t ht hW => ⟨⟨_, (er, u4, u5, u6, u7, u8, u9, u10, u11, u12, u13, u3, u15, u16, u17, u18), rfl, h, by rw [ht]; exact hP, hD⟩, hS.F ht⟩) hS.2.2 dX5_undo_39
  · have h := h.2 c_1
    refine lv_aload_n hx hb dX5_undo_10 rfl (lv_at hl 0 rfl) ?_
    refine lv_bipush (v := (-6 : Int32)) hx hb dX5_undo_11 (by decide) ?_
    refine kp_i (wr := ([] : va_W)) (va_runV (As := [.int (-6 : Int32)]) (rest := []) ⟨hx, hb, hml, hown, hts⟩ (c_X5_fail l G ad sd hd md rd be beD _ er inp otp tc fc on ze ou wd lo up hc sa sv ab tr rt kn ct bu bl tu tl bd bm d0 d1 d2 d3 d4 d5 (-6 : Int32) h) (cwV 1 hts gX5_undo_X5_fail rfl rfl rfl (by decide +kernel) ⟨Nat.le_of_ble_eq_true rfl, Nat.le_of_ble_eq_true rfl⟩) (kpVp hK hP hD hZ hS hA (pm_all _) (q0 := 0) (ci := 5) rfl rfl) rfl rfl hl.1 rfl (lv_room (Nat.le_of_ble_eq_true rfl)) dX5_undo_13 ⟨Nat.zero_le _, Nat.zero_le _⟩) hP hD hS hA (pm_all _) (fun r21 w23 H locs h hP hD hS => ?_)
    obtain ⟨u22, rfl⟩ : ∃ z, z = w23 := ⟨_, rfl⟩
    have hP : va_P G.1 vwCl (wP G ad sd hd md rd be u22 ++ (wS G sd inp otp tc fc on ze ou wd lo up ++ (wH G hd hc sa sv ++ (wD G md ab ++ (wR G rd tr rt ++ (wB G be beD kn ct bu bl tu tl bd bm d0 d1 d2 d3 d4 d5)))))) H := hP.perm (pm_all _).symm
    have hD : va_D A (wP G ad sd hd md rd be u22 ++ (wS G sd inp otp tc fc on ze ou wd lo up ++ (wH G hd hc sa sv ++ (wD G md ab ++ (wR G rd tr rt ++ (wB G be beD kn ct bu bl tu tl bd bm d0 d1 d2 d3 d4 d5)))))) := hD.perm (pm_all _).symm
    try dsimp only at h
    exact W.iret hx hb hr (fun t ht hW => ⟨⟨_, (u22, inp, otp, tc, fc, on, ze, ou, wd, lo, up, hc, ab, tr, rt, kn), rfl, h, by rw [ht]; exact hP, hD⟩, hS.F ht⟩) hS.2.2 dX5_undo_16
def wp_X5_errorCount (a1 : Int32) (er : Nat → Int32) (K : Int32 → (Nat → Int32) → Prop) : Prop :=
 ((a1 < (-6 : Int32) → wp_X5_fail (-2 : Int32) er (fun (r2 : Int32) (u3 : Nat → Int32) => K r2 u3)) ∧
 (¬ (a1 < (-6 : Int32)) → ((a1 ≤ (-2 : Int32) → (vp_in ((-2 : Int32) - a1) 5 ∧ K (er ((-2 : Int32) - a1).toNatClampNeg) er)) ∧
 (¬ (a1 ≤ (-2 : Int32)) → wp_X5_fail (-2 : Int32) er (fun (r7 : Int32) (u8 : Nat → Int32) => K r7 u8)))))
abbrev rm_X5_errorCount : Room := { frames := 1, cells := 0, slots := 0, locals := 21 }
set_option maxHeartbeats 4000000 in
set_option maxRecDepth 100000 in
theorem c_X5_errorCount (l : Launch) (G : GG) (ad : Nat → Nat) (sd : Nat → Nat) (hd : Nat → Nat) (md : Nat → Nat) (rd : Nat → Nat) (be : Nat → Nat) (beD : Nat → Nat → Nat) (sz : Nat) (er : Nat → Int32) (inp : Int32) (otp : Int32) (tc : Int32) (fc : Int32) (on : Nat → Int32) (ze : Nat → Int32) (ou : Nat → Int32) (wd : Nat → Int64) (lo : Nat → Int32) (up : Nat → Int32) (hc : Int32) (sa : Nat → Nat → Nat) (sv : Nat → SS) (ab : Nat → Int32) (tr : Nat → Int32) (rt : Nat → Int32) (kn : Int32) (ct : Int32) (bu : Nat → Int32) (bl : Nat → Int32) (tu : Nat → Int32) (tl : Nat → Int32) (bd : Nat → Int32) (bm : Nat → Int32) (d0 : Nat → Int32) (d1 : Nat → Int32) (d2 : Nat → Int32) (d3 : Nat → Int32) (d4 : Nat → Int32) (d5 : Nat → Int32) (a1 : Int32) {K : Int32 → (Nat → Int32) → Prop} (h : wp_X5_errorCount a1 er K) : CI l yX5_errorCount wsX5_errorCount rm_X5_errorCount G [.ref (ad 0), .int a1] (wP G ad sd hd md rd be er ++ (wS G sd inp otp tc fc on ze ou wd lo up ++ (wH G hd hc sa sv ++ (wD G md ab ++ (wR G rd tr rt ++ (wB G be beD kn ct bu bl tu tl bd bm d0 d1 d2 d3 d4 d5)))))) sz (fun u : (Nat → Int32) => wP G ad sd hd md rd be u ++ (wS G sd inp otp tc fc on ze ou wd lo up ++ (wH G hd hc sa sv ++ (wD G md ab ++ (wR G rd tr rt ++ (wB G be beD kn ct bu bl tu tl bd bm d0 d1 d2 d3 d4 d5)))))) (fun r u => K r u) := by
  refine Met.ofW (cc := cX5_errorCount) (maxL := 2) (ret := (some .int)) (by decide) rfl ?_
  intro p e s m args below meth c s₁ B hml hv
  obtain ⟨rfl, hsz, hP, hK, hD0, hZ⟩ := hv
  have hx := B.exec
  have hb := B.bytes
  have hr := B.returns
  have hts := atoms_spec (ws := wsX5_errorCount) B.pre
  have hown : s.vm.findClass RX5 = some m.cls := findClass_of_methodNamed B.named
  have hlocks := B.notSynchronized
  subst hsz
  have hD := hD0.self (sz := s.heap.size)
  generalize hAe : va_A (wP G ad sd hd md rd be er ++ (wS G sd inp otp tc fc on ze ou wd lo up ++ (wH G hd hc sa sv ++ (wD G md ab ++ (wR G rd tr rt ++ (wB G be beD kn ct bu bl tu tl bd bm d0 d1 d2 d3 d4 d5)))))) s.heap.size = A at hD hZ ⊢
  have hA : ∀ q : Nat, s.heap.size ≤ q → A q := fun q h => by rw [← hAe]; exact Or.inr h
  have hS : va_S A s.heap s.heap [] := va_S.rf
  have hl := lv_entry ([.ref (ad 0), .int a1]) (n := 2) (Nat.le_of_ble_eq_true rfl)
  rw [lg_entry_eq]
  generalize (lg_sl ([.ref (ad 0), .int a1]) ++ List.replicate (2 - (lg_sl ([.ref (ad 0), .int a1])).length) Slot.unset).toArray = ls at hl ⊢
  have hl : lv_has ls 2 [(0, .ref (ad 0)), (1, .int a1)] := hl
  unfold wp_X5_errorCount at h
  have hinX5 : ∀ w ∈ wsX50, w ∈ wsX5_errorCount := by decide +kernel
  refine lv_iload_n hx hb dX5_errorCount_0 rfl (lv_at hl 1 rfl) ?_
  refine lv_bipush (v := (-6 : Int32)) hx hb dX5_errorCount_1 (by decide) ?_
  refine lv_icmp_lt (tgt := 12) hx hb dX5_errorCount_3 (by decide) (fun c_1 => ?_) (fun c_1 => ?_)
  · have h := h.1 c_1
    refine lv_aload_n hx hb dX5_errorCount_12 rfl (lv_at hl 0 rfl) ?_
    refine lv_bipush (v := (-2 : Int32)) hx hb dX5_errorCount_13 (by decide) ?_
    refine kp_i (wr := ([] : va_W)) (va_runV (As := [.int (-2 : Int32)]) (rest := []) ⟨hx, hb, hml, hown, hts⟩ (c_X5_fail l G ad sd hd md rd be beD _ er inp otp tc fc on ze ou wd lo up hc sa sv ab tr rt kn ct bu bl tu tl bd bm d0 d1 d2 d3 d4 d5 (-2 : Int32) h) (cwV 1 hts gX5_errorCount_X5_fail rfl rfl rfl (by decide +kernel) ⟨Nat.le_of_ble_eq_true rfl, Nat.le_of_ble_eq_true rfl⟩) (kpVp hK hP hD hZ hS hA (pm_all _) (q0 := 0) (ci := 5) rfl rfl) rfl rfl hl.1 rfl (lv_room (Nat.le_of_ble_eq_true rfl)) dX5_errorCount_15 ⟨Nat.zero_le _, Nat.zero_le _⟩) hP hD hS hA (pm_all _) (fun r2 w4 H locs h hP hD hS => ?_)
    obtain ⟨u3, rfl⟩ : ∃ z, z = w4 := ⟨_, rfl⟩
    have hP : va_P G.1 vwCl (wP G ad sd hd md rd be u3 ++ (wS G sd inp otp tc fc on ze ou wd lo up ++ (wH G hd hc sa sv ++ (wD G md ab ++ (wR G rd tr rt ++ (wB G be beD kn ct bu bl tu tl bd bm d0 d1 d2 d3 d4 d5)))))) H := hP.perm (pm_all _).symm
    have hD : va_D A (wP G ad sd hd md rd be u3 ++ (wS G sd inp otp tc fc on ze ou wd lo up ++ (wH G hd hc sa sv ++ (wD G md ab ++ (wR G rd tr rt ++ (wB G be beD kn ct bu bl tu tl bd bm d0 d1 d2 d3 d4 d5)))))) := hD.perm (pm_all _).symm
    try dsimp only at h
    exact W.iret hx hb hr (fun t ht hW => ⟨⟨_, u3, rfl, h, by rw [ht]; exact hP, hD⟩, hS.F ht⟩) hS.2.2 dX5_errorCount_18
  · have h := h.2 c_1
    refine lv_iload_n hx hb dX5_errorCount_6 rfl (lv_at hl 1 rfl) ?_
    refine lv_bipush (v := (-2 : Int32)) hx hb dX5_errorCount_7 (by decide) ?_
    refine lv_icmp_le (tgt := 19) hx hb dX5_errorCount_9 (by decide) (fun c_5 => ?_) (fun c_5 => ?_)
    · have h := h.1 c_5
      refine lv_aload_n hx hb dX5_errorCount_19 rfl (lv_at hl 0 rfl) ?_
      refine va_get (D := G.1) (ci := 5) (v := .ref (ad 1)) (C := RX5) (T := TX5) (N := 6) hx hb hts hinX5 hown hK.1 hP.l 0 rfl rfl 5 (by decide) (hts (.fieldLink RX5 44 "PlaFolder" "errors" "[I") (by decide +kernel)) (fun _ h9 => h9) rfl dX5_errorCount_20 ?_
      refine lv_bipush (v := (-2 : Int32)) hx hb dX5_errorCount_23 (by decide) ?_
      refine lv_iload_n hx hb dX5_errorCount_25 rfl (lv_at hl 1 rfl) ?_
      refine lv_isub hx hb dX5_errorCount_26 ?_
      obtain ⟨hi6, h⟩ := h
      refine x_iald hx hb hK hP.l 1 rfl hi6 rfl dX5_errorCount_27 ?_
      exact W.iret hx hb hr (fun t ht hW => ⟨⟨_, er, rfl, h, by rw [ht]; exact hP, hD⟩, hS.F ht⟩) hS.2.2 dX5_errorCount_28
    · have h := h.2 c_5
      refine lv_aload_n hx hb dX5_errorCount_12 rfl (lv_at hl 0 rfl) ?_
      refine lv_bipush (v := (-2 : Int32)) hx hb dX5_errorCount_13 (by decide) ?_
      refine kp_i (wr := ([] : va_W)) (va_runV (As := [.int (-2 : Int32)]) (rest := []) ⟨hx, hb, hml, hown, hts⟩ (c_X5_fail l G ad sd hd md rd be beD _ er inp otp tc fc on ze ou wd lo up hc sa sv ab tr rt kn ct bu bl tu tl bd bm d0 d1 d2 d3 d4 d5 (-2 : Int32) h) (cwV 1 hts gX5_errorCount_X5_fail rfl rfl rfl (by decide +kernel) ⟨Nat.le_of_ble_eq_true rfl, Nat.le_of_ble_eq_true rfl⟩) (kpVp hK hP hD hZ hS hA (pm_all _) (q0 := 0) (ci := 5) rfl rfl) rfl rfl hl.1 rfl (lv_room (Nat.le_of_ble_eq_true rfl)) dX5_errorCount_15 ⟨Nat.zero_le _, Nat.zero_le _⟩) hP hD hS hA (pm_all _) (fun r7 w9 H locs h hP hD hS => ?_)
      obtain ⟨u8, rfl⟩ : ∃ z, z = w9 := ⟨_, rfl⟩
      have hP : va_P G.1 vwCl (wP G ad sd hd md rd be u8 ++ (wS G sd inp otp tc fc on ze ou wd lo up ++ (wH G hd hc sa sv ++ (wD G md ab ++ (wR G rd tr rt ++ (wB G be beD kn ct bu bl tu tl bd bm d0 d1 d2 d3 d4 d5)))))) H := hP.perm (pm_all _).symm
      have hD : va_D A (wP G ad sd hd md rd be u8 ++ (wS G sd inp otp tc fc on ze ou wd lo up ++ (wH G hd hc sa sv ++ (wD G md ab ++ (wR G rd tr rt ++ (wB G be beD kn ct bu bl tu tl bd bm d0 d1 d2 d3 d4 d5)))))) := hD.perm (pm_all _).symm
      try dsimp only at h
      exact W.iret hx hb hr (fun t ht hW => ⟨⟨_, u8, rfl, h, by rw [ht]; exact hP, hD⟩, hS.F ht⟩) hS.2.2 dX5_errorCount_18
def wp_X5_mixTerms (a1 : Int64) (otp : Int32) (tc : Int32) (on : Nat → Int32) (ze : Nat → Int32) (ou : Nat → Int32) (wd : Nat → Int64) (rt : Nat → Int32) (K : Int64 → Prop) : Prop :=
 (Lp2 a1 (0 : Int32) (fun (x1 : Int64) (x2 : Int32) (J6 : Int64 → Int32 → Prop) => ((tc ≤ x2 → K x1) ∧
 (¬ (tc ≤ x2) → (vp_in x2 10 ∧ wp_X5_mix x1 ((on x2.toNatClampNeg).toInt64) (fun (r11 : Int64) => (vp_in x2 10 ∧ wp_X5_mix r11 ((ze x2.toNatClampNeg).toInt64) (fun (r13 : Int64) => (vp_in x2 10 ∧ wp_X5_mix r13 ((ou x2.toNatClampNeg).toInt64) (fun (r15 : Int64) => wp_X4_isSpare x2 otp tc ou wd (fun (r16 : Int32) => wp_X5_flag r16 (fun (r17 : Int32) => wp_X5_mix r15 r17.toInt64 (fun (r18 : Int64) => (vp_in x2 10 ∧ wp_X5_mix r18 ((rt x2.toNatClampNeg).toInt64) (fun (r20 : Int64) => J6 r20 (x2 + (1 : Int32)))))))))))))))))
abbrev rm_X5_mixTerms : Room := { frames := 3, cells := 0, slots := 0, locals := 68 }
set_option maxHeartbeats 4000000 in
set_option maxRecDepth 100000 in
theorem c_X5_mixTerms (l : Launch) (G : GG) (ad : Nat → Nat) (sd : Nat → Nat) (hd : Nat → Nat) (md : Nat → Nat) (rd : Nat → Nat) (be : Nat → Nat) (beD : Nat → Nat → Nat) (sz : Nat) (er : Nat → Int32) (inp : Int32) (otp : Int32) (tc : Int32) (fc : Int32) (on : Nat → Int32) (ze : Nat → Int32) (ou : Nat → Int32) (wd : Nat → Int64) (lo : Nat → Int32) (up : Nat → Int32) (hc : Int32) (sa : Nat → Nat → Nat) (sv : Nat → SS) (ab : Nat → Int32) (tr : Nat → Int32) (rt : Nat → Int32) (kn : Int32) (ct : Int32) (bu : Nat → Int32) (bl : Nat → Int32) (tu : Nat → Int32) (tl : Nat → Int32) (bd : Nat → Int32) (bm : Nat → Int32) (d0 : Nat → Int32) (d1 : Nat → Int32) (d2 : Nat → Int32) (d3 : Nat → Int32) (d4 : Nat → Int32) (d5 : Nat → Int32) (a1 : Int64) {K : Int64 → Prop} (h : wp_X5_mixTerms a1 otp tc on ze ou wd rt K) : CL l yX5_mixTerms wsX5_mixTerms rm_X5_mixTerms G [.ref (ad 0), .long a1] (wP G ad sd hd md rd be er ++ (wS G sd inp otp tc fc on ze ou wd lo up ++ (wH G hd hc sa sv ++ (wD G md ab ++ (wR G rd tr rt ++ (wB G be beD kn ct bu bl tu tl bd bm d0 d1 d2 d3 d4 d5)))))) sz (fun u : Unit => wP G ad sd hd md rd be er ++ (wS G sd inp otp tc fc on ze ou wd lo up ++ (wH G hd hc sa sv ++ (wD G md ab ++ (wR G rd tr rt ++ (wB G be beD kn ct bu bl tu tl bd bm d0 d1 d2 d3 d4 d5)))))) (fun r u => K r ) := by
  refine Met.ofW (cc := cX5_mixTerms) (maxL := 6) (ret := (some .long)) (by decide) rfl ?_
  intro p e s m args below meth c s₁ B hml hv
  obtain ⟨rfl, hsz, hP, hK, hD0, hZ⟩ := hv
  have hx := B.exec
  have hb := B.bytes
  have hr := B.returns
  have hts := atoms_spec (ws := wsX5_mixTerms) B.pre
  have hown : s.vm.findClass RX5 = some m.cls := findClass_of_methodNamed B.named
  have hlocks := B.notSynchronized
  subst hsz
  have hD := hD0.self (sz := s.heap.size)
  generalize hAe : va_A (wP G ad sd hd md rd be er ++ (wS G sd inp otp tc fc on ze ou wd lo up ++ (wH G hd hc sa sv ++ (wD G md ab ++ (wR G rd tr rt ++ (wB G be beD kn ct bu bl tu tl bd bm d0 d1 d2 d3 d4 d5)))))) s.heap.size = A at hD hZ ⊢
  have hA : ∀ q : Nat, s.heap.size ≤ q → A q := fun q h => by rw [← hAe]; exact Or.inr h
  have hS : va_S A s.heap s.heap [] := va_S.rf
  have hl := lv_entry ([.ref (ad 0), .long a1]) (n := 6) (Nat.le_of_ble_eq_true rfl)
  rw [lg_entry_eq]
  generalize (lg_sl ([.ref (ad 0), .long a1]) ++ List.replicate (6 - (lg_sl ([.ref (ad 0), .long a1])).length) Slot.unset).toArray = ls at hl ⊢
  have hl : lv_has ls 6 [(0, .ref (ad 0)), (1, .long a1)] := hl
  unfold wp_X5_mixTerms at h
  have hinX3 : ∀ w ∈ wsX30, w ∈ wsX5_mixTerms := by decide +kernel
  have hinX4 : ∀ w ∈ wsX40, w ∈ wsX5_mixTerms := by decide +kernel
  have hinX5 : ∀ w ∈ wsX50, w ∈ wsX5_mixTerms := by decide +kernel
  refine lv_lload_n hx hb dX5_mixTerms_0 rfl (lv_at hl 1 rfl) ?_
  refine lv_lstore_n (lv' := [(3, .long a1), (0, .ref (ad 0)), (1, .long a1)]) hx hb dX5_mixTerms_1 rfl hl (by decide) rfl (fun ls hl => ?_)
  refine lv_iconst (v := (0 : Int32)) hx hb dX5_mixTerms_2 (by decide) ?_
  refine lv_istore (lv' := [(5, .int (0 : Int32)), (3, .long a1), (0, .ref (ad 0)), (1, .long a1)]) hx hb dX5_mixTerms_3 hl (by decide) rfl (fun ls hl => ?_)
  obtain ⟨I3, n4, h0, hst5⟩ := h
  refine loopW (σ := Int64 × Int32) (P := fun q H locs ls => va_P G.1 vwCl (wP G ad sd hd md rd be er ++ (wS G sd inp otp tc fc on ze ou wd lo up ++ (wH G hd hc sa sv ++ (wD G md ab ++ (wR G rd tr rt ++ (wB G be beD kn ct bu bl tu tl bd bm d0 d1 d2 d3 d4 d5)))))) H ∧ va_D A (wP G ad sd hd md rd be er ++ (wS G sd inp otp tc fc on ze ou wd lo up ++ (wH G hd hc sa sv ++ (wD G md ab ++ (wR G rd tr rt ++ (wB G be beD kn ct bu bl tu tl bd bm d0 d1 d2 d3 d4 d5)))))) ∧ va_S A s.heap H locs ∧ lv_has ls 6 [(0, .ref (ad 0)), (3, .long q.1), (5, .int q.2)]) (I := fun n q => I3 n q.1 q.2) n4 (a1, (0 : Int32)) h0 _ _ _ ⟨hP, hD, hS, lv_sub hl [2, 1, 0] rfl⟩ ?_
  rintro n8 ⟨x1, x2⟩ hI ih7 H locs ls ⟨hP, hD, hS, hl⟩
  have hP : va_P G.1 vwCl (wP G ad sd hd md rd be er ++ (wS G sd inp otp tc fc on ze ou wd lo up ++ (wH G hd hc sa sv ++ (wD G md ab ++ (wR G rd tr rt ++ (wB G be beD kn ct bu bl tu tl bd bm d0 d1 d2 d3 d4 d5)))))) H := hP
  have hD : va_D A (wP G ad sd hd md rd be er ++ (wS G sd inp otp tc fc on ze ou wd lo up ++ (wH G hd hc sa sv ++ (wD G md ab ++ (wR G rd tr rt ++ (wB G be beD kn ct bu bl tu tl bd bm d0 d1 d2 d3 d4 d5)))))) := hD
  have hl : lv_has ls 6 [(0, .ref (ad 0)), (3, .long x1), (5, .int x2)] := hl
  have h := hst5 n8 x1 x2 hI
  refine lv_iload hx hb dX5_mixTerms_5 (lv_at hl 2 rfl) ?_
  refine lv_aload_n hx hb dX5_mixTerms_7 rfl (lv_at hl 0 rfl) ?_
  refine va_get (D := G.1) (ci := 5) (v := .ref (sd 0)) (C := RX5) (T := TX5) (N := 6) hx hb hts hinX5 hown hK.1 hP.l 0 rfl rfl 0 (by decide) (hts (.fieldLink RX5 12 "PlaFolder" "state" "LPlaFolder$State;") (by decide +kernel)) (fun _ h9 => h9) rfl dX5_mixTerms_8 ?_
  refine va_getN (D := G.1) (ci := 4) (v := .int tc) (C := RX4) (T := TX4) (N := 10) (host := "PlaFolder") hx hb hts hinX4 hown hK.1 hP.r.l 0 rfl rfl 2 (by decide) (hK.2.F 2 (q := ("PlaFolder", 56, "PlaFolder$State", "termCount", "I", "PlaFolder")) rfl) (fun _ h9 => h9) rfl dX5_mixTerms_11 ?_
  refine lv_icmp_ge (tgt := 105) hx hb dX5_mixTerms_14 (by decide) (fun c_9 => ?_) (fun c_9 => ?_)
  · have h := h.1 c_9
    refine lv_lload_n hx hb dX5_mixTerms_105 rfl (lv_at hl 1 rfl) ?_
    exact W.lret hx hb hr (fun t ht hW => ⟨⟨_, (), rfl, h, by rw [ht]; exact hP, hD⟩, hS.F ht⟩) hS.2.2 dX5_mixTerms_106
  · have h := h.2 c_9
    refine lv_lload_n hx hb dX5_mixTerms_17 rfl (lv_at hl 1 rfl) ?_
    refine lv_aload_n hx hb dX5_mixTerms_18 rfl (lv_at hl 0 rfl) ?_
    refine va_get (D := G.1) (ci := 5) (v := .ref (sd 0)) (C := RX5) (T := TX5) (N := 6) hx hb hts hinX5 hown hK.1 hP.l 0 rfl rfl 0 (by decide) (hts (.fieldLink RX5 12 "PlaFolder" "state" "LPlaFolder$State;") (by decide +kernel)) (fun _ h9 => h9) rfl dX5_mixTerms_19 ?_
    refine va_getN (D := G.1) (ci := 4) (v := .ref (sd 1)) (C := RX4) (T := TX4) (N := 10) (host := "PlaFolder") hx hb hts hinX4 hown hK.1 hP.r.l 0 rfl rfl 4 (by decide) (hK.2.F 4 (q := ("PlaFolder", 83, "PlaFolder$State", "ones", "[I", "PlaFolder")) rfl) (fun _ h9 => h9) rfl dX5_mixTerms_22 ?_
    refine lv_iload hx hb dX5_mixTerms_25 (lv_at hl 2 rfl) ?_
    obtain ⟨hi10, h⟩ := h
    refine x_iald hx hb hK hP.r.l 1 rfl hi10 rfl dX5_mixTerms_27 ?_
    refine lv_i2l (v := (on x2.toNatClampNeg).toInt64) hx hb dX5_mixTerms_28 rfl ?_
    refine kp_l (wr := wP G ad sd hd md rd be er ++ (wS G sd inp otp tc fc on ze ou wd lo up ++ (wH G hd hc sa sv ++ (wD G md ab ++ (wR G rd tr rt ++ (wB G be beD kn ct bu bl tu tl bd bm d0 d1 d2 d3 d4 d5)))))) (va_runS (As := [.long x1, .long ((on x2.toNatClampNeg).toInt64)]) (rest := []) ⟨hx, hb, hml, hown, hts⟩ (c_X5_mix l G  _  x1 ((on x2.toNatClampNeg).toInt64) h) (va_cwS 2 hts gX5_mixTerms_X5_mix rfl rfl rfl (by decide +kernel) ⟨Nat.le_of_ble_eq_true rfl, Nat.le_of_ble_eq_true rfl⟩) (kpSp hK hP hD hZ hS hA (pm_nil _)) rfl rfl hl.1 rfl (lv_room (Nat.le_of_ble_eq_true rfl)) dX5_mixTerms_29 ⟨Nat.zero_le _, Nat.zero_le _⟩) hP hD hS hA (pm_nil _) (fun r11 w30 H locs h hP hD hS => ?_)
    have hP : va_P G.1 vwCl (wP G ad sd hd md rd be er ++ (wS G sd inp otp tc fc on ze ou wd lo up ++ (wH G hd hc sa sv ++ (wD G md ab ++ (wR G rd tr rt ++ (wB G be beD kn ct bu bl tu tl bd bm d0 d1 d2 d3 d4 d5)))))) H := hP.perm (pm_nil _).symm
    have hD : va_D A (wP G ad sd hd md rd be er ++ (wS G sd inp otp tc fc on ze ou wd lo up ++ (wH G hd hc sa sv ++ (wD G md ab ++ (wR G rd tr rt ++ (wB G be beD kn ct bu bl tu tl bd bm d0 d1 d2 d3 d4 d5)))))) := hD.perm (pm_nil _).symm
    try dsimp only at h
    refine lv_lstore_n (lv' := [(3, .long r11), (0, .ref (ad 0)), (5, .int x2)]) hx hb dX5_mixTerms_32 rfl hl (by decide) rfl (fun ls hl => ?_)
    refine lv_lload_n hx hb dX5_mixTerms_33 rfl (lv_at hl 0 rfl) ?_
    refine lv_aload_n hx hb dX5_mixTerms_34 rfl (lv_at hl 1 rfl) ?_
    refine va_get (D := G.1) (ci := 5) (v := .ref (sd 0)) (C := RX5) (T := TX5) (N := 6) hx hb hts hinX5 hown hK.1 hP.l 0 rfl rfl 0 (by decide) (hts (.fieldLink RX5 12 "PlaFolder" "state" "LPlaFolder$State;") (by decide +kernel)) (fun _ h9 => h9) rfl dX5_mixTerms_35 ?_
    refine va_getN (D := G.1) (ci := 4) (v := .ref (sd 2)) (C := RX4) (T := TX4) (N := 10) (host := "PlaFolder") hx hb hts hinX4 hown hK.1 hP.r.l 0 rfl rfl 5 (by decide) (hK.2.F 5 (q := ("PlaFolder", 86, "PlaFolder$State", "zeros", "[I", "PlaFolder")) rfl) (fun _ h9 => h9) rfl dX5_mixTerms_38 ?_
    refine lv_iload hx hb dX5_mixTerms_41 (lv_at hl 2 rfl) ?_
    obtain ⟨hi12, h⟩ := h
    refine x_iald hx hb hK hP.r.l 2 rfl hi12 rfl dX5_mixTerms_43 ?_
    refine lv_i2l (v := (ze x2.toNatClampNeg).toInt64) hx hb dX5_mixTerms_44 rfl ?_
    refine kp_l (wr := wP G ad sd hd md rd be er ++ (wS G sd inp otp tc fc on ze ou wd lo up ++ (wH G hd hc sa sv ++ (wD G md ab ++ (wR G rd tr rt ++ (wB G be beD kn ct bu bl tu tl bd bm d0 d1 d2 d3 d4 d5)))))) (va_runS (As := [.long r11, .long ((ze x2.toNatClampNeg).toInt64)]) (rest := []) ⟨hx, hb, hml, hown, hts⟩ (c_X5_mix l G  _  r11 ((ze x2.toNatClampNeg).toInt64) h) (va_cwS 2 hts gX5_mixTerms_X5_mix rfl rfl rfl (by decide +kernel) ⟨Nat.le_of_ble_eq_true rfl, Nat.le_of_ble_eq_true rfl⟩) (kpSp hK hP hD hZ hS hA (pm_nil _)) rfl rfl hl.1 rfl (lv_room (Nat.le_of_ble_eq_true rfl)) dX5_mixTerms_45 ⟨Nat.zero_le _, Nat.zero_le _⟩) hP hD hS hA (pm_nil _) (fun r13 w29 H locs h hP hD hS => ?_)
    have hP : va_P G.1 vwCl (wP G ad sd hd md rd be er ++ (wS G sd inp otp tc fc on ze ou wd lo up ++ (wH G hd hc sa sv ++ (wD G md ab ++ (wR G rd tr rt ++ (wB G be beD kn ct bu bl tu tl bd bm d0 d1 d2 d3 d4 d5)))))) H := hP.perm (pm_nil _).symm
    have hD : va_D A (wP G ad sd hd md rd be er ++ (wS G sd inp otp tc fc on ze ou wd lo up ++ (wH G hd hc sa sv ++ (wD G md ab ++ (wR G rd tr rt ++ (wB G be beD kn ct bu bl tu tl bd bm d0 d1 d2 d3 d4 d5)))))) := hD.perm (pm_nil _).symm
    try dsimp only at h
    refine lv_lstore_n (lv' := [(3, .long r13), (0, .ref (ad 0)), (5, .int x2)]) hx hb dX5_mixTerms_48 rfl hl (by decide) rfl (fun ls hl => ?_)
    refine lv_lload_n hx hb dX5_mixTerms_49 rfl (lv_at hl 0 rfl) ?_
    refine lv_aload_n hx hb dX5_mixTerms_50 rfl (lv_at hl 1 rfl) ?_
    refine va_get (D := G.1) (ci := 5) (v := .ref (sd 0)) (C := RX5) (T := TX5) (N := 6) hx hb hts hinX5 hown hK.1 hP.l 0 rfl rfl 0 (by decide) (hts (.fieldLink RX5 12 "PlaFolder" "state" "LPlaFolder$State;") (by decide +kernel)) (fun _ h9 => h9) rfl dX5_mixTerms_51 ?_
    refine va_getN (D := G.1) (ci := 4) (v := .ref (sd 3)) (C := RX4) (T := TX4) (N := 10) (host := "PlaFolder") hx hb hts hinX4 hown hK.1 hP.r.l 0 rfl rfl 6 (by decide) (hK.2.F 6 (q := ("PlaFolder", 202, "PlaFolder$State", "outs", "[I", "PlaFolder")) rfl) (fun _ h9 => h9) rfl dX5_mixTerms_54 ?_
    refine lv_iload hx hb dX5_mixTerms_57 (lv_at hl 2 rfl) ?_
    obtain ⟨hi14, h⟩ := h
    refine x_iald hx hb hK hP.r.l 3 rfl hi14 rfl dX5_mixTerms_59 ?_
    refine lv_i2l (v := (ou x2.toNatClampNeg).toInt64) hx hb dX5_mixTerms_60 rfl ?_
    refine kp_l (wr := wP G ad sd hd md rd be er ++ (wS G sd inp otp tc fc on ze ou wd lo up ++ (wH G hd hc sa sv ++ (wD G md ab ++ (wR G rd tr rt ++ (wB G be beD kn ct bu bl tu tl bd bm d0 d1 d2 d3 d4 d5)))))) (va_runS (As := [.long r13, .long ((ou x2.toNatClampNeg).toInt64)]) (rest := []) ⟨hx, hb, hml, hown, hts⟩ (c_X5_mix l G  _  r13 ((ou x2.toNatClampNeg).toInt64) h) (va_cwS 2 hts gX5_mixTerms_X5_mix rfl rfl rfl (by decide +kernel) ⟨Nat.le_of_ble_eq_true rfl, Nat.le_of_ble_eq_true rfl⟩) (kpSp hK hP hD hZ hS hA (pm_nil _)) rfl rfl hl.1 rfl (lv_room (Nat.le_of_ble_eq_true rfl)) dX5_mixTerms_61 ⟨Nat.zero_le _, Nat.zero_le _⟩) hP hD hS hA (pm_nil _) (fun r15 w28 H locs h hP hD hS => ?_)
    have hP : va_P G.1 vwCl (wP G ad sd hd md rd be er ++ (wS G sd inp otp tc fc on ze ou wd lo up ++ (wH G hd hc sa sv ++ (wD G md ab ++ (wR G rd tr rt ++ (wB G be beD kn ct bu bl tu tl bd bm d0 d1 d2 d3 d4 d5)))))) H := hP.perm (pm_nil _).symm
    have hD : va_D A (wP G ad sd hd md rd be er ++ (wS G sd inp otp tc fc on ze ou wd lo up ++ (wH G hd hc sa sv ++ (wD G md ab ++ (wR G rd tr rt ++ (wB G be beD kn ct bu bl tu tl bd bm d0 d1 d2 d3 d4 d5)))))) := hD.perm (pm_nil _).symm
    try dsimp only at h
    refine lv_lstore_n (lv' := [(3, .long r15), (0, .ref (ad 0)), (5, .int x2)]) hx hb dX5_mixTerms_64 rfl hl (by decide) rfl (fun ls hl => ?_)
    refine lv_lload_n hx hb dX5_mixTerms_65 rfl (lv_at hl 0 rfl) ?_
    refine lv_aload_n hx hb dX5_mixTerms_66 rfl (lv_at hl 1 rfl) ?_
    refine va_get (D := G.1) (ci := 5) (v := .ref (sd 0)) (C := RX5) (T := TX5) (N := 6) hx hb hts hinX5 hown hK.1 hP.l 0 rfl rfl 0 (by decide) (hts (.fieldLink RX5 12 "PlaFolder" "state" "LPlaFolder$State;") (by decide +kernel)) (fun _ h9 => h9) rfl dX5_mixTerms_67 ?_
    refine lv_iload hx hb dX5_mixTerms_70 (lv_at hl 2 rfl) ?_
    refine kp_i (wr := wP G ad sd hd md rd be er ++ (wH G hd hc sa sv ++ (wD G md ab ++ (wR G rd tr rt ++ (wB G be beD kn ct bu bl tu tl bd bm d0 d1 d2 d3 d4 d5))))) (va_runVN (As := [.int x2]) (rest := [.long r15]) ⟨hx, hb, hml, hown, hts⟩ (c_X4_isSpare l G sd _ inp otp tc fc on ze ou wd lo up x2 h) ⟨va_cnB 1 hts gX5_mixTerms_X4_isSpare_n112 rfl rfl rfl (hK.2.M 22 (q := ("PlaFolder", 112, ⟨"PlaFolder$State", "isSpare", "(I)Z"⟩, "PlaFolder")) rfl) (hts (.initialized RX4) (by decide +kernel)) (by decide +kernel) ⟨Nat.le_of_ble_eq_true rfl, Nat.le_of_ble_eq_true rfl⟩, hts (.instanceMethod yX4_isSpare) (by decide +kernel), hts (.selects RX4 yX4_isSpare yX4_isSpare) (by decide +kernel)⟩ (kpVp hK hP hD hZ hS hA (pm6_02345_1 (wP G ad sd hd md rd be er) (wS G sd inp otp tc fc on ze ou wd lo up) (wH G hd hc sa sv) (wD G md ab) (wR G rd tr rt) (wB G be beD kn ct bu bl tu tl bd bm d0 d1 d2 d3 d4 d5)) (q0 := 0) (ci := 4) rfl rfl) rfl rfl hl.1 rfl (lv_room (Nat.le_of_ble_eq_true rfl)) dX5_mixTerms_72 ⟨Nat.zero_le _, Nat.zero_le _⟩) hP hD hS hA (pm6_02345_1 (wP G ad sd hd md rd be er) (wS G sd inp otp tc fc on ze ou wd lo up) (wH G hd hc sa sv) (wD G md ab) (wR G rd tr rt) (wB G be beD kn ct bu bl tu tl bd bm d0 d1 d2 d3 d4 d5)) (fun r16 w27 H locs h hP hD hS => ?_)
    have hP : va_P G.1 vwCl (wP G ad sd hd md rd be er ++ (wS G sd inp otp tc fc on ze ou wd lo up ++ (wH G hd hc sa sv ++ (wD G md ab ++ (wR G rd tr rt ++ (wB G be beD kn ct bu bl tu tl bd bm d0 d1 d2 d3 d4 d5)))))) H := hP.perm (pm6_02345_1 (wP G ad sd hd md rd be er) (wS G sd inp otp tc fc on ze ou wd lo up) (wH G hd hc sa sv) (wD G md ab) (wR G rd tr rt) (wB G be beD kn ct bu bl tu tl bd bm d0 d1 d2 d3 d4 d5)).symm
    have hD : va_D A (wP G ad sd hd md rd be er ++ (wS G sd inp otp tc fc on ze ou wd lo up ++ (wH G hd hc sa sv ++ (wD G md ab ++ (wR G rd tr rt ++ (wB G be beD kn ct bu bl tu tl bd bm d0 d1 d2 d3 d4 d5)))))) := hD.perm (pm6_02345_1 (wP G ad sd hd md rd be er) (wS G sd inp otp tc fc on ze ou wd lo up) (wH G hd hc sa sv) (wD G md ab) (wR G rd tr rt) (wB G be beD kn ct bu bl tu tl bd bm d0 d1 d2 d3 d4 d5)).symm
    try dsimp only at h
    refine kp_i (wr := wP G ad sd hd md rd be er ++ (wS G sd inp otp tc fc on ze ou wd lo up ++ (wH G hd hc sa sv ++ (wD G md ab ++ (wR G rd tr rt ++ (wB G be beD kn ct bu bl tu tl bd bm d0 d1 d2 d3 d4 d5)))))) (va_runS (As := [.int r16]) (rest := [.long r15]) ⟨hx, hb, hml, hown, hts⟩ (c_X5_flag l G  _  r16 h) (va_cwS 1 hts gX5_mixTerms_X5_flag rfl rfl rfl (by decide +kernel) ⟨Nat.le_of_ble_eq_true rfl, Nat.le_of_ble_eq_true rfl⟩) (kpSp hK hP hD hZ hS hA (pm_nil _)) rfl rfl hl.1 rfl (lv_room (Nat.le_of_ble_eq_true rfl)) dX5_mixTerms_75 ⟨Nat.zero_le _, Nat.zero_le _⟩) hP hD hS hA (pm_nil _) (fun r17 w26 H locs h hP hD hS => ?_)
    have hP : va_P G.1 vwCl (wP G ad sd hd md rd be er ++ (wS G sd inp otp tc fc on ze ou wd lo up ++ (wH G hd hc sa sv ++ (wD G md ab ++ (wR G rd tr rt ++ (wB G be beD kn ct bu bl tu tl bd bm d0 d1 d2 d3 d4 d5)))))) H := hP.perm (pm_nil _).symm
    have hD : va_D A (wP G ad sd hd md rd be er ++ (wS G sd inp otp tc fc on ze ou wd lo up ++ (wH G hd hc sa sv ++ (wD G md ab ++ (wR G rd tr rt ++ (wB G be beD kn ct bu bl tu tl bd bm d0 d1 d2 d3 d4 d5)))))) := hD.perm (pm_nil _).symm
    try dsimp only at h
    refine lv_i2l (v := r17.toInt64) hx hb dX5_mixTerms_78 rfl ?_
    refine kp_l (wr := wP G ad sd hd md rd be er ++ (wS G sd inp otp tc fc on ze ou wd lo up ++ (wH G hd hc sa sv ++ (wD G md ab ++ (wR G rd tr rt ++ (wB G be beD kn ct bu bl tu tl bd bm d0 d1 d2 d3 d4 d5)))))) (va_runS (As := [.long r15, .long r17.toInt64]) (rest := []) ⟨hx, hb, hml, hown, hts⟩ (c_X5_mix l G  _  r15 r17.toInt64 h) (va_cwS 2 hts gX5_mixTerms_X5_mix rfl rfl rfl (by decide +kernel) ⟨Nat.le_of_ble_eq_true rfl, Nat.le_of_ble_eq_true rfl⟩) (kpSp hK hP hD hZ hS hA (pm_nil _)) rfl rfl hl.1 rfl (lv_room (Nat.le_of_ble_eq_true rfl)) dX5_mixTerms_79 ⟨Nat.zero_le _, Nat.zero_le _⟩) hP hD hS hA (pm_nil _) (fun r18 w25 H locs h hP hD hS => ?_)
    have hP : va_P G.1 vwCl (wP G ad sd hd md rd be er ++ (wS G sd inp otp tc fc on ze ou wd lo up ++ (wH G hd hc sa sv ++ (wD G md ab ++ (wR G rd tr rt ++ (wB G be beD kn ct bu bl tu tl bd bm d0 d1 d2 d3 d4 d5)))))) H := hP.perm (pm_nil _).symm
    have hD : va_D A (wP G ad sd hd md rd be er ++ (wS G sd inp otp tc fc on ze ou wd lo up ++ (wH G hd hc sa sv ++ (wD G md ab ++ (wR G rd tr rt ++ (wB G be beD kn ct bu bl tu tl bd bm d0 d1 d2 d3 d4 d5)))))) := hD.perm (pm_nil _).symm
    try dsimp only at h
    refine lv_lstore_n (lv' := [(3, .long r18), (0, .ref (ad 0)), (5, .int x2)]) hx hb dX5_mixTerms_82 rfl hl (by decide) rfl (fun ls hl => ?_)
    refine lv_lload_n hx hb dX5_mixTerms_83 rfl (lv_at hl 0 rfl) ?_
    refine lv_aload_n hx hb dX5_mixTerms_84 rfl (lv_at hl 1 rfl) ?_
    refine va_get (D := G.1) (ci := 5) (v := .ref (rd 0)) (C := RX5) (T := TX5) (N := 6) hx hb hts hinX5 hown hK.1 hP.l 0 rfl rfl 3 (by decide) (hts (.fieldLink RX5 33 "PlaFolder" "rows" "LPlaFolder$RowOrder;") (by decide +kernel)) (fun _ h9 => h9) rfl dX5_mixTerms_85 ?_
    refine va_getN (D := G.1) (ci := 3) (v := .ref (rd 2)) (C := RX3) (T := TX3) (N := 2) (host := "PlaFolder") hx hb hts hinX3 hown hK.1 hP.r.r.r.r.l 0 rfl rfl 1 (by decide) (hK.2.F 12 (q := ("PlaFolder", 150, "PlaFolder$RowOrder", "rowOfTerm", "[I", "PlaFolder")) rfl) (fun _ h9 => h9) rfl dX5_mixTerms_88 ?_
    refine lv_iload hx hb dX5_mixTerms_91 (lv_at hl 2 rfl) ?_
    obtain ⟨hi19, h⟩ := h
    refine x_iald hx hb hK hP.r.r.r.r.l 2 rfl hi19 rfl dX5_mixTerms_93 ?_
    refine lv_i2l (v := (rt x2.toNatClampNeg).toInt64) hx hb dX5_mixTerms_94 rfl ?_
    refine kp_l (wr := wP G ad sd hd md rd be er ++ (wS G sd inp otp tc fc on ze ou wd lo up ++ (wH G hd hc sa sv ++ (wD G md ab ++ (wR G rd tr rt ++ (wB G be beD kn ct bu bl tu tl bd bm d0 d1 d2 d3 d4 d5)))))) (va_runS (As := [.long r18, .long ((rt x2.toNatClampNeg).toInt64)]) (rest := []) ⟨hx, hb, hml, hown, hts⟩ (c_X5_mix l G  _  r18 ((rt x2.toNatClampNeg).toInt64) h) (va_cwS 2 hts gX5_mixTerms_X5_mix rfl rfl rfl (by decide +kernel) ⟨Nat.le_of_ble_eq_true rfl, Nat.le_of_ble_eq_true rfl⟩) (kpSp hK hP hD hZ hS hA (pm_nil _)) rfl rfl hl.1 rfl (lv_room (Nat.le_of_ble_eq_true rfl)) dX5_mixTerms_95 ⟨Nat.zero_le _, Nat.zero_le _⟩) hP hD hS hA (pm_nil _) (fun r20 w24 H locs h hP hD hS => ?_)
    have hP : va_P G.1 vwCl (wP G ad sd hd md rd be er ++ (wS G sd inp otp tc fc on ze ou wd lo up ++ (wH G hd hc sa sv ++ (wD G md ab ++ (wR G rd tr rt ++ (wB G be beD kn ct bu bl tu tl bd bm d0 d1 d2 d3 d4 d5)))))) H := hP.perm (pm_nil _).symm
    have hD : va_D A (wP G ad sd hd md rd be er ++ (wS G sd inp otp tc fc on ze ou wd lo up ++ (wH G hd hc sa sv ++ (wD G md ab ++ (wR G rd tr rt ++ (wB G be beD kn ct bu bl tu tl bd bm d0 d1 d2 d3 d4 d5)))))) := hD.perm (pm_nil _).symm
    try dsimp only at h
    refine lv_lstore_n (lv' := [(3, .long r20), (0, .ref (ad 0)), (5, .int x2)]) hx hb dX5_mixTerms_98 rfl hl (by decide) rfl (fun ls hl => ?_)
    refine lv_iinc (v := (x2 + (1 : Int32))) (lv' := [(5, .int (x2 + (1 : Int32))), (3, .long r20), (0, .ref (ad 0))]) hx hb dX5_mixTerms_99 hl (k := 2) rfl rfl (by decide) rfl (fun ls hl => ?_)
    refine lv_goto (tgt := 5) hx hb dX5_mixTerms_102 (by decide) ?_
    obtain ⟨n22, hn21, hI23⟩ := h
    exact ih7 n22 (r20, (x2 + (1 : Int32))) hn21 hI23 _ _ _ ⟨hP, hD, hS, lv_sub hl [2, 1, 0] rfl⟩
def wp_X5_mixColumns (a1 : Int64) (inp : Int32) (otp : Int32) (tc : Int32) (on : Nat → Int32) (ze : Nat → Int32) (ou : Nat → Int32) (lo : Nat → Int32) (up : Nat → Int32) (rt : Nat → Int32) (K : Int64 → Prop) : Prop :=
 (Lp2 a1 (0 : Int32) (fun (x1 : Int64) (x2 : Int32) (J6 : Int64 → Int32 → Prop) => (((nI 10) ≤ x2 → K x1) ∧
 (¬ ((nI 10) ≤ x2) → wp_X4_hasColumn x2 inp otp (fun (r10 : Int32) => ((r10 = 0 → J6 x1 (x2 + (1 : Int32))) ∧
 (¬ (r10 = 0) → wp_X4_termsOfColumn x2 tc on ze ou (fun (r15 : Int32) => wp_X5_mix x1 r15.toInt64 (fun (r16 : Int64) => wp_X4_mateOf x2 lo up (fun (r17 : Int32) => wp_X5_mix r16 r17.toInt64 (fun (r18 : Int64) => wp_X3_spread r15 tc rt (fun (r19 : Int32) => wp_X5_mix r18 r19.toInt64 (fun (r20 : Int64) => J6 r20 (x2 + (1 : Int32)))))))))))))))
abbrev rm_X5_mixColumns : Room := { frames := 2, cells := 0, slots := 0, locals := 65 }
set_option maxHeartbeats 4000000 in
set_option maxRecDepth 100000 in
theorem c_X5_mixColumns (l : Launch) (G : GG) (ad : Nat → Nat) (sd : Nat → Nat) (hd : Nat → Nat) (md : Nat → Nat) (rd : Nat → Nat) (be : Nat → Nat) (beD : Nat → Nat → Nat) (sz : Nat) (er : Nat → Int32) (inp : Int32) (otp : Int32) (tc : Int32) (fc : Int32) (on : Nat → Int32) (ze : Nat → Int32) (ou : Nat → Int32) (wd : Nat → Int64) (lo : Nat → Int32) (up : Nat → Int32) (hc : Int32) (sa : Nat → Nat → Nat) (sv : Nat → SS) (ab : Nat → Int32) (tr : Nat → Int32) (rt : Nat → Int32) (kn : Int32) (ct : Int32) (bu : Nat → Int32) (bl : Nat → Int32) (tu : Nat → Int32) (tl : Nat → Int32) (bd : Nat → Int32) (bm : Nat → Int32) (d0 : Nat → Int32) (d1 : Nat → Int32) (d2 : Nat → Int32) (d3 : Nat → Int32) (d4 : Nat → Int32) (d5 : Nat → Int32) (a1 : Int64) {K : Int64 → Prop} (h : wp_X5_mixColumns a1 inp otp tc on ze ou lo up rt K) : CL l yX5_mixColumns wsX5_mixColumns rm_X5_mixColumns G [.ref (ad 0), .long a1] (wP G ad sd hd md rd be er ++ (wS G sd inp otp tc fc on ze ou wd lo up ++ (wH G hd hc sa sv ++ (wD G md ab ++ (wR G rd tr rt ++ (wB G be beD kn ct bu bl tu tl bd bm d0 d1 d2 d3 d4 d5)))))) sz (fun u : Unit => wP G ad sd hd md rd be er ++ (wS G sd inp otp tc fc on ze ou wd lo up ++ (wH G hd hc sa sv ++ (wD G md ab ++ (wR G rd tr rt ++ (wB G be beD kn ct bu bl tu tl bd bm d0 d1 d2 d3 d4 d5)))))) (fun r u => K r ) := by
  refine Met.ofW (cc := cX5_mixColumns) (maxL := 7) (ret := (some .long)) (by decide) rfl ?_
  intro p e s m args below meth c s₁ B hml hv
  obtain ⟨rfl, hsz, hP, hK, hD0, hZ⟩ := hv
  have hx := B.exec
  have hb := B.bytes
  have hr := B.returns
  have hts := atoms_spec (ws := wsX5_mixColumns) B.pre
  have hown : s.vm.findClass RX5 = some m.cls := findClass_of_methodNamed B.named
  have hlocks := B.notSynchronized
  subst hsz
  have hD := hD0.self (sz := s.heap.size)
  generalize hAe : va_A (wP G ad sd hd md rd be er ++ (wS G sd inp otp tc fc on ze ou wd lo up ++ (wH G hd hc sa sv ++ (wD G md ab ++ (wR G rd tr rt ++ (wB G be beD kn ct bu bl tu tl bd bm d0 d1 d2 d3 d4 d5)))))) s.heap.size = A at hD hZ ⊢
  have hA : ∀ q : Nat, s.heap.size ≤ q → A q := fun q h => by rw [← hAe]; exact Or.inr h
  have hS : va_S A s.heap s.heap [] := va_S.rf
  have hl := lv_entry ([.ref (ad 0), .long a1]) (n := 7) (Nat.le_of_ble_eq_true rfl)
  rw [lg_entry_eq]
  generalize (lg_sl ([.ref (ad 0), .long a1]) ++ List.replicate (7 - (lg_sl ([.ref (ad 0), .long a1])).length) Slot.unset).toArray = ls at hl ⊢
  have hl : lv_has ls 7 [(0, .ref (ad 0)), (1, .long a1)] := hl
  unfold wp_X5_mixColumns at h
  have hinX4 : ∀ w ∈ wsX40, w ∈ wsX5_mixColumns := by decide +kernel
  have hinX5 : ∀ w ∈ wsX50, w ∈ wsX5_mixColumns := by decide +kernel
  refine lv_lload_n hx hb dX5_mixColumns_0 rfl (lv_at hl 1 rfl) ?_
  refine lv_lstore_n (lv' := [(3, .long a1), (0, .ref (ad 0)), (1, .long a1)]) hx hb dX5_mixColumns_1 rfl hl (by decide) rfl (fun ls hl => ?_)
  refine lv_iconst (v := (0 : Int32)) hx hb dX5_mixColumns_2 (by decide) ?_
  refine lv_istore (lv' := [(5, .int (0 : Int32)), (3, .long a1), (0, .ref (ad 0)), (1, .long a1)]) hx hb dX5_mixColumns_3 hl (by decide) rfl (fun ls hl => ?_)
  obtain ⟨I3, n4, h0, hst5⟩ := h
  refine loopW (σ := Int64 × Int32) (P := fun q H locs ls => va_P G.1 vwCl (wP G ad sd hd md rd be er ++ (wS G sd inp otp tc fc on ze ou wd lo up ++ (wH G hd hc sa sv ++ (wD G md ab ++ (wR G rd tr rt ++ (wB G be beD kn ct bu bl tu tl bd bm d0 d1 d2 d3 d4 d5)))))) H ∧ va_D A (wP G ad sd hd md rd be er ++ (wS G sd inp otp tc fc on ze ou wd lo up ++ (wH G hd hc sa sv ++ (wD G md ab ++ (wR G rd tr rt ++ (wB G be beD kn ct bu bl tu tl bd bm d0 d1 d2 d3 d4 d5)))))) ∧ va_S A s.heap H locs ∧ lv_has ls 7 [(0, .ref (ad 0)), (3, .long q.1), (5, .int q.2)]) (I := fun n q => I3 n q.1 q.2) n4 (a1, (0 : Int32)) h0 _ _ _ ⟨hP, hD, hS, lv_sub hl [2, 1, 0] rfl⟩ ?_
  rintro n8 ⟨x1, x2⟩ hI ih7 H locs ls ⟨hP, hD, hS, hl⟩
  have hP : va_P G.1 vwCl (wP G ad sd hd md rd be er ++ (wS G sd inp otp tc fc on ze ou wd lo up ++ (wH G hd hc sa sv ++ (wD G md ab ++ (wR G rd tr rt ++ (wB G be beD kn ct bu bl tu tl bd bm d0 d1 d2 d3 d4 d5)))))) H := hP
  have hD : va_D A (wP G ad sd hd md rd be er ++ (wS G sd inp otp tc fc on ze ou wd lo up ++ (wH G hd hc sa sv ++ (wD G md ab ++ (wR G rd tr rt ++ (wB G be beD kn ct bu bl tu tl bd bm d0 d1 d2 d3 d4 d5)))))) := hD
  have hl : lv_has ls 7 [(0, .ref (ad 0)), (3, .long x1), (5, .int x2)] := hl
  have h := hst5 n8 x1 x2 hI
  refine lv_iload hx hb dX5_mixColumns_5 (lv_at hl 2 rfl) ?_
  refine lv_bipush (v := (nI 10)) hx hb dX5_mixColumns_7 (by decide) ?_
  refine lv_icmp_ge (tgt := 86) hx hb dX5_mixColumns_9 (by decide) (fun c_9 => ?_) (fun c_9 => ?_)
  · have h := h.1 c_9
    refine lv_lload_n hx hb dX5_mixColumns_86 rfl (lv_at hl 1 rfl) ?_
    exact W.lret hx hb hr (fun t ht hW => ⟨⟨_, (), rfl, h, by rw [ht]; exact hP, hD⟩, hS.F ht⟩) hS.2.2 dX5_mixColumns_87
  · have h := h.2 c_9
    refine lv_aload_n hx hb dX5_mixColumns_12 rfl (lv_at hl 0 rfl) ?_
    refine va_get (D := G.1) (ci := 5) (v := .ref (sd 0)) (C := RX5) (T := TX5) (N := 6) hx hb hts hinX5 hown hK.1 hP.l 0 rfl rfl 0 (by decide) (hts (.fieldLink RX5 12 "PlaFolder" "state" "LPlaFolder$State;") (by decide +kernel)) (fun _ h9 => h9) rfl dX5_mixColumns_13 ?_
    refine lv_iload hx hb dX5_mixColumns_16 (lv_at hl 2 rfl) ?_
    refine kp_i (wr := wP G ad sd hd md rd be er ++ (wH G hd hc sa sv ++ (wD G md ab ++ (wR G rd tr rt ++ (wB G be beD kn ct bu bl tu tl bd bm d0 d1 d2 d3 d4 d5))))) (va_runVN (As := [.int x2]) (rest := []) ⟨hx, hb, hml, hown, hts⟩ (c_X4_hasColumn l G sd _ inp otp tc fc on ze ou wd lo up x2 h) ⟨va_cnB 1 hts gX5_mixColumns_X4_hasColumn_n119 rfl rfl rfl (hK.2.M 23 (q := ("PlaFolder", 119, ⟨"PlaFolder$State", "hasColumn", "(I)Z"⟩, "PlaFolder")) rfl) (hts (.initialized RX4) (by decide +kernel)) (by decide +kernel) ⟨Nat.le_of_ble_eq_true rfl, Nat.le_of_ble_eq_true rfl⟩, hts (.instanceMethod yX4_hasColumn) (by decide +kernel), hts (.selects RX4 yX4_hasColumn yX4_hasColumn) (by decide +kernel)⟩ (kpVp hK hP hD hZ hS hA (pm6_02345_1 (wP G ad sd hd md rd be er) (wS G sd inp otp tc fc on ze ou wd lo up) (wH G hd hc sa sv) (wD G md ab) (wR G rd tr rt) (wB G be beD kn ct bu bl tu tl bd bm d0 d1 d2 d3 d4 d5)) (q0 := 0) (ci := 4) rfl rfl) rfl rfl hl.1 rfl (lv_room (Nat.le_of_ble_eq_true rfl)) dX5_mixColumns_18 ⟨Nat.zero_le _, Nat.zero_le _⟩) hP hD hS hA (pm6_02345_1 (wP G ad sd hd md rd be er) (wS G sd inp otp tc fc on ze ou wd lo up) (wH G hd hc sa sv) (wD G md ab) (wR G rd tr rt) (wB G be beD kn ct bu bl tu tl bd bm d0 d1 d2 d3 d4 d5)) (fun r10 w30 H locs h hP hD hS => ?_)
    have hP : va_P G.1 vwCl (wP G ad sd hd md rd be er ++ (wS G sd inp otp tc fc on ze ou wd lo up ++ (wH G hd hc sa sv ++ (wD G md ab ++ (wR G rd tr rt ++ (wB G be beD kn ct bu bl tu tl bd bm d0 d1 d2 d3 d4 d5)))))) H := hP.perm (pm6_02345_1 (wP G ad sd hd md rd be er) (wS G sd inp otp tc fc on ze ou wd lo up) (wH G hd hc sa sv) (wD G md ab) (wR G rd tr rt) (wB G be beD kn ct bu bl tu tl bd bm d0 d1 d2 d3 d4 d5)).symm
    have hD : va_D A (wP G ad sd hd md rd be er ++ (wS G sd inp otp tc fc on ze ou wd lo up ++ (wH G hd hc sa sv ++ (wD G md ab ++ (wR G rd tr rt ++ (wB G be beD kn ct bu bl tu tl bd bm d0 d1 d2 d3 d4 d5)))))) := hD.perm (pm6_02345_1 (wP G ad sd hd md rd be er) (wS G sd inp otp tc fc on ze ou wd lo up) (wH G hd hc sa sv) (wD G md ab) (wR G rd tr rt) (wB G be beD kn ct bu bl tu tl bd bm d0 d1 d2 d3 d4 d5)).symm
    try dsimp only at h
    refine lv_if_eq (tgt := 80) hx hb dX5_mixColumns_21 (by decide) (fun c_11 => ?_) (fun c_11 => ?_)
    · have h := h.1 c_11
      refine lv_iinc (v := (x2 + (1 : Int32))) (lv' := [(5, .int (x2 + (1 : Int32))), (0, .ref (ad 0)), (3, .long x1)]) hx hb dX5_mixColumns_80 hl (k := 2) rfl rfl (by decide) rfl (fun ls hl => ?_)
      refine lv_goto (tgt := 5) hx hb dX5_mixColumns_83 (by decide) ?_
      obtain ⟨n13, hn12, hI14⟩ := h
      exact ih7 n13 (x1, (x2 + (1 : Int32))) hn12 hI14 _ _ _ ⟨hP, hD, hS, lv_sub hl [1, 2, 0] rfl⟩
    · have h := h.2 c_11
      refine lv_aload_n hx hb dX5_mixColumns_24 rfl (lv_at hl 0 rfl) ?_
      refine va_get (D := G.1) (ci := 5) (v := .ref (sd 0)) (C := RX5) (T := TX5) (N := 6) hx hb hts hinX5 hown hK.1 hP.l 0 rfl rfl 0 (by decide) (hts (.fieldLink RX5 12 "PlaFolder" "state" "LPlaFolder$State;") (by decide +kernel)) (fun _ h9 => h9) rfl dX5_mixColumns_25 ?_
      refine lv_iload hx hb dX5_mixColumns_28 (lv_at hl 2 rfl) ?_
      refine kp_i (wr := wP G ad sd hd md rd be er ++ (wH G hd hc sa sv ++ (wD G md ab ++ (wR G rd tr rt ++ (wB G be beD kn ct bu bl tu tl bd bm d0 d1 d2 d3 d4 d5))))) (va_runVN (As := [.int x2]) (rest := []) ⟨hx, hb, hml, hown, hts⟩ (c_X4_termsOfColumn l G sd _ inp otp tc fc on ze ou wd lo up x2 h) ⟨va_cnB 1 hts gX5_mixColumns_X4_termsOfColumn_n122 rfl rfl rfl (hK.2.M 24 (q := ("PlaFolder", 122, ⟨"PlaFolder$State", "termsOfColumn", "(I)I"⟩, "PlaFolder")) rfl) (hts (.initialized RX4) (by decide +kernel)) (by decide +kernel) ⟨Nat.le_of_ble_eq_true rfl, Nat.le_of_ble_eq_true rfl⟩, hts (.instanceMethod yX4_termsOfColumn) (by decide +kernel), hts (.selects RX4 yX4_termsOfColumn yX4_termsOfColumn) (by decide +kernel)⟩ (kpVp hK hP hD hZ hS hA (pm6_02345_1 (wP G ad sd hd md rd be er) (wS G sd inp otp tc fc on ze ou wd lo up) (wH G hd hc sa sv) (wD G md ab) (wR G rd tr rt) (wB G be beD kn ct bu bl tu tl bd bm d0 d1 d2 d3 d4 d5)) (q0 := 0) (ci := 4) rfl rfl) rfl rfl hl.1 rfl (lv_room (Nat.le_of_ble_eq_true rfl)) dX5_mixColumns_30 ⟨Nat.zero_le _, Nat.zero_le _⟩) hP hD hS hA (pm6_02345_1 (wP G ad sd hd md rd be er) (wS G sd inp otp tc fc on ze ou wd lo up) (wH G hd hc sa sv) (wD G md ab) (wR G rd tr rt) (wB G be beD kn ct bu bl tu tl bd bm d0 d1 d2 d3 d4 d5)) (fun r15 w29 H locs h hP hD hS => ?_)
      have hP : va_P G.1 vwCl (wP G ad sd hd md rd be er ++ (wS G sd inp otp tc fc on ze ou wd lo up ++ (wH G hd hc sa sv ++ (wD G md ab ++ (wR G rd tr rt ++ (wB G be beD kn ct bu bl tu tl bd bm d0 d1 d2 d3 d4 d5)))))) H := hP.perm (pm6_02345_1 (wP G ad sd hd md rd be er) (wS G sd inp otp tc fc on ze ou wd lo up) (wH G hd hc sa sv) (wD G md ab) (wR G rd tr rt) (wB G be beD kn ct bu bl tu tl bd bm d0 d1 d2 d3 d4 d5)).symm
      have hD : va_D A (wP G ad sd hd md rd be er ++ (wS G sd inp otp tc fc on ze ou wd lo up ++ (wH G hd hc sa sv ++ (wD G md ab ++ (wR G rd tr rt ++ (wB G be beD kn ct bu bl tu tl bd bm d0 d1 d2 d3 d4 d5)))))) := hD.perm (pm6_02345_1 (wP G ad sd hd md rd be er) (wS G sd inp otp tc fc on ze ou wd lo up) (wH G hd hc sa sv) (wD G md ab) (wR G rd tr rt) (wB G be beD kn ct bu bl tu tl bd bm d0 d1 d2 d3 d4 d5)).symm
      try dsimp only at h
      refine lv_istore (lv' := [(6, .int r15), (0, .ref (ad 0)), (3, .long x1), (5, .int x2)]) hx hb dX5_mixColumns_33 hl (by decide) rfl (fun ls hl => ?_)
      refine lv_lload_n hx hb dX5_mixColumns_35 rfl (lv_at hl 2 rfl) ?_
      refine lv_iload hx hb dX5_mixColumns_36 (lv_at hl 0 rfl) ?_
      refine lv_i2l (v := r15.toInt64) hx hb dX5_mixColumns_38 rfl ?_
      refine kp_l (wr := wP G ad sd hd md rd be er ++ (wS G sd inp otp tc fc on ze ou wd lo up ++ (wH G hd hc sa sv ++ (wD G md ab ++ (wR G rd tr rt ++ (wB G be beD kn ct bu bl tu tl bd bm d0 d1 d2 d3 d4 d5)))))) (va_runS (As := [.long x1, .long r15.toInt64]) (rest := []) ⟨hx, hb, hml, hown, hts⟩ (c_X5_mix l G  _  x1 r15.toInt64 h) (va_cwS 2 hts gX5_mixColumns_X5_mix rfl rfl rfl (by decide +kernel) ⟨Nat.le_of_ble_eq_true rfl, Nat.le_of_ble_eq_true rfl⟩) (kpSp hK hP hD hZ hS hA (pm_nil _)) rfl rfl hl.1 rfl (lv_room (Nat.le_of_ble_eq_true rfl)) dX5_mixColumns_39 ⟨Nat.zero_le _, Nat.zero_le _⟩) hP hD hS hA (pm_nil _) (fun r16 w28 H locs h hP hD hS => ?_)
      have hP : va_P G.1 vwCl (wP G ad sd hd md rd be er ++ (wS G sd inp otp tc fc on ze ou wd lo up ++ (wH G hd hc sa sv ++ (wD G md ab ++ (wR G rd tr rt ++ (wB G be beD kn ct bu bl tu tl bd bm d0 d1 d2 d3 d4 d5)))))) H := hP.perm (pm_nil _).symm
      have hD : va_D A (wP G ad sd hd md rd be er ++ (wS G sd inp otp tc fc on ze ou wd lo up ++ (wH G hd hc sa sv ++ (wD G md ab ++ (wR G rd tr rt ++ (wB G be beD kn ct bu bl tu tl bd bm d0 d1 d2 d3 d4 d5)))))) := hD.perm (pm_nil _).symm
      try dsimp only at h
      refine lv_lstore_n (lv' := [(3, .long r16), (6, .int r15), (0, .ref (ad 0)), (5, .int x2)]) hx hb dX5_mixColumns_42 rfl hl (by decide) rfl (fun ls hl => ?_)
      refine lv_lload_n hx hb dX5_mixColumns_43 rfl (lv_at hl 0 rfl) ?_
      refine lv_aload_n hx hb dX5_mixColumns_44 rfl (lv_at hl 2 rfl) ?_
      refine va_get (D := G.1) (ci := 5) (v := .ref (sd 0)) (C := RX5) (T := TX5) (N := 6) hx hb hts hinX5 hown hK.1 hP.l 0 rfl rfl 0 (by decide) (hts (.fieldLink RX5 12 "PlaFolder" "state" "LPlaFolder$State;") (by decide +kernel)) (fun _ h9 => h9) rfl dX5_mixColumns_45 ?_
      refine lv_iload hx hb dX5_mixColumns_48 (lv_at hl 3 rfl) ?_
      refine kp_i (wr := wP G ad sd hd md rd be er ++ (wH G hd hc sa sv ++ (wD G md ab ++ (wR G rd tr rt ++ (wB G be beD kn ct bu bl tu tl bd bm d0 d1 d2 d3 d4 d5))))) (va_runVN (As := [.int x2]) (rest := [.long r16]) ⟨hx, hb, hml, hown, hts⟩ (c_X4_mateOf l G sd _ inp otp tc fc on ze ou wd lo up x2 h) ⟨va_cnB 1 hts gX5_mixColumns_X4_mateOf_n129 rfl rfl rfl (hK.2.M 26 (q := ("PlaFolder", 129, ⟨"PlaFolder$State", "mateOf", "(I)I"⟩, "PlaFolder")) rfl) (hts (.initialized RX4) (by decide +kernel)) (by decide +kernel) ⟨Nat.le_of_ble_eq_true rfl, Nat.le_of_ble_eq_true rfl⟩, hts (.instanceMethod yX4_mateOf) (by decide +kernel), hts (.selects RX4 yX4_mateOf yX4_mateOf) (by decide +kernel)⟩ (kpVp hK hP hD hZ hS hA (pm6_02345_1 (wP G ad sd hd md rd be er) (wS G sd inp otp tc fc on ze ou wd lo up) (wH G hd hc sa sv) (wD G md ab) (wR G rd tr rt) (wB G be beD kn ct bu bl tu tl bd bm d0 d1 d2 d3 d4 d5)) (q0 := 0) (ci := 4) rfl rfl) rfl rfl hl.1 rfl (lv_room (Nat.le_of_ble_eq_true rfl)) dX5_mixColumns_50 ⟨Nat.zero_le _, Nat.zero_le _⟩) hP hD hS hA (pm6_02345_1 (wP G ad sd hd md rd be er) (wS G sd inp otp tc fc on ze ou wd lo up) (wH G hd hc sa sv) (wD G md ab) (wR G rd tr rt) (wB G be beD kn ct bu bl tu tl bd bm d0 d1 d2 d3 d4 d5)) (fun r17 w27 H locs h hP hD hS => ?_)
      have hP : va_P G.1 vwCl (wP G ad sd hd md rd be er ++ (wS G sd inp otp tc fc on ze ou wd lo up ++ (wH G hd hc sa sv ++ (wD G md ab ++ (wR G rd tr rt ++ (wB G be beD kn ct bu bl tu tl bd bm d0 d1 d2 d3 d4 d5)))))) H := hP.perm (pm6_02345_1 (wP G ad sd hd md rd be er) (wS G sd inp otp tc fc on ze ou wd lo up) (wH G hd hc sa sv) (wD G md ab) (wR G rd tr rt) (wB G be beD kn ct bu bl tu tl bd bm d0 d1 d2 d3 d4 d5)).symm
      have hD : va_D A (wP G ad sd hd md rd be er ++ (wS G sd inp otp tc fc on ze ou wd lo up ++ (wH G hd hc sa sv ++ (wD G md ab ++ (wR G rd tr rt ++ (wB G be beD kn ct bu bl tu tl bd bm d0 d1 d2 d3 d4 d5)))))) := hD.perm (pm6_02345_1 (wP G ad sd hd md rd be er) (wS G sd inp otp tc fc on ze ou wd lo up) (wH G hd hc sa sv) (wD G md ab) (wR G rd tr rt) (wB G be beD kn ct bu bl tu tl bd bm d0 d1 d2 d3 d4 d5)).symm
      try dsimp only at h
      refine lv_i2l (v := r17.toInt64) hx hb dX5_mixColumns_53 rfl ?_
      refine kp_l (wr := wP G ad sd hd md rd be er ++ (wS G sd inp otp tc fc on ze ou wd lo up ++ (wH G hd hc sa sv ++ (wD G md ab ++ (wR G rd tr rt ++ (wB G be beD kn ct bu bl tu tl bd bm d0 d1 d2 d3 d4 d5)))))) (va_runS (As := [.long r16, .long r17.toInt64]) (rest := []) ⟨hx, hb, hml, hown, hts⟩ (c_X5_mix l G  _  r16 r17.toInt64 h) (va_cwS 2 hts gX5_mixColumns_X5_mix rfl rfl rfl (by decide +kernel) ⟨Nat.le_of_ble_eq_true rfl, Nat.le_of_ble_eq_true rfl⟩) (kpSp hK hP hD hZ hS hA (pm_nil _)) rfl rfl hl.1 rfl (lv_room (Nat.le_of_ble_eq_true rfl)) dX5_mixColumns_54 ⟨Nat.zero_le _, Nat.zero_le _⟩) hP hD hS hA (pm_nil _) (fun r18 w26 H locs h hP hD hS => ?_)
      have hP : va_P G.1 vwCl (wP G ad sd hd md rd be er ++ (wS G sd inp otp tc fc on ze ou wd lo up ++ (wH G hd hc sa sv ++ (wD G md ab ++ (wR G rd tr rt ++ (wB G be beD kn ct bu bl tu tl bd bm d0 d1 d2 d3 d4 d5)))))) H := hP.perm (pm_nil _).symm
      have hD : va_D A (wP G ad sd hd md rd be er ++ (wS G sd inp otp tc fc on ze ou wd lo up ++ (wH G hd hc sa sv ++ (wD G md ab ++ (wR G rd tr rt ++ (wB G be beD kn ct bu bl tu tl bd bm d0 d1 d2 d3 d4 d5)))))) := hD.perm (pm_nil _).symm
      try dsimp only at h
      refine lv_lstore_n (lv' := [(3, .long r18), (6, .int r15), (0, .ref (ad 0)), (5, .int x2)]) hx hb dX5_mixColumns_57 rfl hl (by decide) rfl (fun ls hl => ?_)
      refine lv_lload_n hx hb dX5_mixColumns_58 rfl (lv_at hl 0 rfl) ?_
      refine lv_aload_n hx hb dX5_mixColumns_59 rfl (lv_at hl 2 rfl) ?_
      refine va_get (D := G.1) (ci := 5) (v := .ref (rd 0)) (C := RX5) (T := TX5) (N := 6) hx hb hts hinX5 hown hK.1 hP.l 0 rfl rfl 3 (by decide) (hts (.fieldLink RX5 33 "PlaFolder" "rows" "LPlaFolder$RowOrder;") (by decide +kernel)) (fun _ h9 => h9) rfl dX5_mixColumns_60 ?_
      refine lv_iload hx hb dX5_mixColumns_63 (lv_at hl 1 rfl) ?_
      refine lv_aload_n hx hb dX5_mixColumns_65 rfl (lv_at hl 2 rfl) ?_
      refine va_get (D := G.1) (ci := 5) (v := .ref (sd 0)) (C := RX5) (T := TX5) (N := 6) hx hb hts hinX5 hown hK.1 hP.l 0 rfl rfl 0 (by decide) (hts (.fieldLink RX5 12 "PlaFolder" "state" "LPlaFolder$State;") (by decide +kernel)) (fun _ h9 => h9) rfl dX5_mixColumns_66 ?_
      refine va_getN (D := G.1) (ci := 4) (v := .int tc) (C := RX4) (T := TX4) (N := 10) (host := "PlaFolder") hx hb hts hinX4 hown hK.1 hP.r.l 0 rfl rfl 2 (by decide) (hK.2.F 2 (q := ("PlaFolder", 56, "PlaFolder$State", "termCount", "I", "PlaFolder")) rfl) (fun _ h9 => h9) rfl dX5_mixColumns_69 ?_
      refine kp_i (wr := wP G ad sd hd md rd be er ++ (wS G sd inp otp tc fc on ze ou wd lo up ++ (wH G hd hc sa sv ++ (wD G md ab ++ (wB G be beD kn ct bu bl tu tl bd bm d0 d1 d2 d3 d4 d5))))) (va_runVN (As := [.int r15, .int tc]) (rest := [.long r18]) ⟨hx, hb, hml, hown, hts⟩ (c_X3_spread l G rd _ tr rt r15 tc h) ⟨va_cnB 2 hts gX5_mixColumns_X3_spread_n159 rfl rfl rfl (hK.2.M 30 (q := ("PlaFolder", 159, ⟨"PlaFolder$RowOrder", "spread", "(II)I"⟩, "PlaFolder")) rfl) (hts (.initialized RX3) (by decide +kernel)) (by decide +kernel) ⟨Nat.le_of_ble_eq_true rfl, Nat.le_of_ble_eq_true rfl⟩, hts (.instanceMethod yX3_spread) (by decide +kernel), hts (.selects RX3 yX3_spread yX3_spread) (by decide +kernel)⟩ (kpVp hK hP hD hZ hS hA (pm6_01235_4 (wP G ad sd hd md rd be er) (wS G sd inp otp tc fc on ze ou wd lo up) (wH G hd hc sa sv) (wD G md ab) (wR G rd tr rt) (wB G be beD kn ct bu bl tu tl bd bm d0 d1 d2 d3 d4 d5)) (q0 := 0) (ci := 3) rfl rfl) rfl rfl hl.1 rfl (lv_room (Nat.le_of_ble_eq_true rfl)) dX5_mixColumns_72 ⟨Nat.zero_le _, Nat.zero_le _⟩) hP hD hS hA (pm6_01235_4 (wP G ad sd hd md rd be er) (wS G sd inp otp tc fc on ze ou wd lo up) (wH G hd hc sa sv) (wD G md ab) (wR G rd tr rt) (wB G be beD kn ct bu bl tu tl bd bm d0 d1 d2 d3 d4 d5)) (fun r19 w25 H locs h hP hD hS => ?_)
      have hP : va_P G.1 vwCl (wP G ad sd hd md rd be er ++ (wS G sd inp otp tc fc on ze ou wd lo up ++ (wH G hd hc sa sv ++ (wD G md ab ++ (wR G rd tr rt ++ (wB G be beD kn ct bu bl tu tl bd bm d0 d1 d2 d3 d4 d5)))))) H := hP.perm (pm6_01235_4 (wP G ad sd hd md rd be er) (wS G sd inp otp tc fc on ze ou wd lo up) (wH G hd hc sa sv) (wD G md ab) (wR G rd tr rt) (wB G be beD kn ct bu bl tu tl bd bm d0 d1 d2 d3 d4 d5)).symm
      have hD : va_D A (wP G ad sd hd md rd be er ++ (wS G sd inp otp tc fc on ze ou wd lo up ++ (wH G hd hc sa sv ++ (wD G md ab ++ (wR G rd tr rt ++ (wB G be beD kn ct bu bl tu tl bd bm d0 d1 d2 d3 d4 d5)))))) := hD.perm (pm6_01235_4 (wP G ad sd hd md rd be er) (wS G sd inp otp tc fc on ze ou wd lo up) (wH G hd hc sa sv) (wD G md ab) (wR G rd tr rt) (wB G be beD kn ct bu bl tu tl bd bm d0 d1 d2 d3 d4 d5)).symm
      try dsimp only at h
      refine lv_i2l (v := r19.toInt64) hx hb dX5_mixColumns_75 rfl ?_
      refine kp_l (wr := wP G ad sd hd md rd be er ++ (wS G sd inp otp tc fc on ze ou wd lo up ++ (wH G hd hc sa sv ++ (wD G md ab ++ (wR G rd tr rt ++ (wB G be beD kn ct bu bl tu tl bd bm d0 d1 d2 d3 d4 d5)))))) (va_runS (As := [.long r18, .long r19.toInt64]) (rest := []) ⟨hx, hb, hml, hown, hts⟩ (c_X5_mix l G  _  r18 r19.toInt64 h) (va_cwS 2 hts gX5_mixColumns_X5_mix rfl rfl rfl (by decide +kernel) ⟨Nat.le_of_ble_eq_true rfl, Nat.le_of_ble_eq_true rfl⟩) (kpSp hK hP hD hZ hS hA (pm_nil _)) rfl rfl hl.1 rfl (lv_room (Nat.le_of_ble_eq_true rfl)) dX5_mixColumns_76 ⟨Nat.zero_le _, Nat.zero_le _⟩) hP hD hS hA (pm_nil _) (fun r20 w24 H locs h hP hD hS => ?_)
      have hP : va_P G.1 vwCl (wP G ad sd hd md rd be er ++ (wS G sd inp otp tc fc on ze ou wd lo up ++ (wH G hd hc sa sv ++ (wD G md ab ++ (wR G rd tr rt ++ (wB G be beD kn ct bu bl tu tl bd bm d0 d1 d2 d3 d4 d5)))))) H := hP.perm (pm_nil _).symm
      have hD : va_D A (wP G ad sd hd md rd be er ++ (wS G sd inp otp tc fc on ze ou wd lo up ++ (wH G hd hc sa sv ++ (wD G md ab ++ (wR G rd tr rt ++ (wB G be beD kn ct bu bl tu tl bd bm d0 d1 d2 d3 d4 d5)))))) := hD.perm (pm_nil _).symm
      try dsimp only at h
      refine lv_lstore_n (lv' := [(3, .long r20), (6, .int r15), (0, .ref (ad 0)), (5, .int x2)]) hx hb dX5_mixColumns_79 rfl hl (by decide) rfl (fun ls hl => ?_)
      refine lv_iinc (v := (x2 + (1 : Int32))) (lv' := [(5, .int (x2 + (1 : Int32))), (3, .long r20), (6, .int r15), (0, .ref (ad 0))]) hx hb dX5_mixColumns_80 hl (k := 3) rfl rfl (by decide) rfl (fun ls hl => ?_)
      refine lv_goto (tgt := 5) hx hb dX5_mixColumns_83 (by decide) ?_
      obtain ⟨n22, hn21, hI23⟩ := h
      exact ih7 n22 (r20, (x2 + (1 : Int32))) hn21 hI23 _ _ _ ⟨hP, hD, hS, lv_sub hl [3, 1, 0] rfl⟩
def wp_X5_mixBest (a1 : Int64) (ct : Int32) (bu : Nat → Int32) (bl : Nat → Int32) (K : Int64 → Prop) : Prop :=
 wp_X5_mix a1 ct.toInt64 (fun (r1 : Int64) => (Lp2 r1 (0 : Int32) (fun (x2 : Int64) (x3 : Int32) (J7 : Int64 → Int32 → Prop) => ((ct ≤ x3 → K x2) ∧
 (¬ (ct ≤ x3) → (vp_in x3 5 ∧ wp_X5_mix x2 ((bu x3.toNatClampNeg).toInt64) (fun (r12 : Int64) => (vp_in x3 5 ∧ wp_X5_mix r12 ((bl x3.toNatClampNeg).toInt64) (fun (r14 : Int64) => J7 r14 (x3 + (1 : Int32)))))))))))
abbrev rm_X5_mixBest : Room := { frames := 1, cells := 0, slots := 0, locals := 23 }
set_option maxHeartbeats 4000000 in
set_option maxRecDepth 100000 in
theorem c_X5_mixBest (l : Launch) (G : GG) (ad : Nat → Nat) (sd : Nat → Nat) (hd : Nat → Nat) (md : Nat → Nat) (rd : Nat → Nat) (be : Nat → Nat) (beD : Nat → Nat → Nat) (sz : Nat) (er : Nat → Int32) (inp : Int32) (otp : Int32) (tc : Int32) (fc : Int32) (on : Nat → Int32) (ze : Nat → Int32) (ou : Nat → Int32) (wd : Nat → Int64) (lo : Nat → Int32) (up : Nat → Int32) (hc : Int32) (sa : Nat → Nat → Nat) (sv : Nat → SS) (ab : Nat → Int32) (tr : Nat → Int32) (rt : Nat → Int32) (kn : Int32) (ct : Int32) (bu : Nat → Int32) (bl : Nat → Int32) (tu : Nat → Int32) (tl : Nat → Int32) (bd : Nat → Int32) (bm : Nat → Int32) (d0 : Nat → Int32) (d1 : Nat → Int32) (d2 : Nat → Int32) (d3 : Nat → Int32) (d4 : Nat → Int32) (d5 : Nat → Int32) (a1 : Int64) {K : Int64 → Prop} (h : wp_X5_mixBest a1 ct bu bl K) : CL l yX5_mixBest wsX5_mixBest rm_X5_mixBest G [.ref (ad 0), .long a1] (wP G ad sd hd md rd be er ++ (wS G sd inp otp tc fc on ze ou wd lo up ++ (wH G hd hc sa sv ++ (wD G md ab ++ (wR G rd tr rt ++ (wB G be beD kn ct bu bl tu tl bd bm d0 d1 d2 d3 d4 d5)))))) sz (fun u : Unit => wP G ad sd hd md rd be er ++ (wS G sd inp otp tc fc on ze ou wd lo up ++ (wH G hd hc sa sv ++ (wD G md ab ++ (wR G rd tr rt ++ (wB G be beD kn ct bu bl tu tl bd bm d0 d1 d2 d3 d4 d5)))))) (fun r u => K r ) := by
  refine Met.ofW (cc := cX5_mixBest) (maxL := 6) (ret := (some .long)) (by decide) rfl ?_
  intro p e s m args below meth c s₁ B hml hv
  obtain ⟨rfl, hsz, hP, hK, hD0, hZ⟩ := hv
  have hx := B.exec
  have hb := B.bytes
  have hr := B.returns
  have hts := atoms_spec (ws := wsX5_mixBest) B.pre
  have hown : s.vm.findClass RX5 = some m.cls := findClass_of_methodNamed B.named
  have hlocks := B.notSynchronized
  subst hsz
  have hD := hD0.self (sz := s.heap.size)
  generalize hAe : va_A (wP G ad sd hd md rd be er ++ (wS G sd inp otp tc fc on ze ou wd lo up ++ (wH G hd hc sa sv ++ (wD G md ab ++ (wR G rd tr rt ++ (wB G be beD kn ct bu bl tu tl bd bm d0 d1 d2 d3 d4 d5)))))) s.heap.size = A at hD hZ ⊢
  have hA : ∀ q : Nat, s.heap.size ≤ q → A q := fun q h => by rw [← hAe]; exact Or.inr h
  have hS : va_S A s.heap s.heap [] := va_S.rf
  have hl := lv_entry ([.ref (ad 0), .long a1]) (n := 6) (Nat.le_of_ble_eq_true rfl)
  rw [lg_entry_eq]
  generalize (lg_sl ([.ref (ad 0), .long a1]) ++ List.replicate (6 - (lg_sl ([.ref (ad 0), .long a1])).length) Slot.unset).toArray = ls at hl ⊢
  have hl : lv_has ls 6 [(0, .ref (ad 0)), (1, .long a1)] := hl
  unfold wp_X5_mixBest at h
  have hinX0 : ∀ w ∈ wsX00, w ∈ wsX5_mixBest := by decide +kernel
  have hinX5 : ∀ w ∈ wsX50, w ∈ wsX5_mixBest := by decide +kernel
  refine lv_lload_n hx hb dX5_mixBest_0 rfl (lv_at hl 1 rfl) ?_
  refine lv_aload_n hx hb dX5_mixBest_1 rfl (lv_at hl 0 rfl) ?_
  refine va_get (D := G.1) (ci := 5) (v := .ref (be 0)) (C := RX5) (T := TX5) (N := 6) hx hb hts hinX5 hown hK.1 hP.l 0 rfl rfl 4 (by decide) (hts (.fieldLink RX5 40 "PlaFolder" "best" "LPlaFolder$BestFolding;") (by decide +kernel)) (fun _ h9 => h9) rfl dX5_mixBest_2 ?_
  refine va_getN (D := G.1) (ci := 0) (v := .int ct) (C := RX0) (T := TX0) (N := 9) (host := "PlaFolder") hx hb hts hinX0 hown hK.1 hP.r.r.r.r.r 0 rfl rfl 1 (by decide) (hK.2.F 14 (q := ("PlaFolder", 166, "PlaFolder$BestFolding", "count", "I", "PlaFolder")) rfl) (fun _ h9 => h9) rfl dX5_mixBest_5 ?_
  refine lv_i2l (v := ct.toInt64) hx hb dX5_mixBest_8 rfl ?_
  refine kp_l (wr := wP G ad sd hd md rd be er ++ (wS G sd inp otp tc fc on ze ou wd lo up ++ (wH G hd hc sa sv ++ (wD G md ab ++ (wR G rd tr rt ++ (wB G be beD kn ct bu bl tu tl bd bm d0 d1 d2 d3 d4 d5)))))) (va_runS (As := [.long a1, .long ct.toInt64]) (rest := []) ⟨hx, hb, hml, hown, hts⟩ (c_X5_mix l G  _  a1 ct.toInt64 h) (va_cwS 2 hts gX5_mixBest_X5_mix rfl rfl rfl (by decide +kernel) ⟨Nat.le_of_ble_eq_true rfl, Nat.le_of_ble_eq_true rfl⟩) (kpSp hK hP hD hZ hS hA (pm_nil _)) rfl rfl hl.1 rfl (lv_room (Nat.le_of_ble_eq_true rfl)) dX5_mixBest_9 ⟨Nat.zero_le _, Nat.zero_le _⟩) hP hD hS hA (pm_nil _) (fun r1 w20 H locs h hP hD hS => ?_)
  have hP : va_P G.1 vwCl (wP G ad sd hd md rd be er ++ (wS G sd inp otp tc fc on ze ou wd lo up ++ (wH G hd hc sa sv ++ (wD G md ab ++ (wR G rd tr rt ++ (wB G be beD kn ct bu bl tu tl bd bm d0 d1 d2 d3 d4 d5)))))) H := hP.perm (pm_nil _).symm
  have hD : va_D A (wP G ad sd hd md rd be er ++ (wS G sd inp otp tc fc on ze ou wd lo up ++ (wH G hd hc sa sv ++ (wD G md ab ++ (wR G rd tr rt ++ (wB G be beD kn ct bu bl tu tl bd bm d0 d1 d2 d3 d4 d5)))))) := hD.perm (pm_nil _).symm
  try dsimp only at h
  refine lv_lstore_n (lv' := [(3, .long r1), (0, .ref (ad 0)), (1, .long a1)]) hx hb dX5_mixBest_12 rfl hl (by decide) rfl (fun ls hl => ?_)
  refine lv_iconst (v := (0 : Int32)) hx hb dX5_mixBest_13 (by decide) ?_
  refine lv_istore (lv' := [(5, .int (0 : Int32)), (3, .long r1), (0, .ref (ad 0)), (1, .long a1)]) hx hb dX5_mixBest_14 hl (by decide) rfl (fun ls hl => ?_)
  obtain ⟨I4, n5, h0, hst6⟩ := h
  refine loopW (σ := Int64 × Int32) (P := fun q H locs ls => va_P G.1 vwCl (wP G ad sd hd md rd be er ++ (wS G sd inp otp tc fc on ze ou wd lo up ++ (wH G hd hc sa sv ++ (wD G md ab ++ (wR G rd tr rt ++ (wB G be beD kn ct bu bl tu tl bd bm d0 d1 d2 d3 d4 d5)))))) H ∧ va_D A (wP G ad sd hd md rd be er ++ (wS G sd inp otp tc fc on ze ou wd lo up ++ (wH G hd hc sa sv ++ (wD G md ab ++ (wR G rd tr rt ++ (wB G be beD kn ct bu bl tu tl bd bm d0 d1 d2 d3 d4 d5)))))) ∧ va_S A s.heap H locs ∧ lv_has ls 6 [(0, .ref (ad 0)), (3, .long q.1), (5, .int q.2)]) (I := fun n q => I4 n q.1 q.2) n5 (r1, (0 : Int32)) h0 _ _ _ ⟨hP, hD, hS, lv_sub hl [2, 1, 0] rfl⟩ ?_
  rintro n9 ⟨x2, x3⟩ hI ih8 H locs ls ⟨hP, hD, hS, hl⟩
  have hP : va_P G.1 vwCl (wP G ad sd hd md rd be er ++ (wS G sd inp otp tc fc on ze ou wd lo up ++ (wH G hd hc sa sv ++ (wD G md ab ++ (wR G rd tr rt ++ (wB G be beD kn ct bu bl tu tl bd bm d0 d1 d2 d3 d4 d5)))))) H := hP
  have hD : va_D A (wP G ad sd hd md rd be er ++ (wS G sd inp otp tc fc on ze ou wd lo up ++ (wH G hd hc sa sv ++ (wD G md ab ++ (wR G rd tr rt ++ (wB G be beD kn ct bu bl tu tl bd bm d0 d1 d2 d3 d4 d5)))))) := hD
  have hl : lv_has ls 6 [(0, .ref (ad 0)), (3, .long x2), (5, .int x3)] := hl
  have h := hst6 n9 x2 x3 hI
  refine lv_iload hx hb dX5_mixBest_16 (lv_at hl 2 rfl) ?_
  refine lv_aload_n hx hb dX5_mixBest_18 rfl (lv_at hl 0 rfl) ?_
  refine va_get (D := G.1) (ci := 5) (v := .ref (be 0)) (C := RX5) (T := TX5) (N := 6) hx hb hts hinX5 hown hK.1 hP.l 0 rfl rfl 4 (by decide) (hts (.fieldLink RX5 40 "PlaFolder" "best" "LPlaFolder$BestFolding;") (by decide +kernel)) (fun _ h9 => h9) rfl dX5_mixBest_19 ?_
  refine va_getN (D := G.1) (ci := 0) (v := .int ct) (C := RX0) (T := TX0) (N := 9) (host := "PlaFolder") hx hb hts hinX0 hown hK.1 hP.r.r.r.r.r 0 rfl rfl 1 (by decide) (hK.2.F 14 (q := ("PlaFolder", 166, "PlaFolder$BestFolding", "count", "I", "PlaFolder")) rfl) (fun _ h9 => h9) rfl dX5_mixBest_22 ?_
  refine lv_icmp_ge (tgt := 66) hx hb dX5_mixBest_25 (by decide) (fun c_10 => ?_) (fun c_10 => ?_)
  · have h := h.1 c_10
    refine lv_lload_n hx hb dX5_mixBest_66 rfl (lv_at hl 1 rfl) ?_
    exact W.lret hx hb hr (fun t ht hW => ⟨⟨_, (), rfl, h, by rw [ht]; exact hP, hD⟩, hS.F ht⟩) hS.2.2 dX5_mixBest_67
  · have h := h.2 c_10
    refine lv_lload_n hx hb dX5_mixBest_28 rfl (lv_at hl 1 rfl) ?_
    refine lv_aload_n hx hb dX5_mixBest_29 rfl (lv_at hl 0 rfl) ?_
    refine va_get (D := G.1) (ci := 5) (v := .ref (be 0)) (C := RX5) (T := TX5) (N := 6) hx hb hts hinX5 hown hK.1 hP.l 0 rfl rfl 4 (by decide) (hts (.fieldLink RX5 40 "PlaFolder" "best" "LPlaFolder$BestFolding;") (by decide +kernel)) (fun _ h9 => h9) rfl dX5_mixBest_30 ?_
    refine va_getN (D := G.1) (ci := 0) (v := .ref (be 1)) (C := RX0) (T := TX0) (N := 9) (host := "PlaFolder") hx hb hts hinX0 hown hK.1 hP.r.r.r.r.r 0 rfl rfl 2 (by decide) (hK.2.F 15 (q := ("PlaFolder", 169, "PlaFolder$BestFolding", "upper", "[I", "PlaFolder")) rfl) (fun _ h9 => h9) rfl dX5_mixBest_33 ?_
    refine lv_iload hx hb dX5_mixBest_36 (lv_at hl 2 rfl) ?_
    obtain ⟨hi11, h⟩ := h
    refine x_iald hx hb hK hP.r.r.r.r.r 1 rfl hi11 rfl dX5_mixBest_38 ?_
    refine lv_i2l (v := (bu x3.toNatClampNeg).toInt64) hx hb dX5_mixBest_39 rfl ?_
    refine kp_l (wr := wP G ad sd hd md rd be er ++ (wS G sd inp otp tc fc on ze ou wd lo up ++ (wH G hd hc sa sv ++ (wD G md ab ++ (wR G rd tr rt ++ (wB G be beD kn ct bu bl tu tl bd bm d0 d1 d2 d3 d4 d5)))))) (va_runS (As := [.long x2, .long ((bu x3.toNatClampNeg).toInt64)]) (rest := []) ⟨hx, hb, hml, hown, hts⟩ (c_X5_mix l G  _  x2 ((bu x3.toNatClampNeg).toInt64) h) (va_cwS 2 hts gX5_mixBest_X5_mix rfl rfl rfl (by decide +kernel) ⟨Nat.le_of_ble_eq_true rfl, Nat.le_of_ble_eq_true rfl⟩) (kpSp hK hP hD hZ hS hA (pm_nil _)) rfl rfl hl.1 rfl (lv_room (Nat.le_of_ble_eq_true rfl)) dX5_mixBest_40 ⟨Nat.zero_le _, Nat.zero_le _⟩) hP hD hS hA (pm_nil _) (fun r12 w19 H locs h hP hD hS => ?_)
    have hP : va_P G.1 vwCl (wP G ad sd hd md rd be er ++ (wS G sd inp otp tc fc on ze ou wd lo up ++ (wH G hd hc sa sv ++ (wD G md ab ++ (wR G rd tr rt ++ (wB G be beD kn ct bu bl tu tl bd bm d0 d1 d2 d3 d4 d5)))))) H := hP.perm (pm_nil _).symm
    have hD : va_D A (wP G ad sd hd md rd be er ++ (wS G sd inp otp tc fc on ze ou wd lo up ++ (wH G hd hc sa sv ++ (wD G md ab ++ (wR G rd tr rt ++ (wB G be beD kn ct bu bl tu tl bd bm d0 d1 d2 d3 d4 d5)))))) := hD.perm (pm_nil _).symm
    try dsimp only at h
    refine lv_lstore_n (lv' := [(3, .long r12), (0, .ref (ad 0)), (5, .int x3)]) hx hb dX5_mixBest_43 rfl hl (by decide) rfl (fun ls hl => ?_)
    refine lv_lload_n hx hb dX5_mixBest_44 rfl (lv_at hl 0 rfl) ?_
    refine lv_aload_n hx hb dX5_mixBest_45 rfl (lv_at hl 1 rfl) ?_
    refine va_get (D := G.1) (ci := 5) (v := .ref (be 0)) (C := RX5) (T := TX5) (N := 6) hx hb hts hinX5 hown hK.1 hP.l 0 rfl rfl 4 (by decide) (hts (.fieldLink RX5 40 "PlaFolder" "best" "LPlaFolder$BestFolding;") (by decide +kernel)) (fun _ h9 => h9) rfl dX5_mixBest_46 ?_
    refine va_getN (D := G.1) (ci := 0) (v := .ref (be 2)) (C := RX0) (T := TX0) (N := 9) (host := "PlaFolder") hx hb hts hinX0 hown hK.1 hP.r.r.r.r.r 0 rfl rfl 3 (by decide) (hK.2.F 16 (q := ("PlaFolder", 172, "PlaFolder$BestFolding", "lower", "[I", "PlaFolder")) rfl) (fun _ h9 => h9) rfl dX5_mixBest_49 ?_
    refine lv_iload hx hb dX5_mixBest_52 (lv_at hl 2 rfl) ?_
    obtain ⟨hi13, h⟩ := h
    refine x_iald hx hb hK hP.r.r.r.r.r 2 rfl hi13 rfl dX5_mixBest_54 ?_
    refine lv_i2l (v := (bl x3.toNatClampNeg).toInt64) hx hb dX5_mixBest_55 rfl ?_
    refine kp_l (wr := wP G ad sd hd md rd be er ++ (wS G sd inp otp tc fc on ze ou wd lo up ++ (wH G hd hc sa sv ++ (wD G md ab ++ (wR G rd tr rt ++ (wB G be beD kn ct bu bl tu tl bd bm d0 d1 d2 d3 d4 d5)))))) (va_runS (As := [.long r12, .long ((bl x3.toNatClampNeg).toInt64)]) (rest := []) ⟨hx, hb, hml, hown, hts⟩ (c_X5_mix l G  _  r12 ((bl x3.toNatClampNeg).toInt64) h) (va_cwS 2 hts gX5_mixBest_X5_mix rfl rfl rfl (by decide +kernel) ⟨Nat.le_of_ble_eq_true rfl, Nat.le_of_ble_eq_true rfl⟩) (kpSp hK hP hD hZ hS hA (pm_nil _)) rfl rfl hl.1 rfl (lv_room (Nat.le_of_ble_eq_true rfl)) dX5_mixBest_56 ⟨Nat.zero_le _, Nat.zero_le _⟩) hP hD hS hA (pm_nil _) (fun r14 w18 H locs h hP hD hS => ?_)
    have hP : va_P G.1 vwCl (wP G ad sd hd md rd be er ++ (wS G sd inp otp tc fc on ze ou wd lo up ++ (wH G hd hc sa sv ++ (wD G md ab ++ (wR G rd tr rt ++ (wB G be beD kn ct bu bl tu tl bd bm d0 d1 d2 d3 d4 d5)))))) H := hP.perm (pm_nil _).symm
    have hD : va_D A (wP G ad sd hd md rd be er ++ (wS G sd inp otp tc fc on ze ou wd lo up ++ (wH G hd hc sa sv ++ (wD G md ab ++ (wR G rd tr rt ++ (wB G be beD kn ct bu bl tu tl bd bm d0 d1 d2 d3 d4 d5)))))) := hD.perm (pm_nil _).symm
    try dsimp only at h
    refine lv_lstore_n (lv' := [(3, .long r14), (0, .ref (ad 0)), (5, .int x3)]) hx hb dX5_mixBest_59 rfl hl (by decide) rfl (fun ls hl => ?_)
    refine lv_iinc (v := (x3 + (1 : Int32))) (lv' := [(5, .int (x3 + (1 : Int32))), (3, .long r14), (0, .ref (ad 0))]) hx hb dX5_mixBest_60 hl (k := 2) rfl rfl (by decide) rfl (fun ls hl => ?_)
    refine lv_goto (tgt := 16) hx hb dX5_mixBest_63 (by decide) ?_
    obtain ⟨n16, hn15, hI17⟩ := h
    exact ih8 n16 (r14, (x3 + (1 : Int32))) hn15 hI17 _ _ _ ⟨hP, hD, hS, lv_sub hl [2, 1, 0] rfl⟩
def wp_X5_digest (er : Nat → Int32) (inp : Int32) (otp : Int32) (tc : Int32) (fc : Int32) (on : Nat → Int32) (ze : Nat → Int32) (ou : Nat → Int32) (wd : Nat → Int64) (lo : Nat → Int32) (up : Nat → Int32) (hc : Int32) (rt : Nat → Int32) (kn : Int32) (ct : Int32) (bu : Nat → Int32) (bl : Nat → Int32) (tu : Nat → Int32) (tl : Nat → Int32) (bd : Nat → Int32) (bm : Nat → Int32) (d0 : Nat → Int32) (d1 : Nat → Int32) (d2 : Nat → Int32) (d3 : Nat → Int32) (d4 : Nat → Int32) (d5 : Nat → Int32) (K : Int64 → Int32 → Int32 → (Nat → Int32) → (Nat → Int32) → (Nat → Int32) → (Nat → Int32) → (Nat → Int32) → (Nat → Int32) → (Nat → Int32) → (Nat → Int32) → (Nat → Int32) → (Nat → Int32) → (Nat → Int32) → Prop) : Prop :=
 wp_X5_findBest inp otp tc on ze ou kn ct bu bl tu tl bd bm d0 d1 d2 d3 d4 d5 (fun (u2 : Int32) (u3 : Int32) (u4 : Nat → Int32) (u5 : Nat → Int32) (u6 : Nat → Int32) (u7 : Nat → Int32) (u8 : Nat → Int32) (u9 : Nat → Int32) (u10 : Nat → Int32) (u11 : Nat → Int32) (u12 : Nat → Int32) (u13 : Nat → Int32) (u14 : Nat → Int32) => (Lp2 (2713 : Int64) (0 : Int32) (fun (x15 : Int64) (x16 : Int32) (J20 : Int64 → Int32 → Prop) => (((nI 5) ≤ x16 → wp_X5_mix x15 inp.toInt64 (fun (r24 : Int64) => wp_X5_mix r24 otp.toInt64 (fun (r25 : Int64) => wp_X5_mix r25 tc.toInt64 (fun (r26 : Int64) => wp_X5_mixTerms r26 otp tc on ze ou wd rt (fun (r27 : Int64) => wp_X5_mixColumns r27 inp otp tc on ze ou lo up rt (fun (r28 : Int64) => wp_X5_area inp otp tc fc (fun (r29 : Int32) => wp_X5_mix r28 r29.toInt64 (fun (r30 : Int64) => wp_X5_mixBest r30 u3 u4 u5 (fun (r31 : Int64) => wp_X5_mix r31 hc.toInt64 (fun (r32 : Int64) => K r32 u2 u3 u4 u5 u6 u7 u8 u9 u10 u11 u12 u13 u14)))))))))) ∧
 (¬ ((nI 5) ≤ x16) → (vp_in x16 5 ∧ wp_X5_mix x15 ((er x16.toNatClampNeg).toInt64) (fun (r43 : Int64) => J20 r43 (x16 + (1 : Int32)))))))))
abbrev rm_X5_digest : Room := { frames := 16, cells := 0, slots := 0, locals := 393 }
set_option maxHeartbeats 4000000 in
set_option maxRecDepth 100000 in
theorem c_X5_digest (l : Launch) (G : GG) (ad : Nat → Nat) (sd : Nat → Nat) (hd : Nat → Nat) (md : Nat → Nat) (rd : Nat → Nat) (be : Nat → Nat) (beD : Nat → Nat → Nat) (sz : Nat) (er : Nat → Int32) (inp : Int32) (otp : Int32) (tc : Int32) (fc : Int32) (on : Nat → Int32) (ze : Nat → Int32) (ou : Nat → Int32) (wd : Nat → Int64) (lo : Nat → Int32) (up : Nat → Int32) (hc : Int32) (sa : Nat → Nat → Nat) (sv : Nat → SS) (ab : Nat → Int32) (tr : Nat → Int32) (rt : Nat → Int32) (kn : Int32) (ct : Int32) (bu : Nat → Int32) (bl : Nat → Int32) (tu : Nat → Int32) (tl : Nat → Int32) (bd : Nat → Int32) (bm : Nat → Int32) (d0 : Nat → Int32) (d1 : Nat → Int32) (d2 : Nat → Int32) (d3 : Nat → Int32) (d4 : Nat → Int32) (d5 : Nat → Int32) {K : Int64 → Int32 → Int32 → (Nat → Int32) → (Nat → Int32) → (Nat → Int32) → (Nat → Int32) → (Nat → Int32) → (Nat → Int32) → (Nat → Int32) → (Nat → Int32) → (Nat → Int32) → (Nat → Int32) → (Nat → Int32) → Prop} (h : wp_X5_digest er inp otp tc fc on ze ou wd lo up hc rt kn ct bu bl tu tl bd bm d0 d1 d2 d3 d4 d5 K) : CL l yX5_digest wsX5_digest rm_X5_digest G [.ref (ad 0)] (wP G ad sd hd md rd be er ++ (wS G sd inp otp tc fc on ze ou wd lo up ++ (wH G hd hc sa sv ++ (wD G md ab ++ (wR G rd tr rt ++ (wB G be beD kn ct bu bl tu tl bd bm d0 d1 d2 d3 d4 d5)))))) sz (fun u : Int32 × Int32 × (Nat → Int32) × (Nat → Int32) × (Nat → Int32) × (Nat → Int32) × (Nat → Int32) × (Nat → Int32) × (Nat → Int32) × (Nat → Int32) × (Nat → Int32) × (Nat → Int32) × (Nat → Int32) => wP G ad sd hd md rd be er ++ (wS G sd inp otp tc fc on ze ou wd lo up ++ (wH G hd hc sa sv ++ (wD G md ab ++ (wR G rd tr rt ++ (wB G be beD u.1 u.2.1 u.2.2.1 u.2.2.2.1 u.2.2.2.2.1 u.2.2.2.2.2.1 u.2.2.2.2.2.2.1 u.2.2.2.2.2.2.2.1 d0 u.2.2.2.2.2.2.2.2.1 u.2.2.2.2.2.2.2.2.2.1 u.2.2.2.2.2.2.2.2.2.2.1 u.2.2.2.2.2.2.2.2.2.2.2.1 u.2.2.2.2.2.2.2.2.2.2.2.2)))))) (fun r u => K r u.1 u.2.1 u.2.2.1 u.2.2.2.1 u.2.2.2.2.1 u.2.2.2.2.2.1 u.2.2.2.2.2.2.1 u.2.2.2.2.2.2.2.1 u.2.2.2.2.2.2.2.2.1 u.2.2.2.2.2.2.2.2.2.1 u.2.2.2.2.2.2.2.2.2.2.1 u.2.2.2.2.2.2.2.2.2.2.2.1 u.2.2.2.2.2.2.2.2.2.2.2.2) := by
  refine Met.ofW (cc := cX5_digest) (maxL := 4) (ret := (some .long)) (by decide) rfl ?_
  intro p e s m args below meth c s₁ B hml hv
  obtain ⟨rfl, hsz, hP, hK, hD0, hZ⟩ := hv
  have hx := B.exec
  have hb := B.bytes
  have hr := B.returns
  have hts := atoms_spec (ws := wsX5_digest) B.pre
  have hown : s.vm.findClass RX5 = some m.cls := findClass_of_methodNamed B.named
  have hlocks := B.notSynchronized
  subst hsz
  have hD := hD0.self (sz := s.heap.size)
  generalize hAe : va_A (wP G ad sd hd md rd be er ++ (wS G sd inp otp tc fc on ze ou wd lo up ++ (wH G hd hc sa sv ++ (wD G md ab ++ (wR G rd tr rt ++ (wB G be beD kn ct bu bl tu tl bd bm d0 d1 d2 d3 d4 d5)))))) s.heap.size = A at hD hZ ⊢
  have hA : ∀ q : Nat, s.heap.size ≤ q → A q := fun q h => by rw [← hAe]; exact Or.inr h
  have hS : va_S A s.heap s.heap [] := va_S.rf
  have hl := lv_entry ([.ref (ad 0)]) (n := 4) (Nat.le_of_ble_eq_true rfl)
  rw [lg_entry_eq]
  generalize (lg_sl ([.ref (ad 0)]) ++ List.replicate (4 - (lg_sl ([.ref (ad 0)])).length) Slot.unset).toArray = ls at hl ⊢
  have hl : lv_has ls 4 [(0, .ref (ad 0))] := hl
  unfold wp_X5_digest at h
  have hinX2 : ∀ w ∈ wsX20, w ∈ wsX5_digest := by decide +kernel
  have hinX4 : ∀ w ∈ wsX40, w ∈ wsX5_digest := by decide +kernel
  have hinX5 : ∀ w ∈ wsX50, w ∈ wsX5_digest := by decide +kernel
  refine lv_aload_n hx hb dX5_digest_0 rfl (lv_at hl 0 rfl) ?_
  refine kp_v (wr := ([] : va_W)) (va_runV (As := []) (rest := []) ⟨hx, hb, hml, hown, hts⟩ (c_X5_findBest l G ad sd hd md rd be beD _ er inp otp tc fc on ze ou wd lo up hc sa sv ab tr rt kn ct bu bl tu tl bd bm d0 d1 d2 d3 d4 d5  h) (cwV 0 hts gX5_digest_X5_findBest rfl rfl rfl (by decide +kernel) ⟨Nat.le_of_ble_eq_true rfl, Nat.le_of_ble_eq_true rfl⟩) (kpVp hK hP hD hZ hS hA (pm_all _) (q0 := 0) (ci := 5) rfl rfl) rfl rfl hl.1 rfl (lv_room (Nat.le_of_ble_eq_true rfl)) dX5_digest_1 ⟨Nat.zero_le _, Nat.zero_le _⟩) hP hD hS hA (pm_all _) (fun w48 H locs h hP hD hS => ?_)
  obtain ⟨u2, u3, u4, u5, u6, u7, u8, u9, u10, u11, u12, u13, u14⟩ := w48
  have hP : va_P G.1 vwCl (wP G ad sd hd md rd be er ++ (wS G sd inp otp tc fc on ze ou wd lo up ++ (wH G hd hc sa sv ++ (wD G md ab ++ (wR G rd tr rt ++ (wB G be beD u2 u3 u4 u5 u6 u7 u8 u9 d0 u10 u11 u12 u13 u14)))))) H := hP.perm (pm_all _).symm
  have hD : va_D A (wP G ad sd hd md rd be er ++ (wS G sd inp otp tc fc on ze ou wd lo up ++ (wH G hd hc sa sv ++ (wD G md ab ++ (wR G rd tr rt ++ (wB G be beD u2 u3 u4 u5 u6 u7 u8 u9 d0 u10 u11 u12 u13 u14)))))) := hD.perm (pm_all _).symm
  try dsimp only at h
  refine lv_ldc2 (v := (2713 : Int64)) hx hb hown (hts (.constantLong RX5 186 (2713)) (by decide +kernel)) dX5_digest_4 ?_
  refine lv_lstore_n (lv' := [(1, .long (2713 : Int64)), (0, .ref (ad 0))]) hx hb dX5_digest_7 rfl hl (by decide) rfl (fun ls hl => ?_)
  refine lv_iconst (v := (0 : Int32)) hx hb dX5_digest_8 (by decide) ?_
  refine lv_istore_n (lv' := [(3, .int (0 : Int32)), (1, .long (2713 : Int64)), (0, .ref (ad 0))]) hx hb dX5_digest_9 rfl hl (by decide) rfl (fun ls hl => ?_)
  obtain ⟨I17, n18, h0, hst19⟩ := h
  refine loopW (σ := Int64 × Int32) (P := fun q H locs ls => va_P G.1 vwCl (wP G ad sd hd md rd be er ++ (wS G sd inp otp tc fc on ze ou wd lo up ++ (wH G hd hc sa sv ++ (wD G md ab ++ (wR G rd tr rt ++ (wB G be beD u2 u3 u4 u5 u6 u7 u8 u9 d0 u10 u11 u12 u13 u14)))))) H ∧ va_D A (wP G ad sd hd md rd be er ++ (wS G sd inp otp tc fc on ze ou wd lo up ++ (wH G hd hc sa sv ++ (wD G md ab ++ (wR G rd tr rt ++ (wB G be beD u2 u3 u4 u5 u6 u7 u8 u9 d0 u10 u11 u12 u13 u14)))))) ∧ va_S A s.heap H locs ∧ lv_has ls 4 [(0, .ref (ad 0)), (1, .long q.1), (3, .int q.2)]) (I := fun n q => I17 n q.1 q.2) n18 ((2713 : Int64), (0 : Int32)) h0 _ _ _ ⟨hP, hD, hS, lv_sub hl [2, 1, 0] rfl⟩ ?_
  rintro n22 ⟨x15, x16⟩ hI ih21 H locs ls ⟨hP, hD, hS, hl⟩
  have hP : va_P G.1 vwCl (wP G ad sd hd md rd be er ++ (wS G sd inp otp tc fc on ze ou wd lo up ++ (wH G hd hc sa sv ++ (wD G md ab ++ (wR G rd tr rt ++ (wB G be beD u2 u3 u4 u5 u6 u7 u8 u9 d0 u10 u11 u12 u13 u14)))))) H := hP
  have hD : va_D A (wP G ad sd hd md rd be er ++ (wS G sd inp otp tc fc on ze ou wd lo up ++ (wH G hd hc sa sv ++ (wD G md ab ++ (wR G rd tr rt ++ (wB G be beD u2 u3 u4 u5 u6 u7 u8 u9 d0 u10 u11 u12 u13 u14)))))) := hD
  have hl : lv_has ls 4 [(0, .ref (ad 0)), (1, .long x15), (3, .int x16)] := hl
  have h := hst19 n22 x15 x16 hI
  refine lv_iload_n hx hb dX5_digest_10 rfl (lv_at hl 2 rfl) ?_
  refine lv_iconst (v := (nI 5)) hx hb dX5_digest_11 (by decide) ?_
  refine lv_icmp_ge (tgt := 33) hx hb dX5_digest_12 (by decide) (fun c_23 => ?_) (fun c_23 => ?_)
  · have h := h.1 c_23
    refine lv_lload_n hx hb dX5_digest_33 rfl (lv_at hl 1 rfl) ?_
    refine lv_aload_n hx hb dX5_digest_34 rfl (lv_at hl 0 rfl) ?_
    refine va_get (D := G.1) (ci := 5) (v := .ref (sd 0)) (C := RX5) (T := TX5) (N := 6) hx hb hts hinX5 hown hK.1 hP.l 0 rfl rfl 0 (by decide) (hts (.fieldLink RX5 12 "PlaFolder" "state" "LPlaFolder$State;") (by decide +kernel)) (fun _ h9 => h9) rfl dX5_digest_35 ?_
    refine va_getN (D := G.1) (ci := 4) (v := .int inp) (C := RX4) (T := TX4) (N := 10) (host := "PlaFolder") hx hb hts hinX4 hown hK.1 hP.r.l 0 rfl rfl 0 (by decide) (hK.2.F 0 (q := ("PlaFolder", 94, "PlaFolder$State", "inputs", "I", "PlaFolder")) rfl) (fun _ h9 => h9) rfl dX5_digest_38 ?_
    refine lv_i2l (v := inp.toInt64) hx hb dX5_digest_41 rfl ?_
    refine kp_l (wr := wP G ad sd hd md rd be er ++ (wS G sd inp otp tc fc on ze ou wd lo up ++ (wH G hd hc sa sv ++ (wD G md ab ++ (wR G rd tr rt ++ (wB G be beD u2 u3 u4 u5 u6 u7 u8 u9 d0 u10 u11 u12 u13 u14)))))) (va_runS (As := [.long x15, .long inp.toInt64]) (rest := []) ⟨hx, hb, hml, hown, hts⟩ (c_X5_mix l G  _  x15 inp.toInt64 h) (va_cwS 2 hts gX5_digest_X5_mix rfl rfl rfl (by decide +kernel) ⟨Nat.le_of_ble_eq_true rfl, Nat.le_of_ble_eq_true rfl⟩) (kpSp hK hP hD hZ hS hA (pm_nil _)) rfl rfl hl.1 rfl (lv_room (Nat.le_of_ble_eq_true rfl)) dX5_digest_42 ⟨Nat.zero_le _, Nat.zero_le _⟩) hP hD hS hA (pm_nil _) (fun r24 w41 H locs h hP hD hS => ?_)
    have hP : va_P G.1 vwCl (wP G ad sd hd md rd be er ++ (wS G sd inp otp tc fc on ze ou wd lo up ++ (wH G hd hc sa sv ++ (wD G md ab ++ (wR G rd tr rt ++ (wB G be beD u2 u3 u4 u5 u6 u7 u8 u9 d0 u10 u11 u12 u13 u14)))))) H := hP.perm (pm_nil _).symm
    have hD : va_D A (wP G ad sd hd md rd be er ++ (wS G sd inp otp tc fc on ze ou wd lo up ++ (wH G hd hc sa sv ++ (wD G md ab ++ (wR G rd tr rt ++ (wB G be beD u2 u3 u4 u5 u6 u7 u8 u9 d0 u10 u11 u12 u13 u14)))))) := hD.perm (pm_nil _).symm
    try dsimp only at h
    refine lv_lstore_n (lv' := [(1, .long r24), (0, .ref (ad 0)), (3, .int x16)]) hx hb dX5_digest_45 rfl hl (by decide) rfl (fun ls hl => ?_)
    refine lv_lload_n hx hb dX5_digest_46 rfl (lv_at hl 0 rfl) ?_
    refine lv_aload_n hx hb dX5_digest_47 rfl (lv_at hl 1 rfl) ?_
    refine va_get (D := G.1) (ci := 5) (v := .ref (sd 0)) (C := RX5) (T := TX5) (N := 6) hx hb hts hinX5 hown hK.1 hP.l 0 rfl rfl 0 (by decide) (hts (.fieldLink RX5 12 "PlaFolder" "state" "LPlaFolder$State;") (by decide +kernel)) (fun _ h9 => h9) rfl dX5_digest_48 ?_
    refine va_getN (D := G.1) (ci := 4) (v := .int otp) (C := RX4) (T := TX4) (N := 10) (host := "PlaFolder") hx hb hts hinX4 hown hK.1 hP.r.l 0 rfl rfl 1 (by decide) (hK.2.F 1 (q := ("PlaFolder", 100, "PlaFolder$State", "outputs", "I", "PlaFolder")) rfl) (fun _ h9 => h9) rfl dX5_digest_51 ?_
    refine lv_i2l (v := otp.toInt64) hx hb dX5_digest_54 rfl ?_
    refine kp_l (wr := wP G ad sd hd md rd be er ++ (wS G sd inp otp tc fc on ze ou wd lo up ++ (wH G hd hc sa sv ++ (wD G md ab ++ (wR G rd tr rt ++ (wB G be beD u2 u3 u4 u5 u6 u7 u8 u9 d0 u10 u11 u12 u13 u14)))))) (va_runS (As := [.long r24, .long otp.toInt64]) (rest := []) ⟨hx, hb, hml, hown, hts⟩ (c_X5_mix l G  _  r24 otp.toInt64 h) (va_cwS 2 hts gX5_digest_X5_mix rfl rfl rfl (by decide +kernel) ⟨Nat.le_of_ble_eq_true rfl, Nat.le_of_ble_eq_true rfl⟩) (kpSp hK hP hD hZ hS hA (pm_nil _)) rfl rfl hl.1 rfl (lv_room (Nat.le_of_ble_eq_true rfl)) dX5_digest_55 ⟨Nat.zero_le _, Nat.zero_le _⟩) hP hD hS hA (pm_nil _) (fun r25 w40 H locs h hP hD hS => ?_)
    have hP : va_P G.1 vwCl (wP G ad sd hd md rd be er ++ (wS G sd inp otp tc fc on ze ou wd lo up ++ (wH G hd hc sa sv ++ (wD G md ab ++ (wR G rd tr rt ++ (wB G be beD u2 u3 u4 u5 u6 u7 u8 u9 d0 u10 u11 u12 u13 u14)))))) H := hP.perm (pm_nil _).symm
    have hD : va_D A (wP G ad sd hd md rd be er ++ (wS G sd inp otp tc fc on ze ou wd lo up ++ (wH G hd hc sa sv ++ (wD G md ab ++ (wR G rd tr rt ++ (wB G be beD u2 u3 u4 u5 u6 u7 u8 u9 d0 u10 u11 u12 u13 u14)))))) := hD.perm (pm_nil _).symm
    try dsimp only at h
    refine lv_lstore_n (lv' := [(1, .long r25), (0, .ref (ad 0)), (3, .int x16)]) hx hb dX5_digest_58 rfl hl (by decide) rfl (fun ls hl => ?_)
    refine lv_lload_n hx hb dX5_digest_59 rfl (lv_at hl 0 rfl) ?_
    refine lv_aload_n hx hb dX5_digest_60 rfl (lv_at hl 1 rfl) ?_
    refine va_get (D := G.1) (ci := 5) (v := .ref (sd 0)) (C := RX5) (T := TX5) (N := 6) hx hb hts hinX5 hown hK.1 hP.l 0 rfl rfl 0 (by decide) (hts (.fieldLink RX5 12 "PlaFolder" "state" "LPlaFolder$State;") (by decide +kernel)) (fun _ h9 => h9) rfl dX5_digest_61 ?_
    refine va_getN (D := G.1) (ci := 4) (v := .int tc) (C := RX4) (T := TX4) (N := 10) (host := "PlaFolder") hx hb hts hinX4 hown hK.1 hP.r.l 0 rfl rfl 2 (by decide) (hK.2.F 2 (q := ("PlaFolder", 56, "PlaFolder$State", "termCount", "I", "PlaFolder")) rfl) (fun _ h9 => h9) rfl dX5_digest_64 ?_
    refine lv_i2l (v := tc.toInt64) hx hb dX5_digest_67 rfl ?_
    refine kp_l (wr := wP G ad sd hd md rd be er ++ (wS G sd inp otp tc fc on ze ou wd lo up ++ (wH G hd hc sa sv ++ (wD G md ab ++ (wR G rd tr rt ++ (wB G be beD u2 u3 u4 u5 u6 u7 u8 u9 d0 u10 u11 u12 u13 u14)))))) (va_runS (As := [.long r25, .long tc.toInt64]) (rest := []) ⟨hx, hb, hml, hown, hts⟩ (c_X5_mix l G  _  r25 tc.toInt64 h) (va_cwS 2 hts gX5_digest_X5_mix rfl rfl rfl (by decide +kernel) ⟨Nat.le_of_ble_eq_true rfl, Nat.le_of_ble_eq_true rfl⟩) (kpSp hK hP hD hZ hS hA (pm_nil _)) rfl rfl hl.1 rfl (lv_room (Nat.le_of_ble_eq_true rfl)) dX5_digest_68 ⟨Nat.zero_le _, Nat.zero_le _⟩) hP hD hS hA (pm_nil _) (fun r26 w39 H locs h hP hD hS => ?_)
    have hP : va_P G.1 vwCl (wP G ad sd hd md rd be er ++ (wS G sd inp otp tc fc on ze ou wd lo up ++ (wH G hd hc sa sv ++ (wD G md ab ++ (wR G rd tr rt ++ (wB G be beD u2 u3 u4 u5 u6 u7 u8 u9 d0 u10 u11 u12 u13 u14)))))) H := hP.perm (pm_nil _).symm
    have hD : va_D A (wP G ad sd hd md rd be er ++ (wS G sd inp otp tc fc on ze ou wd lo up ++ (wH G hd hc sa sv ++ (wD G md ab ++ (wR G rd tr rt ++ (wB G be beD u2 u3 u4 u5 u6 u7 u8 u9 d0 u10 u11 u12 u13 u14)))))) := hD.perm (pm_nil _).symm
    try dsimp only at h
    refine lv_lstore_n (lv' := [(1, .long r26), (0, .ref (ad 0)), (3, .int x16)]) hx hb dX5_digest_71 rfl hl (by decide) rfl (fun ls hl => ?_)
    refine lv_aload_n hx hb dX5_digest_72 rfl (lv_at hl 1 rfl) ?_
    refine lv_lload_n hx hb dX5_digest_73 rfl (lv_at hl 0 rfl) ?_
    refine kp_l (wr := ([] : va_W)) (va_runV (As := [.long r26]) (rest := []) ⟨hx, hb, hml, hown, hts⟩ (c_X5_mixTerms l G ad sd hd md rd be beD _ er inp otp tc fc on ze ou wd lo up hc sa sv ab tr rt u2 u3 u4 u5 u6 u7 u8 u9 d0 u10 u11 u12 u13 u14 r26 h) (cwV 1 hts gX5_digest_X5_mixTerms rfl rfl rfl (by decide +kernel) ⟨Nat.le_of_ble_eq_true rfl, Nat.le_of_ble_eq_true rfl⟩) (kpVp hK hP hD hZ hS hA (pm_all _) (q0 := 0) (ci := 5) rfl rfl) rfl rfl hl.1 rfl (lv_room (Nat.le_of_ble_eq_true rfl)) dX5_digest_74 ⟨Nat.zero_le _, Nat.zero_le _⟩) hP hD hS hA (pm_all _) (fun r27 w38 H locs h hP hD hS => ?_)
    have hP : va_P G.1 vwCl (wP G ad sd hd md rd be er ++ (wS G sd inp otp tc fc on ze ou wd lo up ++ (wH G hd hc sa sv ++ (wD G md ab ++ (wR G rd tr rt ++ (wB G be beD u2 u3 u4 u5 u6 u7 u8 u9 d0 u10 u11 u12 u13 u14)))))) H := hP.perm (pm_all _).symm
    have hD : va_D A (wP G ad sd hd md rd be er ++ (wS G sd inp otp tc fc on ze ou wd lo up ++ (wH G hd hc sa sv ++ (wD G md ab ++ (wR G rd tr rt ++ (wB G be beD u2 u3 u4 u5 u6 u7 u8 u9 d0 u10 u11 u12 u13 u14)))))) := hD.perm (pm_all _).symm
    try dsimp only at h
    refine lv_lstore_n (lv' := [(1, .long r27), (0, .ref (ad 0)), (3, .int x16)]) hx hb dX5_digest_77 rfl hl (by decide) rfl (fun ls hl => ?_)
    refine lv_aload_n hx hb dX5_digest_78 rfl (lv_at hl 1 rfl) ?_
    refine lv_lload_n hx hb dX5_digest_79 rfl (lv_at hl 0 rfl) ?_
    refine kp_l (wr := ([] : va_W)) (va_runV (As := [.long r27]) (rest := []) ⟨hx, hb, hml, hown, hts⟩ (c_X5_mixColumns l G ad sd hd md rd be beD _ er inp otp tc fc on ze ou wd lo up hc sa sv ab tr rt u2 u3 u4 u5 u6 u7 u8 u9 d0 u10 u11 u12 u13 u14 r27 h) (cwV 1 hts gX5_digest_X5_mixColumns rfl rfl rfl (by decide +kernel) ⟨Nat.le_of_ble_eq_true rfl, Nat.le_of_ble_eq_true rfl⟩) (kpVp hK hP hD hZ hS hA (pm_all _) (q0 := 0) (ci := 5) rfl rfl) rfl rfl hl.1 rfl (lv_room (Nat.le_of_ble_eq_true rfl)) dX5_digest_80 ⟨Nat.zero_le _, Nat.zero_le _⟩) hP hD hS hA (pm_all _) (fun r28 w37 H locs h hP hD hS => ?_)
    have hP : va_P G.1 vwCl (wP G ad sd hd md rd be er ++ (wS G sd inp otp tc fc on ze ou wd lo up ++ (wH G hd hc sa sv ++ (wD G md ab ++ (wR G rd tr rt ++ (wB G be beD u2 u3 u4 u5 u6 u7 u8 u9 d0 u10 u11 u12 u13 u14)))))) H := hP.perm (pm_all _).symm
    have hD : va_D A (wP G ad sd hd md rd be er ++ (wS G sd inp otp tc fc on ze ou wd lo up ++ (wH G hd hc sa sv ++ (wD G md ab ++ (wR G rd tr rt ++ (wB G be beD u2 u3 u4 u5 u6 u7 u8 u9 d0 u10 u11 u12 u13 u14)))))) := hD.perm (pm_all _).symm
    try dsimp only at h
    refine lv_lstore_n (lv' := [(1, .long r28), (0, .ref (ad 0)), (3, .int x16)]) hx hb dX5_digest_83 rfl hl (by decide) rfl (fun ls hl => ?_)
    refine lv_lload_n hx hb dX5_digest_84 rfl (lv_at hl 0 rfl) ?_
    refine lv_aload_n hx hb dX5_digest_85 rfl (lv_at hl 1 rfl) ?_
    refine kp_i (wr := ([] : va_W)) (va_runV (As := []) (rest := [.long r28]) ⟨hx, hb, hml, hown, hts⟩ (c_X5_area l G ad sd hd md rd be beD _ er inp otp tc fc on ze ou wd lo up hc sa sv ab tr rt u2 u3 u4 u5 u6 u7 u8 u9 d0 u10 u11 u12 u13 u14  h) (cwV 0 hts gX5_digest_X5_area rfl rfl rfl (by decide +kernel) ⟨Nat.le_of_ble_eq_true rfl, Nat.le_of_ble_eq_true rfl⟩) (kpVp hK hP hD hZ hS hA (pm_all _) (q0 := 0) (ci := 5) rfl rfl) rfl rfl hl.1 rfl (lv_room (Nat.le_of_ble_eq_true rfl)) dX5_digest_86 ⟨Nat.zero_le _, Nat.zero_le _⟩) hP hD hS hA (pm_all _) (fun r29 w36 H locs h hP hD hS => ?_)
    have hP : va_P G.1 vwCl (wP G ad sd hd md rd be er ++ (wS G sd inp otp tc fc on ze ou wd lo up ++ (wH G hd hc sa sv ++ (wD G md ab ++ (wR G rd tr rt ++ (wB G be beD u2 u3 u4 u5 u6 u7 u8 u9 d0 u10 u11 u12 u13 u14)))))) H := hP.perm (pm_all _).symm
    have hD : va_D A (wP G ad sd hd md rd be er ++ (wS G sd inp otp tc fc on ze ou wd lo up ++ (wH G hd hc sa sv ++ (wD G md ab ++ (wR G rd tr rt ++ (wB G be beD u2 u3 u4 u5 u6 u7 u8 u9 d0 u10 u11 u12 u13 u14)))))) := hD.perm (pm_all _).symm
    try dsimp only at h
    refine lv_i2l (v := r29.toInt64) hx hb dX5_digest_89 rfl ?_
    refine kp_l (wr := wP G ad sd hd md rd be er ++ (wS G sd inp otp tc fc on ze ou wd lo up ++ (wH G hd hc sa sv ++ (wD G md ab ++ (wR G rd tr rt ++ (wB G be beD u2 u3 u4 u5 u6 u7 u8 u9 d0 u10 u11 u12 u13 u14)))))) (va_runS (As := [.long r28, .long r29.toInt64]) (rest := []) ⟨hx, hb, hml, hown, hts⟩ (c_X5_mix l G  _  r28 r29.toInt64 h) (va_cwS 2 hts gX5_digest_X5_mix rfl rfl rfl (by decide +kernel) ⟨Nat.le_of_ble_eq_true rfl, Nat.le_of_ble_eq_true rfl⟩) (kpSp hK hP hD hZ hS hA (pm_nil _)) rfl rfl hl.1 rfl (lv_room (Nat.le_of_ble_eq_true rfl)) dX5_digest_90 ⟨Nat.zero_le _, Nat.zero_le _⟩) hP hD hS hA (pm_nil _) (fun r30 w35 H locs h hP hD hS => ?_)
    have hP : va_P G.1 vwCl (wP G ad sd hd md rd be er ++ (wS G sd inp otp tc fc on ze ou wd lo up ++ (wH G hd hc sa sv ++ (wD G md ab ++ (wR G rd tr rt ++ (wB G be beD u2 u3 u4 u5 u6 u7 u8 u9 d0 u10 u11 u12 u13 u14)))))) H := hP.perm (pm_nil _).symm
    have hD : va_D A (wP G ad sd hd md rd be er ++ (wS G sd inp otp tc fc on ze ou wd lo up ++ (wH G hd hc sa sv ++ (wD G md ab ++ (wR G rd tr rt ++ (wB G be beD u2 u3 u4 u5 u6 u7 u8 u9 d0 u10 u11 u12 u13 u14)))))) := hD.perm (pm_nil _).symm
    try dsimp only at h
    refine lv_lstore_n (lv' := [(1, .long r30), (0, .ref (ad 0)), (3, .int x16)]) hx hb dX5_digest_93 rfl hl (by decide) rfl (fun ls hl => ?_)
    refine lv_aload_n hx hb dX5_digest_94 rfl (lv_at hl 1 rfl) ?_
    refine lv_lload_n hx hb dX5_digest_95 rfl (lv_at hl 0 rfl) ?_
    refine kp_l (wr := ([] : va_W)) (va_runV (As := [.long r30]) (rest := []) ⟨hx, hb, hml, hown, hts⟩ (c_X5_mixBest l G ad sd hd md rd be beD _ er inp otp tc fc on ze ou wd lo up hc sa sv ab tr rt u2 u3 u4 u5 u6 u7 u8 u9 d0 u10 u11 u12 u13 u14 r30 h) (cwV 1 hts gX5_digest_X5_mixBest rfl rfl rfl (by decide +kernel) ⟨Nat.le_of_ble_eq_true rfl, Nat.le_of_ble_eq_true rfl⟩) (kpVp hK hP hD hZ hS hA (pm_all _) (q0 := 0) (ci := 5) rfl rfl) rfl rfl hl.1 rfl (lv_room (Nat.le_of_ble_eq_true rfl)) dX5_digest_96 ⟨Nat.zero_le _, Nat.zero_le _⟩) hP hD hS hA (pm_all _) (fun r31 w34 H locs h hP hD hS => ?_)
    have hP : va_P G.1 vwCl (wP G ad sd hd md rd be er ++ (wS G sd inp otp tc fc on ze ou wd lo up ++ (wH G hd hc sa sv ++ (wD G md ab ++ (wR G rd tr rt ++ (wB G be beD u2 u3 u4 u5 u6 u7 u8 u9 d0 u10 u11 u12 u13 u14)))))) H := hP.perm (pm_all _).symm
    have hD : va_D A (wP G ad sd hd md rd be er ++ (wS G sd inp otp tc fc on ze ou wd lo up ++ (wH G hd hc sa sv ++ (wD G md ab ++ (wR G rd tr rt ++ (wB G be beD u2 u3 u4 u5 u6 u7 u8 u9 d0 u10 u11 u12 u13 u14)))))) := hD.perm (pm_all _).symm
    try dsimp only at h
    refine lv_lstore_n (lv' := [(1, .long r31), (0, .ref (ad 0)), (3, .int x16)]) hx hb dX5_digest_99 rfl hl (by decide) rfl (fun ls hl => ?_)
    refine lv_lload_n hx hb dX5_digest_100 rfl (lv_at hl 0 rfl) ?_
    refine lv_aload_n hx hb dX5_digest_101 rfl (lv_at hl 1 rfl) ?_
    refine va_get (D := G.1) (ci := 5) (v := .ref (hd 0)) (C := RX5) (T := TX5) (N := 6) hx hb hts hinX5 hown hK.1 hP.l 0 rfl rfl 1 (by decide) (hts (.fieldLink RX5 19 "PlaFolder" "history" "LPlaFolder$History;") (by decide +kernel)) (fun _ h9 => h9) rfl dX5_digest_102 ?_
    refine va_getN (D := G.1) (ci := 2) (v := .int hc) (C := RX2) (T := TX2) (N := 2) (host := "PlaFolder") hx hb hts hinX2 hown hK.1 hP.r.r.l 0 rfl rfl 1 (by decide) (hK.2.F 8 (q := ("PlaFolder", 182, "PlaFolder$History", "count", "I", "PlaFolder")) rfl) (fun _ h9 => h9) rfl dX5_digest_105 ?_
    refine lv_i2l (v := hc.toInt64) hx hb dX5_digest_108 rfl ?_
    refine kp_l (wr := wP G ad sd hd md rd be er ++ (wS G sd inp otp tc fc on ze ou wd lo up ++ (wH G hd hc sa sv ++ (wD G md ab ++ (wR G rd tr rt ++ (wB G be beD u2 u3 u4 u5 u6 u7 u8 u9 d0 u10 u11 u12 u13 u14)))))) (va_runS (As := [.long r31, .long hc.toInt64]) (rest := []) ⟨hx, hb, hml, hown, hts⟩ (c_X5_mix l G  _  r31 hc.toInt64 h) (va_cwS 2 hts gX5_digest_X5_mix rfl rfl rfl (by decide +kernel) ⟨Nat.le_of_ble_eq_true rfl, Nat.le_of_ble_eq_true rfl⟩) (kpSp hK hP hD hZ hS hA (pm_nil _)) rfl rfl hl.1 rfl (lv_room (Nat.le_of_ble_eq_true rfl)) dX5_digest_109 ⟨Nat.zero_le _, Nat.zero_le _⟩) hP hD hS hA (pm_nil _) (fun r32 w33 H locs h hP hD hS => ?_)
    have hP : va_P G.1 vwCl (wP G ad sd hd md rd be er ++ (wS G sd inp otp tc fc on ze ou wd lo up ++ (wH G hd hc sa sv ++ (wD G md ab ++ (wR G rd tr rt ++ (wB G be beD u2 u3 u4 u5 u6 u7 u8 u9 d0 u10 u11 u12 u13 u14)))))) H := hP.perm (pm_nil _).symm
    have hD : va_D A (wP G ad sd hd md rd be er ++ (wS G sd inp otp tc fc on ze ou wd lo up ++ (wH G hd hc sa sv ++ (wD G md ab ++ (wR G rd tr rt ++ (wB G be beD u2 u3 u4 u5 u6 u7 u8 u9 d0 u10 u11 u12 u13 u14)))))) := hD.perm (pm_nil _).symm
    try dsimp only at h
    exact W.lret hx hb hr (fun t ht hW => ⟨⟨_, (u2, u3, u4, u5, u6, u7, u8, u9, u10, u11, u12, u13, u14), rfl, h, by rw [ht]; exact hP, hD⟩, hS.F ht⟩) hS.2.2 dX5_digest_112
  · have h := h.2 c_23
    refine lv_lload_n hx hb dX5_digest_15 rfl (lv_at hl 1 rfl) ?_
    refine lv_aload_n hx hb dX5_digest_16 rfl (lv_at hl 0 rfl) ?_
    refine va_get (D := G.1) (ci := 5) (v := .ref (ad 1)) (C := RX5) (T := TX5) (N := 6) hx hb hts hinX5 hown hK.1 hP.l 0 rfl rfl 5 (by decide) (hts (.fieldLink RX5 44 "PlaFolder" "errors" "[I") (by decide +kernel)) (fun _ h9 => h9) rfl dX5_digest_17 ?_
    refine lv_iload_n hx hb dX5_digest_20 rfl (lv_at hl 2 rfl) ?_
    obtain ⟨hi42, h⟩ := h
    refine x_iald hx hb hK hP.l 1 rfl hi42 rfl dX5_digest_21 ?_
    refine lv_i2l (v := (er x16.toNatClampNeg).toInt64) hx hb dX5_digest_22 rfl ?_
    refine kp_l (wr := wP G ad sd hd md rd be er ++ (wS G sd inp otp tc fc on ze ou wd lo up ++ (wH G hd hc sa sv ++ (wD G md ab ++ (wR G rd tr rt ++ (wB G be beD u2 u3 u4 u5 u6 u7 u8 u9 d0 u10 u11 u12 u13 u14)))))) (va_runS (As := [.long x15, .long ((er x16.toNatClampNeg).toInt64)]) (rest := []) ⟨hx, hb, hml, hown, hts⟩ (c_X5_mix l G  _  x15 ((er x16.toNatClampNeg).toInt64) h) (va_cwS 2 hts gX5_digest_X5_mix rfl rfl rfl (by decide +kernel) ⟨Nat.le_of_ble_eq_true rfl, Nat.le_of_ble_eq_true rfl⟩) (kpSp hK hP hD hZ hS hA (pm_nil _)) rfl rfl hl.1 rfl (lv_room (Nat.le_of_ble_eq_true rfl)) dX5_digest_23 ⟨Nat.zero_le _, Nat.zero_le _⟩) hP hD hS hA (pm_nil _) (fun r43 w47 H locs h hP hD hS => ?_)
    have hP : va_P G.1 vwCl (wP G ad sd hd md rd be er ++ (wS G sd inp otp tc fc on ze ou wd lo up ++ (wH G hd hc sa sv ++ (wD G md ab ++ (wR G rd tr rt ++ (wB G be beD u2 u3 u4 u5 u6 u7 u8 u9 d0 u10 u11 u12 u13 u14)))))) H := hP.perm (pm_nil _).symm
    have hD : va_D A (wP G ad sd hd md rd be er ++ (wS G sd inp otp tc fc on ze ou wd lo up ++ (wH G hd hc sa sv ++ (wD G md ab ++ (wR G rd tr rt ++ (wB G be beD u2 u3 u4 u5 u6 u7 u8 u9 d0 u10 u11 u12 u13 u14)))))) := hD.perm (pm_nil _).symm
    try dsimp only at h
    refine lv_lstore_n (lv' := [(1, .long r43), (0, .ref (ad 0)), (3, .int x16)]) hx hb dX5_digest_26 rfl hl (by decide) rfl (fun ls hl => ?_)
    refine lv_iinc (v := (x16 + (1 : Int32))) (lv' := [(3, .int (x16 + (1 : Int32))), (1, .long r43), (0, .ref (ad 0))]) hx hb dX5_digest_27 hl (k := 2) rfl rfl (by decide) rfl (fun ls hl => ?_)
    refine lv_goto (tgt := 10) hx hb dX5_digest_30 (by decide) ?_
    obtain ⟨n45, hn44, hI46⟩ := h
    exact ih21 n45 (r43, (x16 + (1 : Int32))) hn44 hI46 _ _ _ ⟨hP, hD, hS, lv_sub hl [2, 1, 0] rfl⟩
