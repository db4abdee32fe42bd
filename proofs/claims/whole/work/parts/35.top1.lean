def wp_X5_fail (a1 : Int32) (er : Nat → Int32) (K : Int32 → (Nat → Int32) → Prop) : Prop :=
 (vp_in ((-2 : Int32) - a1) 5 ∧ (vp_in ((-2 : Int32) - a1) 5 ∧ K a1 (upd er (((-2 : Int32) - a1).toNatClampNeg) ((er ((-2 : Int32) - a1).toNatClampNeg) + (1 : Int32)))))
abbrev rm_X5_fail : Room := { frames := 0, cells := 0, slots := 0, locals := 0 }
set_option maxHeartbeats 4000000 in
set_option maxRecDepth 100000 in
theorem c_X5_fail (l : Launch) (G : GG) (ad : Nat → Nat) (sd : Nat → Nat) (hd : Nat → Nat) (md : Nat → Nat) (rd : Nat → Nat) (be : Nat → Nat) (beD : Nat → Nat → Nat) (sz : Nat) (er : Nat → Int32) (inp : Int32) (otp : Int32) (tc : Int32) (fc : Int32) (on : Nat → Int32) (ze : Nat → Int32) (ou : Nat → Int32) (wd : Nat → Int64) (lo : Nat → Int32) (up : Nat → Int32) (hc : Int32) (sa : Nat → Nat → Nat) (sv : Nat → SS) (ab : Nat → Int32) (tr : Nat → Int32) (rt : Nat → Int32) (kn : Int32) (ct : Int32) (bu : Nat → Int32) (bl : Nat → Int32) (tu : Nat → Int32) (tl : Nat → Int32) (bd : Nat → Int32) (bm : Nat → Int32) (d0 : Nat → Int32) (d1 : Nat → Int32) (d2 : Nat → Int32) (d3 : Nat → Int32) (d4 : Nat → Int32) (d5 : Nat → Int32) (a1 : Int32) {K : Int32 → (Nat → Int32) → Prop} (h : wp_X5_fail a1 er K) : CI l yX5_fail wsX5_fail rm_X5_fail G [.ref (ad 0), .int a1] (wP G ad sd hd md rd be er ++ (wS G sd inp otp tc fc on ze ou wd lo up ++ (wH G hd hc sa sv ++ (wD G md ab ++ (wR G rd tr rt ++ (wB G be beD kn ct bu bl tu tl bd bm d0 d1 d2 d3 d4 d5)))))) sz (fun u : (Nat → Int32) => wP G ad sd hd md rd be u ++ (wS G sd inp otp tc fc on ze ou wd lo up ++ (wH G hd hc sa sv ++ (wD G md ab ++ (wR G rd tr rt ++ (wB G be beD kn ct bu bl tu tl bd bm d0 d1 d2 d3 d4 d5)))))) (fun r u => K r u) := by
  refine Met.ofW (cc := cX5_fail) (maxL := 2) (ret := (some .int)) (by decide) rfl ?_
  intro p e s m args below meth c s₁ B hml hv
  obtain ⟨rfl, hsz, hP, hK, hD0, hZ⟩ := hv
  have hx := B.exec
  have hb := B.bytes
  have hr := B.returns
  have hts := atoms_spec (ws := wsX5_fail) B.pre
  have hown : s.vm.findClass RX5 = some m.cls := findClass_of_methodNamed B.named
  have hlocks := B.notSynchronized
  subst hsz
  have hD := hD0.self (sz := s.heap.size)
  generalize hAe : va_A (wP G ad sd hd md rd be er ++ (wS G sd inp otp tc fc on ze ou wd lo up ++ (wH G hd hc sa sv ++ (wD G md ab ++ (wR G rd tr rt ++ (wB G be beD kn ct bu bl tu tl bd bm d0 d1 d2 d3 d4 d5)))))) s.heap.size = A at hD hZ ⊢
  have hA : ∀ q : Nat, s.heap.size ≤ q → A q := fun q h => by rw [← hAe]; exact Or.inr h
  have hS : va_S A s.heap s.heap [] := va_S.rf
  have hl := lv_entry ([.ref (ad 0), .int a1]) (n := 2) (Nat.le_of_ble_eq_true rfl)
  rw [lg_entry_eq]
  generalize (lg_sl ([.ref (ad 0), .int a1]) ++ List.replicate (2 - (lg_sl ([.ref (ad 0), .int a1])).length) Slot.unset).toArray = ls at hl ⊢
  have hl : lv_has ls 2 [(0, .ref (ad 0)), (1, .int a1)] := hl
  unfold wp_X5_fail at h
  have hinX5 : ∀ w ∈ wsX50, w ∈ wsX5_fail := by decide +kernel
  refine lv_aload_n hx hb dX5_fail_0 rfl (lv_at hl 0 rfl) ?_
  refine va_get (D := G.1) (ci := 5) (v := .ref (ad 1)) (C := RX5) (T := TX5) (N := 6) hx hb hts hinX5 hown hK.1 hP.l 0 rfl rfl 5 (by decide) (hts (.fieldLink RX5 44 "PlaFolder" "errors" "[I") (by decide +kernel)) (fun _ h9 => h9) rfl dX5_fail_1 ?_
  refine lv_bipush (v := (-2 : Int32)) hx hb dX5_fail_4 (by decide) ?_
  refine lv_iload_n hx hb dX5_fail_6 rfl (lv_at hl 1 rfl) ?_
  refine lv_isub hx hb dX5_fail_7 ?_
  refine lv_dup2_11 hx hb dX5_fail_8 rfl rfl ?_
  obtain ⟨hi1, h⟩ := h
  refine x_iald hx hb hK hP.l 1 rfl hi1 rfl dX5_fail_9 ?_
  refine lv_iconst (v := (1 : Int32)) hx hb dX5_fail_10 (by decide) ?_
  refine lv_iadd hx hb dX5_fail_11 ?_
  obtain ⟨hi2, h⟩ := h
  refine x_iast hx hb hK hP hD hS 1 rfl hi2 rfl dX5_fail_12 (fun H locs hP hD hS => ?_)
  have hP : va_P G.1 vwCl (wP G ad sd hd md rd be (upd er (((-2 : Int32) - a1).toNatClampNeg) ((er ((-2 : Int32) - a1).toNatClampNeg) + (1 : Int32))) ++ (wS G sd inp otp tc fc on ze ou wd lo up ++ (wH G hd hc sa sv ++ (wD G md ab ++ (wR G rd tr rt ++ (wB G be beD kn ct bu bl tu tl bd bm d0 d1 d2 d3 d4 d5)))))) H := hP
  have hD : va_D A (wP G ad sd hd md rd be (upd er (((-2 : Int32) - a1).toNatClampNeg) ((er ((-2 : Int32) - a1).toNatClampNeg) + (1 : Int32))) ++ (wS G sd inp otp tc fc on ze ou wd lo up ++ (wH G hd hc sa sv ++ (wD G md ab ++ (wR G rd tr rt ++ (wB G be beD kn ct bu bl tu tl bd bm d0 d1 d2 d3 d4 d5)))))) := hD
  refine lv_iload_n hx hb dX5_fail_13 rfl (lv_at hl 1 rfl) ?_
  exact W.iret hx hb hr (fun t ht hW => ⟨⟨_, (upd er (((-2 : Int32) - a1).toNatClampNeg) ((er ((-2 : Int32) - a1).toNatClampNeg) + (1 : Int32))), rfl, h, by rw [ht]; exact hP, hD⟩, hS.F ht⟩) hS.2.2 dX5_fail_14
def wp_X5_foldsChanged (tc : Int32) (on : Nat → Int32) (ze : Nat → Int32) (ou : Nat → Int32) (lo : Nat → Int32) (ab : Nat → Int32) (tr : Nat → Int32) (rt : Nat → Int32) (K : (Nat → Int32) → (Nat → Int32) → (Nat → Int32) → Prop) : Prop :=
 wp_X1_collect ab tc on ze ou lo (fun (u2 : Nat → Int32) => wp_X3_build tc tr rt u2 (fun (u4 : Nat → Int32) (u5 : Nat → Int32) => K u2 u4 u5))
abbrev rm_X5_foldsChanged : Room := { frames := 4, cells := 0, slots := 0, locals := 91 }
set_option maxHeartbeats 4000000 in
set_option maxRecDepth 100000 in
theorem c_X5_foldsChanged (l : Launch) (G : GG) (ad : Nat → Nat) (sd : Nat → Nat) (hd : Nat → Nat) (md : Nat → Nat) (rd : Nat → Nat) (be : Nat → Nat) (beD : Nat → Nat → Nat) (sz : Nat) (er : Nat → Int32) (inp : Int32) (otp : Int32) (tc : Int32) (fc : Int32) (on : Nat → Int32) (ze : Nat → Int32) (ou : Nat → Int32) (wd : Nat → Int64) (lo : Nat → Int32) (up : Nat → Int32) (hc : Int32) (sa : Nat → Nat → Nat) (sv : Nat → SS) (ab : Nat → Int32) (tr : Nat → Int32) (rt : Nat → Int32) (kn : Int32) (ct : Int32) (bu : Nat → Int32) (bl : Nat → Int32) (tu : Nat → Int32) (tl : Nat → Int32) (bd : Nat → Int32) (bm : Nat → Int32) (d0 : Nat → Int32) (d1 : Nat → Int32) (d2 : Nat → Int32) (d3 : Nat → Int32) (d4 : Nat → Int32) (d5 : Nat → Int32) {K : (Nat → Int32) → (Nat → Int32) → (Nat → Int32) → Prop} (h : wp_X5_foldsChanged tc on ze ou lo ab tr rt K) : CV l yX5_foldsChanged wsX5_foldsChanged rm_X5_foldsChanged G [.ref (ad 0)] (wP G ad sd hd md rd be er ++ (wS G sd inp otp tc fc on ze ou wd lo up ++ (wH G hd hc sa sv ++ (wD G md ab ++ (wR G rd tr rt ++ (wB G be beD kn ct bu bl tu tl bd bm d0 d1 d2 d3 d4 d5)))))) sz (fun u : (Nat → Int32) × (Nat → Int32) × (Nat → Int32) => wP G ad sd hd md rd be er ++ (wS G sd inp otp tc fc on ze ou wd lo up ++ (wH G hd hc sa sv ++ (wD G md u.1 ++ (wR G rd u.2.1 u.2.2 ++ (wB G be beD kn ct bu bl tu tl bd bm d0 d1 d2 d3 d4 d5)))))) (fun u => K u.1 u.2.1 u.2.2) := by
  refine Met.ofW (cc := cX5_foldsChanged) (maxL := 1) (ret := none) (by decide) rfl ?_
  intro p e s m args below meth c s₁ B hml hv
  obtain ⟨rfl, hsz, hP, hK, hD0, hZ⟩ := hv
  have hx := B.exec
  have hb := B.bytes
  have hr := B.returns
  have hts := atoms_spec (ws := wsX5_foldsChanged) B.pre
  have hown : s.vm.findClass RX5 = some m.cls := findClass_of_methodNamed B.named
  have hlocks := B.notSynchronized
  subst hsz
  have hD := hD0.self (sz := s.heap.size)
  generalize hAe : va_A (wP G ad sd hd md rd be er ++ (wS G sd inp otp tc fc on ze ou wd lo up ++ (wH G hd hc sa sv ++ (wD G md ab ++ (wR G rd tr rt ++ (wB G be beD kn ct bu bl tu tl bd bm d0 d1 d2 d3 d4 d5)))))) s.heap.size = A at hD hZ ⊢
  have hA : ∀ q : Nat, s.heap.size ≤ q → A q := fun q h => by rw [← hAe]; exact Or.inr h
  have hS : va_S A s.heap s.heap [] := va_S.rf
  have hl := lv_entry ([.ref (ad 0)]) (n := 1) (Nat.le_of_ble_eq_true rfl)
  rw [lg_entry_eq]
  generalize (lg_sl ([.ref (ad 0)]) ++ List.replicate (1 - (lg_sl ([.ref (ad 0)])).length) Slot.unset).toArray = ls at hl ⊢
  have hl : lv_has ls 1 [(0, .ref (ad 0))] := hl
  unfold wp_X5_foldsChanged at h
  have hinX4 : ∀ w ∈ wsX40, w ∈ wsX5_foldsChanged := by decide +kernel
  have hinX5 : ∀ w ∈ wsX50, w ∈ wsX5_foldsChanged := by decide +kernel
  refine lv_aload_n hx hb dX5_foldsChanged_0 rfl (lv_at hl 0 rfl) ?_
  refine va_get (D := G.1) (ci := 5) (v := .ref (md 0)) (C := RX5) (T := TX5) (N := 6) hx hb hts hinX5 hown hK.1 hP.l 0 rfl rfl 2 (by decide) (hts (.fieldLink RX5 26 "PlaFolder" "demands" "LPlaFolder$Demands;") (by decide +kernel)) (fun _ h9 => h9) rfl dX5_foldsChanged_1 ?_
  refine lv_aload_n hx hb dX5_foldsChanged_4 rfl (lv_at hl 0 rfl) ?_
  refine va_get (D := G.1) (ci := 5) (v := .ref (sd 0)) (C := RX5) (T := TX5) (N := 6) hx hb hts hinX5 hown hK.1 hP.l 0 rfl rfl 0 (by decide) (hts (.fieldLink RX5 12 "PlaFolder" "state" "LPlaFolder$State;") (by decide +kernel)) (fun _ h9 => h9) rfl dX5_foldsChanged_5 ?_
  refine kp_v (wr := wP G ad sd hd md rd be er ++ (wH G hd hc sa sv ++ (wR G rd tr rt ++ (wB G be beD kn ct bu bl tu tl bd bm d0 d1 d2 d3 d4 d5)))) (va_runVN (As := [.ref (sd 0)]) (rest := []) ⟨hx, hb, hml, hown, hts⟩ (c_X1_collect l G md sd _ ab inp otp tc fc on ze ou wd lo up  h) ⟨va_cnB 1 hts gX5_foldsChanged_X1_collect_n209 rfl rfl rfl (hK.2.M 10 (q := ("PlaFolder", 209, ⟨"PlaFolder$Demands", "collect", "(LPlaFolder$State;)V"⟩, "PlaFolder")) rfl) (hts (.initialized RX1) (by decide +kernel)) (by decide +kernel) ⟨Nat.le_of_ble_eq_true rfl, Nat.le_of_ble_eq_true rfl⟩, hts (.instanceMethod yX1_collect) (by decide +kernel), hts (.selects RX1 yX1_collect yX1_collect) (by decide +kernel)⟩ (kpVp hK hP hD hZ hS hA (pm6_0245_31 (wP G ad sd hd md rd be er) (wS G sd inp otp tc fc on ze ou wd lo up) (wH G hd hc sa sv) (wD G md ab) (wR G rd tr rt) (wB G be beD kn ct bu bl tu tl bd bm d0 d1 d2 d3 d4 d5)) (q0 := 0) (ci := 1) rfl rfl) rfl rfl hl.1 rfl (lv_room (Nat.le_of_ble_eq_true rfl)) dX5_foldsChanged_8 ⟨Nat.zero_le _, Nat.zero_le _⟩) hP hD hS hA (pm6_0245_31 (wP G ad sd hd md rd be er) (wS G sd inp otp tc fc on ze ou wd lo up) (wH G hd hc sa sv) (wD G md ab) (wR G rd tr rt) (wB G be beD kn ct bu bl tu tl bd bm d0 d1 d2 d3 d4 d5)) (fun w7 H locs h hP hD hS => ?_)
  obtain ⟨u2, rfl⟩ : ∃ z, z = w7 := ⟨_, rfl⟩
  have hP : va_P G.1 vwCl (wP G ad sd hd md rd be er ++ (wS G sd inp otp tc fc on ze ou wd lo up ++ (wH G hd hc sa sv ++ (wD G md u2 ++ (wR G rd tr rt ++ (wB G be beD kn ct bu bl tu tl bd bm d0 d1 d2 d3 d4 d5)))))) H := hP.perm (pm6_0245_31 (wP G ad sd hd md rd be er) (wS G sd inp otp tc fc on ze ou wd lo up) (wH G hd hc sa sv) (wD G md u2) (wR G rd tr rt) (wB G be beD kn ct bu bl tu tl bd bm d0 d1 d2 d3 d4 d5)).symm
  have hD : va_D A (wP G ad sd hd md rd be er ++ (wS G sd inp otp tc fc on ze ou wd lo up ++ (wH G hd hc sa sv ++ (wD G md u2 ++ (wR G rd tr rt ++ (wB G be beD kn ct bu bl tu tl bd bm d0 d1 d2 d3 d4 d5)))))) := hD.perm (pm6_0245_31 (wP G ad sd hd md rd be er) (wS G sd inp otp tc fc on ze ou wd lo up) (wH G hd hc sa sv) (wD G md u2) (wR G rd tr rt) (wB G be beD kn ct bu bl tu tl bd bm d0 d1 d2 d3 d4 d5)).symm
  try dsimp only at h
  refine lv_aload_n hx hb dX5_foldsChanged_11 rfl (lv_at hl 0 rfl) ?_
  refine va_get (D := G.1) (ci := 5) (v := .ref (rd 0)) (C := RX5) (T := TX5) (N := 6) hx hb hts hinX5 hown hK.1 hP.l 0 rfl rfl 3 (by decide) (hts (.fieldLink RX5 33 "PlaFolder" "rows" "LPlaFolder$RowOrder;") (by decide +kernel)) (fun _ h9 => h9) rfl dX5_foldsChanged_12 ?_
  refine lv_aload_n hx hb dX5_foldsChanged_15 rfl (lv_at hl 0 rfl) ?_
  refine va_get (D := G.1) (ci := 5) (v := .ref (md 0)) (C := RX5) (T := TX5) (N := 6) hx hb hts hinX5 hown hK.1 hP.l 0 rfl rfl 2 (by decide) (hts (.fieldLink RX5 26 "PlaFolder" "demands" "LPlaFolder$Demands;") (by decide +kernel)) (fun _ h9 => h9) rfl dX5_foldsChanged_16 ?_
  refine lv_aload_n hx hb dX5_foldsChanged_19 rfl (lv_at hl 0 rfl) ?_
  refine va_get (D := G.1) (ci := 5) (v := .ref (sd 0)) (C := RX5) (T := TX5) (N := 6) hx hb hts hinX5 hown hK.1 hP.l 0 rfl rfl 0 (by decide) (hts (.fieldLink RX5 12 "PlaFolder" "state" "LPlaFolder$State;") (by decide +kernel)) (fun _ h9 => h9) rfl dX5_foldsChanged_20 ?_
  refine va_getN (D := G.1) (ci := 4) (v := .int tc) (C := RX4) (T := TX4) (N := 10) (host := "PlaFolder") hx hb hts hinX4 hown hK.1 hP.r.l 0 rfl rfl 2 (by decide) (hK.2.F 2 (q := ("PlaFolder", 56, "PlaFolder$State", "termCount", "I", "PlaFolder")) rfl) (fun _ h9 => h9) rfl dX5_foldsChanged_23 ?_
  refine kp_v (wr := wP G ad sd hd md rd be er ++ (wS G sd inp otp tc fc on ze ou wd lo up ++ (wH G hd hc sa sv ++ (wB G be beD kn ct bu bl tu tl bd bm d0 d1 d2 d3 d4 d5)))) (va_runVN (As := [.ref (md 0), .int tc]) (rest := []) ⟨hx, hb, hml, hown, hts⟩ (c_X3_build l G rd md _ tr rt u2 tc h) ⟨va_cnB 2 hts gX5_foldsChanged_X3_build_n212 rfl rfl rfl (hK.2.M 14 (q := ("PlaFolder", 212, ⟨"PlaFolder$RowOrder", "build", "(LPlaFolder$Demands;I)V"⟩, "PlaFolder")) rfl) (hts (.initialized RX3) (by decide +kernel)) (by decide +kernel) ⟨Nat.le_of_ble_eq_true rfl, Nat.le_of_ble_eq_true rfl⟩, hts (.instanceMethod yX3_build) (by decide +kernel), hts (.selects RX3 yX3_build yX3_build) (by decide +kernel)⟩ (kpVp hK hP hD hZ hS hA (pm6_0125_43 (wP G ad sd hd md rd be er) (wS G sd inp otp tc fc on ze ou wd lo up) (wH G hd hc sa sv) (wD G md u2) (wR G rd tr rt) (wB G be beD kn ct bu bl tu tl bd bm d0 d1 d2 d3 d4 d5)) (q0 := 0) (ci := 3) rfl rfl) rfl rfl hl.1 rfl (lv_room (Nat.le_of_ble_eq_true rfl)) dX5_foldsChanged_26 ⟨Nat.zero_le _, Nat.zero_le _⟩) hP hD hS hA (pm6_0125_43 (wP G ad sd hd md rd be er) (wS G sd inp otp tc fc on ze ou wd lo up) (wH G hd hc sa sv) (wD G md u2) (wR G rd tr rt) (wB G be beD kn ct bu bl tu tl bd bm d0 d1 d2 d3 d4 d5)) (fun w6 H locs h hP hD hS => ?_)
  obtain ⟨u4, u5⟩ := w6
  have hP : va_P G.1 vwCl (wP G ad sd hd md rd be er ++ (wS G sd inp otp tc fc on ze ou wd lo up ++ (wH G hd hc sa sv ++ (wD G md u2 ++ (wR G rd u4 u5 ++ (wB G be beD kn ct bu bl tu tl bd bm d0 d1 d2 d3 d4 d5)))))) H := hP.perm (pm6_0125_43 (wP G ad sd hd md rd be er) (wS G sd inp otp tc fc on ze ou wd lo up) (wH G hd hc sa sv) (wD G md u2) (wR G rd u4 u5) (wB G be beD kn ct bu bl tu tl bd bm d0 d1 d2 d3 d4 d5)).symm
  have hD : va_D A (wP G ad sd hd md rd be er ++ (wS G sd inp otp tc fc on ze ou wd lo up ++ (wH G hd hc sa sv ++ (wD G md u2 ++ (wR G rd u4 u5 ++ (wB G be beD kn ct bu bl tu tl bd bm d0 d1 d2 d3 d4 d5)))))) := hD.perm (pm6_0125_43 (wP G ad sd hd md rd be er) (wS G sd inp otp tc fc on ze ou wd lo up) (wH G hd hc sa sv) (wD G md u2) (wR G rd u4 u5) (wB G be beD kn ct bu bl tu tl bd bm d0 d1 d2 d3 d4 d5)).symm
  try dsimp only at h
  exact W.vret hx hb hr (fun t ht hW => ⟨⟨(u2, u4, u5), rfl, h, by rw [ht]; exact hP, hD⟩, hS.F ht⟩) hS.2.2 dX5_foldsChanged_29
def wp_X5_termsChanged (tc : Int32) (on : Nat → Int32) (ze : Nat → Int32) (ou : Nat → Int32) (lo : Nat → Int32) (ab : Nat → Int32) (tr : Nat → Int32) (rt : Nat → Int32) (kn : Int32) (K : (Nat → Int32) → (Nat → Int32) → (Nat → Int32) → Int32 → Prop) : Prop :=
 wp_X5_foldsChanged tc on ze ou lo ab tr rt (fun (u2 : Nat → Int32) (u3 : Nat → Int32) (u4 : Nat → Int32) => K u2 u3 u4 (0 : Int32))
abbrev rm_X5_termsChanged : Room := { frames := 5, cells := 0, slots := 0, locals := 111 }
set_option maxHeartbeats 4000000 in
set_option maxRecDepth 100000 in
theorem c_X5_termsChanged (l : Launch) (G : GG) (ad : Nat → Nat) (sd : Nat → Nat) (hd : Nat → Nat) (md : Nat → Nat) (rd : Nat → Nat) (be : Nat → Nat) (beD : Nat → Nat → Nat) (sz : Nat) (er : Nat → Int32) (inp : Int32) (otp : Int32) (tc : Int32) (fc : Int32) (on : Nat → Int32) (ze : Nat → Int32) (ou : Nat → Int32) (wd : Nat → Int64) (lo : Nat → Int32) (up : Nat → Int32) (hc : Int32) (sa : Nat → Nat → Nat) (sv : Nat → SS) (ab : Nat → Int32) (tr : Nat → Int32) (rt : Nat → Int32) (kn : Int32) (ct : Int32) (bu : Nat → Int32) (bl : Nat → Int32) (tu : Nat → Int32) (tl : Nat → Int32) (bd : Nat → Int32) (bm : Nat → Int32) (d0 : Nat → Int32) (d1 : Nat → Int32) (d2 : Nat → Int32) (d3 : Nat → Int32) (d4 : Nat → Int32) (d5 : Nat → Int32) {K : (Nat → Int32) → (Nat → Int32) → (Nat → Int32) → Int32 → Prop} (h : wp_X5_termsChanged tc on ze ou lo ab tr rt kn K) : CV l yX5_termsChanged wsX5_termsChanged rm_X5_termsChanged G [.ref (ad 0)] (wP G ad sd hd md rd be er ++ (wS G sd inp otp tc fc on ze ou wd lo up ++ (wH G hd hc sa sv ++ (wD G md ab ++ (wR G rd tr rt ++ (wB G be beD kn ct bu bl tu tl bd bm d0 d1 d2 d3 d4 d5)))))) sz (fun u : (Nat → Int32) × (Nat → Int32) × (Nat → Int32) × Int32 => wP G ad sd hd md rd be er ++ (wS G sd inp otp tc fc on ze ou wd lo up ++ (wH G hd hc sa sv ++ (wD G md u.1 ++ (wR G rd u.2.1 u.2.2.1 ++ (wB G be beD u.2.2.2 ct bu bl tu tl bd bm d0 d1 d2 d3 d4 d5)))))) (fun u => K u.1 u.2.1 u.2.2.1 u.2.2.2) := by
  refine Met.ofW (cc := cX5_termsChanged) (maxL := 1) (ret := none) (by decide) rfl ?_
  intro p e s m args below meth c s₁ B hml hv
  obtain ⟨rfl, hsz, hP, hK, hD0, hZ⟩ := hv
  have hx := B.exec
  have hb := B.bytes
  have hr := B.returns
  have hts := atoms_spec (ws := wsX5_termsChanged) B.pre
  have hown : s.vm.findClass RX5 = some m.cls := findClass_of_methodNamed B.named
  have hlocks := B.notSynchronized
  subst hsz
  have hD := hD0.self (sz := s.heap.size)
  generalize hAe : va_A (wP G ad sd hd md rd be er ++ (wS G sd inp otp tc fc on ze ou wd lo up ++ (wH G hd hc sa sv ++ (wD G md ab ++ (wR G rd tr rt ++ (wB G be beD kn ct bu bl tu tl bd bm d0 d1 d2 d3 d4 d5)))))) s.heap.size = A at hD hZ ⊢
  have hA : ∀ q : Nat, s.heap.size ≤ q → A q := fun q h => by rw [← hAe]; exact Or.inr h
  have hS : va_S A s.heap s.heap [] := va_S.rf
  have hl := lv_entry ([.ref (ad 0)]) (n := 1) (Nat.le_of_ble_eq_true rfl)
  rw [lg_entry_eq]
  generalize (lg_sl ([.ref (ad 0)]) ++ List.replicate (1 - (lg_sl ([.ref (ad 0)])).length) Slot.unset).toArray = ls at hl ⊢
  have hl : lv_has ls 1 [(0, .ref (ad 0))] := hl
  unfold wp_X5_termsChanged at h
  have hinX0 : ∀ w ∈ wsX00, w ∈ wsX5_termsChanged := by decide +kernel
  have hinX5 : ∀ w ∈ wsX50, w ∈ wsX5_termsChanged := by decide +kernel
  refine lv_aload_n hx hb dX5_termsChanged_0 rfl (lv_at hl 0 rfl) ?_
  refine va_get (D := G.1) (ci := 5) (v := .ref (be 0)) (C := RX5) (T := TX5) (N := 6) hx hb hts hinX5 hown hK.1 hP.l 0 rfl rfl 4 (by decide) (hts (.fieldLink RX5 40 "PlaFolder" "best" "LPlaFolder$BestFolding;") (by decide +kernel)) (fun _ h9 => h9) rfl dX5_termsChanged_1 ?_
  refine lv_iconst (v := (0 : Int32)) hx hb dX5_termsChanged_4 (by decide) ?_
  refine va_putN (D := G.1) (ci := 0) (v := .int (0 : Int32)) (ty := .boolean) (C := RX0) (T := TX0) (N := 9) (host := "PlaFolder") hx hb hts hinX0 tyX0 tyX0_ok nmX0 hown hK.1 hP hD hS 51 rfl rfl 0 (by decide) (hK.2.F 13 (q := ("PlaFolder", 205, "PlaFolder$BestFolding", "known", "Z", "PlaFolder")) rfl) (fun _ h9 => h9) rfl (by decide +kernel) rfl rfl (Nat.le_of_ble_eq_true rfl) dX5_termsChanged_5 (fun H locs hP hD hS => ?_)
  have hP : va_P G.1 vwCl (wP G ad sd hd md rd be er ++ (wS G sd inp otp tc fc on ze ou wd lo up ++ (wH G hd hc sa sv ++ (wD G md ab ++ (wR G rd tr rt ++ (wB G be beD (0 : Int32) ct bu bl tu tl bd bm d0 d1 d2 d3 d4 d5)))))) H := hP
  have hD : va_D A (wP G ad sd hd md rd be er ++ (wS G sd inp otp tc fc on ze ou wd lo up ++ (wH G hd hc sa sv ++ (wD G md ab ++ (wR G rd tr rt ++ (wB G be beD (0 : Int32) ct bu bl tu tl bd bm d0 d1 d2 d3 d4 d5)))))) := hD
  refine lv_aload_n hx hb dX5_termsChanged_8 rfl (lv_at hl 0 rfl) ?_
  refine kp_v (wr := ([] : va_W)) (va_runV (As := []) (rest := []) ⟨hx, hb, hml, hown, hts⟩ (c_X5_foldsChanged l G ad sd hd md rd be beD _ er inp otp tc fc on ze ou wd lo up hc sa sv ab tr rt (0 : Int32) ct bu bl tu tl bd bm d0 d1 d2 d3 d4 d5  h) (cwV 0 hts gX5_termsChanged_X5_foldsChanged rfl rfl rfl (by decide +kernel) ⟨Nat.le_of_ble_eq_true rfl, Nat.le_of_ble_eq_true rfl⟩) (kpVp hK hP hD hZ hS hA (pm_all _) (q0 := 0) (ci := 5) rfl rfl) rfl rfl hl.1 rfl (lv_room (Nat.le_of_ble_eq_true rfl)) dX5_termsChanged_9 ⟨Nat.zero_le _, Nat.zero_le _⟩) hP hD hS hA (pm_all _) (fun w5 H locs h hP hD hS => ?_)
  obtain ⟨u2, u3, u4⟩ := w5
  have hP : va_P G.1 vwCl (wP G ad sd hd md rd be er ++ (wS G sd inp otp tc fc on ze ou wd lo up ++ (wH G hd hc sa sv ++ (wD G md u2 ++ (wR G rd u3 u4 ++ (wB G be beD (0 : Int32) ct bu bl tu tl bd bm d0 d1 d2 d3 d4 d5)))))) H := hP.perm (pm_all _).symm
  have hD : va_D A (wP G ad sd hd md rd be er ++ (wS G sd inp otp tc fc on ze ou wd lo up ++ (wH G hd hc sa sv ++ (wD G md u2 ++ (wR G rd u3 u4 ++ (wB G be beD (0 : Int32) ct bu bl tu tl bd bm d0 d1 d2 d3 d4 d5)))))) := hD.perm (pm_all _).symm
  try dsimp only at h
  exact W.vret hx hb hr (fun t ht hW => ⟨⟨(u2, u3, u4, (0 : Int32)), rfl, h, by rw [ht]; exact hP, hD⟩, hS.F ht⟩) hS.2.2 dX5_termsChanged_12
def wp_X5_findBest (inp : Int32) (otp : Int32) (tc : Int32) (on : Nat → Int32) (ze : Nat → Int32) (ou : Nat → Int32) (kn : Int32) (ct : Int32) (bu : Nat → Int32) (bl : Nat → Int32) (tu : Nat → Int32) (tl : Nat → Int32) (bd : Nat → Int32) (bm : Nat → Int32) (d0 : Nat → Int32) (d1 : Nat → Int32) (d2 : Nat → Int32) (d3 : Nat → Int32) (d4 : Nat → Int32) (d5 : Nat → Int32) (K : Int32 → Int32 → (Nat → Int32) → (Nat → Int32) → (Nat → Int32) → (Nat → Int32) → (Nat → Int32) → (Nat → Int32) → (Nat → Int32) → (Nat → Int32) → (Nat → Int32) → (Nat → Int32) → (Nat → Int32) → Prop) : Prop :=
 ((¬ kn = 0 → K kn ct bu bl tu tl bd bm d1 d2 d3 d4 d5) ∧
 (kn = 0 → wp_X0_search kn ct bu bl tu tl bd bm d0 d1 d2 d3 d4 d5 inp otp tc on ze ou (fun (u3 : Int32) (u4 : Int32) (u5 : Nat → Int32) (u6 : Nat → Int32) (u7 : Nat → Int32) (u8 : Nat → Int32) (u9 : Nat → Int32) (u10 : Nat → Int32) (u11 : Nat → Int32) (u12 : Nat → Int32) (u13 : Nat → Int32) (u14 : Nat → Int32) (u15 : Nat → Int32) => K u3 u4 u5 u6 u7 u8 u9 u10 u11 u12 u13 u14 u15)))
abbrev rm_X5_findBest : Room := { frames := 15, cells := 0, slots := 0, locals := 373 }
set_option maxHeartbeats 4000000 in
set_option maxRecDepth 100000 in
theorem c_X5_findBest (l : Launch) (G : GG) (ad : Nat → Nat) (sd : Nat → Nat) (hd : Nat → Nat) (md : Nat → Nat) (rd : Nat → Nat) (be : Nat → Nat) (beD : Nat → Nat → Nat) (sz : Nat) (er : Nat → Int32) (inp : Int32) (otp : Int32) (tc : Int32) (fc : Int32) (on : Nat → Int32) (ze : Nat → Int32) (ou : Nat → Int32) (wd : Nat → Int64) (lo : Nat → Int32) (up : Nat → Int32) (hc : Int32) (sa : Nat → Nat → Nat) (sv : Nat → SS) (ab : Nat → Int32) (tr : Nat → Int32) (rt : Nat → Int32) (kn : Int32) (ct : Int32) (bu : Nat → Int32) (bl : Nat → Int32) (tu : Nat → Int32) (tl : Nat → Int32) (bd : Nat → Int32) (bm : Nat → Int32) (d0 : Nat → Int32) (d1 : Nat → Int32) (d2 : Nat → Int32) (d3 : Nat → Int32) (d4 : Nat → Int32) (d5 : Nat → Int32) {K : Int32 → Int32 → (Nat → Int32) → (Nat → Int32) → (Nat → Int32) → (Nat → Int32) → (Nat → Int32) → (Nat → Int32) → (Nat → Int32) → (Nat → Int32) → (Nat → Int32) → (Nat → Int32) → (Nat → Int32) → Prop} (h : wp_X5_findBest inp otp tc on ze ou kn ct bu bl tu tl bd bm d0 d1 d2 d3 d4 d5 K) : CV l yX5_findBest wsX5_findBest rm_X5_findBest G [.ref (ad 0)] (wP G ad sd hd md rd be er ++ (wS G sd inp otp tc fc on ze ou wd lo up ++ (wH G hd hc sa sv ++ (wD G md ab ++ (wR G rd tr rt ++ (wB G be beD kn ct bu bl tu tl bd bm d0 d1 d2 d3 d4 d5)))))) sz (fun u : Int32 × Int32 × (Nat → Int32) × (Nat → Int32) × (Nat → Int32) × (Nat → Int32) × (Nat → Int32) × (Nat → Int32) × (Nat → Int32) × (Nat → Int32) × (Nat → Int32) × (Nat → Int32) × (Nat → Int32) => wP G ad sd hd md rd be er ++ (wS G sd inp otp tc fc on ze ou wd lo up ++ (wH G hd hc sa sv ++ (wD G md ab ++ (wR G rd tr rt ++ (wB G be beD u.1 u.2.1 u.2.2.1 u.2.2.2.1 u.2.2.2.2.1 u.2.2.2.2.2.1 u.2.2.2.2.2.2.1 u.2.2.2.2.2.2.2.1 d0 u.2.2.2.2.2.2.2.2.1 u.2.2.2.2.2.2.2.2.2.1 u.2.2.2.2.2.2.2.2.2.2.1 u.2.2.2.2.2.2.2.2.2.2.2.1 u.2.2.2.2.2.2.2.2.2.2.2.2)))))) (fun u => K u.1 u.2.1 u.2.2.1 u.2.2.2.1 u.2.2.2.2.1 u.2.2.2.2.2.1 u.2.2.2.2.2.2.1 u.2.2.2.2.2.2.2.1 u.2.2.2.2.2.2.2.2.1 u.2.2.2.2.2.2.2.2.2.1 u.2.2.2.2.2.2.2.2.2.2.1 u.2.2.2.2.2.2.2.2.2.2.2.1 u.2.2.2.2.2.2.2.2.2.2.2.2) := by
  refine Met.ofW (cc := cX5_findBest) (maxL := 1) (ret := none) (by decide) rfl ?_
  intro p e s m args below meth c s₁ B hml hv
  obtain ⟨rfl, hsz, hP, hK, hD0, hZ⟩ := hv
  have hx := B.exec
  have hb := B.bytes
  have hr := B.returns
  have hts := atoms_spec (ws := wsX5_findBest) B.pre
  have hown : s.vm.findClass RX5 = some m.cls := findClass_of_methodNamed B.named
  have hlocks := B.notSynchronized
  subst hsz
  have hD := hD0.self (sz := s.heap.size)
  generalize hAe : va_A (wP G ad sd hd md rd be er ++ (wS G sd inp otp tc fc on ze ou wd lo up ++ (wH G hd hc sa sv ++ (wD G md ab ++ (wR G rd tr rt ++ (wB G be beD kn ct bu bl tu tl bd bm d0 d1 d2 d3 d4 d5)))))) s.heap.size = A at hD hZ ⊢
  have hA : ∀ q : Nat, s.heap.size ≤ q → A q := fun q h => by rw [← hAe]; exact Or.inr h
  have hS : va_S A s.heap s.heap [] := va_S.rf
  have hl := lv_entry ([.ref (ad 0)]) (n := 1) (Nat.le_of_ble_eq_true rfl)
  rw [lg_entry_eq]
  generalize (lg_sl ([.ref (ad 0)]) ++ List.replicate (1 - (lg_sl ([.ref (ad 0)])).length) Slot.unset).toArray = ls at hl ⊢
  have hl : lv_has ls 1 [(0, .ref (ad 0))] := hl
  unfold wp_X5_findBest at h
  have hinX0 : ∀ w ∈ wsX00, w ∈ wsX5_findBest := by decide +kernel
  have hinX5 : ∀ w ∈ wsX50, w ∈ wsX5_findBest := by decide +kernel
  refine lv_aload_n hx hb dX5_findBest_0 rfl (lv_at hl 0 rfl) ?_
  refine va_get (D := G.1) (ci := 5) (v := .ref (be 0)) (C := RX5) (T := TX5) (N := 6) hx hb hts hinX5 hown hK.1 hP.l 0 rfl rfl 4 (by decide) (hts (.fieldLink RX5 40 "PlaFolder" "best" "LPlaFolder$BestFolding;") (by decide +kernel)) (fun _ h9 => h9) rfl dX5_findBest_1 ?_
  refine va_getN (D := G.1) (ci := 0) (v := .int kn) (C := RX0) (T := TX0) (N := 9) (host := "PlaFolder") hx hb hts hinX0 hown hK.1 hP.r.r.r.r.r 0 rfl rfl 0 (by decide) (hK.2.F 13 (q := ("PlaFolder", 205, "PlaFolder$BestFolding", "known", "Z", "PlaFolder")) rfl) (fun _ h9 => h9) rfl dX5_findBest_4 ?_
  refine lv_if_ne (tgt := 21) hx hb dX5_findBest_7 (by decide) (fun c_1 => ?_) (fun c_1 => ?_)
  · have h := h.1 c_1
    exact W.vret hx hb hr (fun t ht hW => ⟨⟨(kn, ct, bu, bl, tu, tl, bd, bm, d1, d2, d3, d4, d5), rfl, h, by rw [ht]; exact hP, hD⟩, hS.F ht⟩) hS.2.2 dX5_findBest_21
  · have h := h.2 c_1
    refine lv_aload_n hx hb dX5_findBest_10 rfl (lv_at hl 0 rfl) ?_
    refine va_get (D := G.1) (ci := 5) (v := .ref (be 0)) (C := RX5) (T := TX5) (N := 6) hx hb hts hinX5 hown hK.1 hP.l 0 rfl rfl 4 (by decide) (hts (.fieldLink RX5 40 "PlaFolder" "best" "LPlaFolder$BestFolding;") (by decide +kernel)) (fun _ h9 => h9) rfl dX5_findBest_11 ?_
    refine lv_aload_n hx hb dX5_findBest_14 rfl (lv_at hl 0 rfl) ?_
    refine va_get (D := G.1) (ci := 5) (v := .ref (sd 0)) (C := RX5) (T := TX5) (N := 6) hx hb hts hinX5 hown hK.1 hP.l 0 rfl rfl 0 (by decide) (hts (.fieldLink RX5 12 "PlaFolder" "state" "LPlaFolder$State;") (by decide +kernel)) (fun _ h9 => h9) rfl dX5_findBest_15 ?_
    refine kp_v (wr := wP G ad sd hd md rd be er ++ (wH G hd hc sa sv ++ (wD G md ab ++ (wR G rd tr rt)))) (va_runVN (As := [.ref (sd 0)]) (rest := []) ⟨hx, hb, hml, hown, hts⟩ (c_X0_search l G be beD sd _ kn ct bu bl tu tl bd bm d0 d1 d2 d3 d4 d5 inp otp tc fc on ze ou wd lo up  h) ⟨va_cnB 1 hts gX5_findBest_X0_search_n216 rfl rfl rfl (hK.2.M 31 (q := ("PlaFolder", 216, ⟨"PlaFolder$BestFolding", "search", "(LPlaFolder$State;)V"⟩, "PlaFolder")) rfl) (hts (.initialized RX0) (by decide +kernel)) (by decide +kernel) ⟨Nat.le_of_ble_eq_true rfl, Nat.le_of_ble_eq_true rfl⟩, hts (.instanceMethod yX0_search) (by decide +kernel), hts (.selects RX0 yX0_search yX0_search) (by decide +kernel)⟩ (kpVp hK hP hD hZ hS hA (pm6_0234_51 (wP G ad sd hd md rd be er) (wS G sd inp otp tc fc on ze ou wd lo up) (wH G hd hc sa sv) (wD G md ab) (wR G rd tr rt) (wB G be beD kn ct bu bl tu tl bd bm d0 d1 d2 d3 d4 d5)) (q0 := 0) (ci := 0) rfl rfl) rfl rfl hl.1 rfl (lv_room (Nat.le_of_ble_eq_true rfl)) dX5_findBest_18 ⟨Nat.zero_le _, Nat.zero_le _⟩) hP hD hS hA (pm6_0234_51 (wP G ad sd hd md rd be er) (wS G sd inp otp tc fc on ze ou wd lo up) (wH G hd hc sa sv) (wD G md ab) (wR G rd tr rt) (wB G be beD kn ct bu bl tu tl bd bm d0 d1 d2 d3 d4 d5)) (fun w16 H locs h hP hD hS => ?_)
    obtain ⟨u3, u4, u5, u6, u7, u8, u9, u10, u11, u12, u13, u14, u15⟩ := w16
    have hP : va_P G.1 vwCl (wP G ad sd hd md rd be er ++ (wS G sd inp otp tc fc on ze ou wd lo up ++ (wH G hd hc sa sv ++ (wD G md ab ++ (wR G rd tr rt ++ (wB G be beD u3 u4 u5 u6 u7 u8 u9 u10 d0 u11 u12 u13 u14 u15)))))) H := hP.perm (pm6_0234_51 (wP G ad sd hd md rd be er) (wS G sd inp otp tc fc on ze ou wd lo up) (wH G hd hc sa sv) (wD G md ab) (wR G rd tr rt) (wB G be beD u3 u4 u5 u6 u7 u8 u9 u10 d0 u11 u12 u13 u14 u15)).symm
    have hD : va_D A (wP G ad sd hd md rd be er ++ (wS G sd inp otp tc fc on ze ou wd lo up ++ (wH G hd hc sa sv ++ (wD G md ab ++ (wR G rd tr rt ++ (wB G be beD u3 u4 u5 u6 u7 u8 u9 u10 d0 u11 u12 u13 u14 u15)))))) := hD.perm (pm6_0234_51 (wP G ad sd hd md rd be er) (wS G sd inp otp tc fc on ze ou wd lo up) (wH G hd hc sa sv) (wD G md ab) (wR G rd tr rt) (wB G be beD u3 u4 u5 u6 u7 u8 u9 u10 d0 u11 u12 u13 u14 u15)).symm
    try dsimp only at h
    exact W.vret hx hb hr (fun t ht hW => ⟨⟨(u3, u4, u5, u6, u7, u8, u9, u10, u11, u12, u13, u14, u15), rfl, h, by rw [ht]; exact hP, hD⟩, hS.F ht⟩) hS.2.2 dX5_findBest_21
def wp_X5_setSize (a1 : Int32) (a2 : Int32) (er : Nat → Int32) (inp : Int32) (otp : Int32) (tc : Int32) (fc : Int32) (on : Nat → Int32) (ze : Nat → Int32) (ou : Nat → Int32) (wd : Nat → Int64) (lo : Nat → Int32) (up : Nat → Int32) (hc : Int32) (sa : Nat → Nat → Nat) (sv : Nat → SS) (ab : Nat → Int32) (tr : Nat → Int32) (rt : Nat → Int32) (kn : Int32) (K : Int32 → (Nat → Int32) → Int32 → Int32 → Int32 → Int32 → (Nat → Int32) → (Nat → Int32) → Int32 → (Nat → Nat → Nat) → (Nat → SS) → (Nat → Int32) → (Nat → Int32) → (Nat → Int32) → Int32 → Prop) : Prop :=
 ((a1 < (1 : Int32) → wp_X5_fail (-2 : Int32) er (fun (r2 : Int32) (u3 : Nat → Int32) => K r2 u3 inp otp tc fc lo up hc sa sv ab tr rt kn)) ∧
 (¬ (a1 < (1 : Int32)) → (((nI 6) < a1 → wp_X5_fail (-2 : Int32) er (fun (r6 : Int32) (u7 : Nat → Int32) => K r6 u7 inp otp tc fc lo up hc sa sv ab tr rt kn)) ∧
 (¬ ((nI 6) < a1) → ((a2 < (1 : Int32) → wp_X5_fail (-2 : Int32) er (fun (r10 : Int32) (u11 : Nat → Int32) => K r10 u11 inp otp tc fc lo up hc sa sv ab tr rt kn)) ∧
 (¬ (a2 < (1 : Int32)) → ((a2 ≤ (nI 4) → wp_X2_push hc sa sv inp otp tc fc on ze ou wd lo up (fun (u15 : Int32) (u16 : Nat → Nat → Nat) (u17 : Nat → SS) => wp_X4_resize a1 a2 inp otp tc fc lo up (fun (u19 : Int32) (u20 : Int32) (u21 : Int32) (u22 : Int32) (u23 : Nat → Int32) (u24 : Nat → Int32) => wp_X5_termsChanged u21 on ze ou u23 ab tr rt kn (fun (u26 : Nat → Int32) (u27 : Nat → Int32) (u28 : Nat → Int32) (u29 : Int32) => K tc er u19 u20 u21 u22 u23 u24 u15 u16 u17 u26 u27 u28 u29)))) ∧
 (¬ (a2 ≤ (nI 4)) → wp_X5_fail (-2 : Int32) er (fun (r33 : Int32) (u34 : Nat → Int32) => K r33 u34 inp otp tc fc lo up hc sa sv ab tr rt kn)))))))))
abbrev rm_X5_setSize : Room := { frames := 6, cells := 0, slots := 0, locals := 131 }
set_option maxHeartbeats 4000000 in
set_option maxRecDepth 100000 in
theorem c_X5_setSize (l : Launch) (G : GG) (ad : Nat → Nat) (sd : Nat → Nat) (hd : Nat → Nat) (md : Nat → Nat) (rd : Nat → Nat) (be : Nat → Nat) (beD : Nat → Nat → Nat) (sz : Nat) (er : Nat → Int32) (inp : Int32) (otp : Int32) (tc : Int32) (fc : Int32) (on : Nat → Int32) (ze : Nat → Int32) (ou : Nat → Int32) (wd : Nat → Int64) (lo : Nat → Int32) (up : Nat → Int32) (hc : Int32) (sa : Nat → Nat → Nat) (sv : Nat → SS) (ab : Nat → Int32) (tr : Nat → Int32) (rt : Nat → Int32) (kn : Int32) (ct : Int32) (bu : Nat → Int32) (bl : Nat → Int32) (tu : Nat → Int32) (tl : Nat → Int32) (bd : Nat → Int32) (bm : Nat → Int32) (d0 : Nat → Int32) (d1 : Nat → Int32) (d2 : Nat → Int32) (d3 : Nat → Int32) (d4 : Nat → Int32) (d5 : Nat → Int32) (a1 : Int32) (a2 : Int32) {K : Int32 → (Nat → Int32) → Int32 → Int32 → Int32 → Int32 → (Nat → Int32) → (Nat → Int32) → Int32 → (Nat → Nat → Nat) → (Nat → SS) → (Nat → Int32) → (Nat → Int32) → (Nat → Int32) → Int32 → Prop} (h : wp_X5_setSize a1 a2 er inp otp tc fc on ze ou wd lo up hc sa sv ab tr rt kn K) : CI l yX5_setSize wsX5_setSize rm_X5_setSize G [.ref (ad 0), .int a1, .int a2] (wP G ad sd hd md rd be er ++ (wS G sd inp otp tc fc on ze ou wd lo up ++ (wH G hd hc sa sv ++ (wD G md ab ++ (wR G rd tr rt ++ (wB G be beD kn ct bu bl tu tl bd bm d0 d1 d2 d3 d4 d5)))))) sz (fun u : (Nat → Int32) × Int32 × Int32 × Int32 × Int32 × (Nat → Int32) × (Nat → Int32) × Int32 × (Nat → Nat → Nat) × (Nat → SS) × (Nat → Int32) × (Nat → Int32) × (Nat → Int32) × Int32 => wP G ad sd hd md rd be u.1 ++ (wS G sd u.2.1 u.2.2.1 u.2.2.2.1 u.2.2.2.2.1 on ze ou wd u.2.2.2.2.2.1 u.2.2.2.2.2.2.1 ++ (wH G hd u.2.2.2.2.2.2.2.1 u.2.2.2.2.2.2.2.2.1 u.2.2.2.2.2.2.2.2.2.1 ++ (wD G md u.2.2.2.2.2.2.2.2.2.2.1 ++ (wR G rd u.2.2.2.2.2.2.2.2.2.2.2.1 u.2.2.2.2.2.2.2.2.2.2.2.2.1 ++ (wB G be beD u.2.2.2.2.2.2.2.2.2.2.2.2.2 ct bu bl tu tl bd bm d0 d1 d2 d3 d4 d5)))))) (fun r u => K r u.1 u.2.1 u.2.2.1 u.2.2.2.1 u.2.2.2.2.1 u.2.2.2.2.2.1 u.2.2.2.2.2.2.1 u.2.2.2.2.2.2.2.1 u.2.2.2.2.2.2.2.2.1 u.2.2.2.2.2.2.2.2.2.1 u.2.2.2.2.2.2.2.2.2.2.1 u.2.2.2.2.2.2.2.2.2.2.2.1 u.2.2.2.2.2.2.2.2.2.2.2.2.1 u.2.2.2.2.2.2.2.2.2.2.2.2.2) := by
  refine Met.ofW (cc := cX5_setSize) (maxL := 4) (ret := (some .int)) (by decide) rfl ?_
  intro p e s m args below meth c s₁ B hml hv
  obtain ⟨rfl, hsz, hP, hK, hD0, hZ⟩ := hv
  have hx := B.exec
  have hb := B.bytes
  have hr := B.returns
  have hts := atoms_spec (ws := wsX5_setSize) B.pre
  have hown : s.vm.findClass RX5 = some m.cls := findClass_of_methodNamed B.named
  have hlocks := B.notSynchronized
  subst hsz
  have hD := hD0.self (sz := s.heap.size)
  generalize hAe : va_A (wP G ad sd hd md rd be er ++ (wS G sd inp otp tc fc on ze ou wd lo up ++ (wH G hd hc sa sv ++ (wD G md ab ++ (wR G rd tr rt ++ (wB G be beD kn ct bu bl tu tl bd bm d0 d1 d2 d3 d4 d5)))))) s.heap.size = A at hD hZ ⊢
  have hA : ∀ q : Nat, s.heap.size ≤ q → A q := fun q h => by rw [← hAe]; exact Or.inr h
  have hS : va_S A s.heap s.heap [] := va_S.rf
  have hl := lv_entry ([.ref (ad 0), .int a1, .int a2]) (n := 4) (Nat.le_of_ble_eq_true rfl)
  rw [lg_entry_eq]
  generalize (lg_sl ([.ref (ad 0), .int a1, .int a2]) ++ List.replicate (4 - (lg_sl ([.ref (ad 0), .int a1, .int a2])).length) Slot.unset).toArray = ls at hl ⊢
  have hl : lv_has ls 4 [(0, .ref (ad 0)), (1, .int a1), (2, .int a2)] := hl
  unfold wp_X5_setSize at h
  have hinX4 : ∀ w ∈ wsX40, w ∈ wsX5_setSize := by decide +kernel
  have hinX5 : ∀ w ∈ wsX50, w ∈ wsX5_setSize := by decide +kernel
  refine lv_iload_n hx hb dX5_setSize_0 rfl (lv_at hl 1 rfl) ?_
  refine lv_iconst (v := (1 : Int32)) hx hb dX5_setSize_1 (by decide) ?_
  refine lv_icmp_lt (tgt := 21) hx hb dX5_setSize_2 (by decide) (fun c_1 => ?_) (fun c_1 => ?_)
  · have h := h.1 c_1
    refine lv_aload_n hx hb dX5_setSize_21 rfl (lv_at hl 0 rfl) ?_
    refine lv_bipush (v := (-2 : Int32)) hx hb dX5_setSize_22 (by decide) ?_
    refine kp_i (wr := ([] : va_W)) (va_runV (As := [.int (-2 : Int32)]) (rest := []) ⟨hx, hb, hml, hown, hts⟩ (c_X5_fail l G ad sd hd md rd be beD _ er inp otp tc fc on ze ou wd lo up hc sa sv ab tr rt kn ct bu bl tu tl bd bm d0 d1 d2 d3 d4 d5 (-2 : Int32) h) (cwV 1 hts gX5_setSize_X5_fail rfl rfl rfl (by decide +kernel) ⟨Nat.le_of_ble_eq_true rfl, Nat.le_of_ble_eq_true rfl⟩) (kpVp hK hP hD hZ hS hA (pm_all _) (q0 := 0) (ci := 5) rfl rfl) rfl rfl hl.1 rfl (lv_room (Nat.le_of_ble_eq_true rfl)) dX5_setSize_24 ⟨Nat.zero_le _, Nat.zero_le _⟩) hP hD hS hA (pm_all _) (fun r2 w4 H locs h hP hD hS => ?_)
    obtain ⟨u3, rfl⟩ : ∃ z, z = w4 := ⟨_, rfl⟩
    have hP : va_P G.1 vwCl (wP G ad sd hd md rd be u3 ++ (wS G sd inp otp tc fc on ze ou wd lo up ++ (wH G hd hc sa sv ++ (wD G md ab ++ (wR G rd tr rt ++ (wB G be beD kn ct bu bl tu tl bd bm d0 d1 d2 d3 d4 d5)))))) H := hP.perm (pm_all _).symm
    have hD : va_D A (wP G ad sd hd md rd be u3 ++ (wS G sd inp otp tc fc on ze ou wd lo up ++ (wH G hd hc sa sv ++ (wD G md ab ++ (wR G rd tr rt ++ (wB G be beD kn ct bu bl tu tl bd bm d0 d1 d2 d3 d4 d5)))))) := hD.perm (pm_all _).symm
    try dsimp only at h
    exact W.iret hx hb hr (fun t ht hW => ⟨⟨_, (u3, inp, otp, tc, fc, lo, up, hc, sa, sv, ab, tr, rt, kn), rfl, h, by rw [ht]; exact hP, hD⟩, hS.F ht⟩) hS.2.2 dX5_setSize_27
  · have h := h.2 c_1
    refine lv_iload_n hx hb dX5_setSize_5 rfl (lv_at hl 1 rfl) ?_
    refine lv_bipush (v := (nI 6)) hx hb dX5_setSize_6 (by decide) ?_
    refine lv_icmp_gt (tgt := 21) hx hb dX5_setSize_8 (by decide) (fun c_5 => ?_) (fun c_5 => ?_)
    · have h := h.1 c_5
      refine lv_aload_n hx hb dX5_setSize_21 rfl (lv_at hl 0 rfl) ?_
      refine lv_bipush (v := (-2 : Int32)) hx hb dX5_setSize_22 (by decide) ?_
      refine kp_i (wr := ([] : va_W)) (va_runV (As := [.int (-2 : Int32)]) (rest := []) ⟨hx, hb, hml, hown, hts⟩ (c_X5_fail l G ad sd hd md rd be beD _ er inp otp tc fc on ze ou wd lo up hc sa sv ab tr rt kn ct bu bl tu tl bd bm d0 d1 d2 d3 d4 d5 (-2 : Int32) h) (cwV 1 hts gX5_setSize_X5_fail rfl rfl rfl (by decide +kernel) ⟨Nat.le_of_ble_eq_true rfl, Nat.le_of_ble_eq_true rfl⟩) (kpVp hK hP hD hZ hS hA (pm_all _) (q0 := 0) (ci := 5) rfl rfl) rfl rfl hl.1 rfl (lv_room (Nat.le_of_ble_eq_true rfl)) dX5_setSize_24 ⟨Nat.zero_le _, Nat.zero_le _⟩) hP hD hS hA (pm_all _) (fun r6 w8 H locs h hP hD hS => ?_)
      obtain ⟨u7, rfl⟩ : ∃ z, z = w8 := ⟨_, rfl⟩
      have hP : va_P G.1 vwCl (wP G ad sd hd md rd be u7 ++ (wS G sd inp otp tc fc on ze ou wd lo up ++ (wH G hd hc sa sv ++ (wD G md ab ++ (wR G rd tr rt ++ (wB G be beD kn ct bu bl tu tl bd bm d0 d1 d2 d3 d4 d5)))))) H := hP.perm (pm_all _).symm
      have hD : va_D A (wP G ad sd hd md rd be u7 ++ (wS G sd inp otp tc fc on ze ou wd lo up ++ (wH G hd hc sa sv ++ (wD G md ab ++ (wR G rd tr rt ++ (wB G be beD kn ct bu bl tu tl bd bm d0 d1 d2 d3 d4 d5)))))) := hD.perm (pm_all _).symm
      try dsimp only at h
      exact W.iret hx hb hr (fun t ht hW => ⟨⟨_, (u7, inp, otp, tc, fc, lo, up, hc, sa, sv, ab, tr, rt, kn), rfl, h, by rw [ht]; exact hP, hD⟩, hS.F ht⟩) hS.2.2 dX5_setSize_27
    · have h := h.2 c_5
      refine lv_iload_n hx hb dX5_setSize_11 rfl (lv_at hl 2 rfl) ?_
      refine lv_iconst (v := (1 : Int32)) hx hb dX5_setSize_12 (by decide) ?_
      refine lv_icmp_lt (tgt := 21) hx hb dX5_setSize_13 (by decide) (fun c_9 => ?_) (fun c_9 => ?_)
      · have h := h.1 c_9
        refine lv_aload_n hx hb dX5_setSize_21 rfl (lv_at hl 0 rfl) ?_
        refine lv_bipush (v := (-2 : Int32)) hx hb dX5_setSize_22 (by decide) ?_
        refine kp_i (wr := ([] : va_W)) (va_runV (As := [.int (-2 : Int32)]) (rest := []) ⟨hx, hb, hml, hown, hts⟩ (c_X5_fail l G ad sd hd md rd be beD _ er inp otp tc fc on ze ou wd lo up hc sa sv ab tr rt kn ct bu bl tu tl bd bm d0 d1 d2 d3 d4 d5 (-2 : Int32) h) (cwV 1 hts gX5_setSize_X5_fail rfl rfl rfl (by decide +kernel) ⟨Nat.le_of_ble_eq_true rfl, Nat.le_of_ble_eq_true rfl⟩) (kpVp hK hP hD hZ hS hA (pm_all _) (q0 := 0) (ci := 5) rfl rfl) rfl rfl hl.1 rfl (lv_room (Nat.le_of_ble_eq_true rfl)) dX5_setSize_24 ⟨Nat.zero_le _, Nat.zero_le _⟩) hP hD hS hA (pm_all _) (fun r10 w12 H locs h hP hD hS => ?_)
        obtain ⟨u11, rfl⟩ : ∃ z, z = w12 := ⟨_, rfl⟩
        have hP : va_P G.1 vwCl (wP G ad sd hd md rd be u11 ++ (wS G sd inp otp tc fc on ze ou wd lo up ++ (wH G hd hc sa sv ++ (wD G md ab ++ (wR G rd tr rt ++ (wB G be beD kn ct bu bl tu tl bd bm d0 d1 d2 d3 d4 d5)))))) H := hP.perm (pm_all _).symm
        have hD : va_D A (wP G ad sd hd md rd be u11 ++ (wS G sd inp otp tc fc on ze ou wd lo up ++ (wH G hd hc sa sv ++ (wD G md ab ++ (wR G rd tr rt ++ (wB G be beD kn ct bu bl tu tl bd bm d0 d1 d2 d3 d4 d5)))))) := hD.perm (pm_all _).symm
        try dsimp only at h
        exact W.iret hx hb hr (fun t ht hW => ⟨⟨_, (u11, inp, otp, tc, fc, lo, up, hc, sa, sv, ab, tr, rt, kn), rfl, h, by rw [ht]; exact hP, hD⟩, hS.F ht⟩) hS.2.2 dX5_setSize_27
      · have h := h.2 c_9
        refine lv_iload_n hx hb dX5_setSize_16 rfl (lv_at hl 2 rfl) ?_
        refine lv_iconst (v := (nI 4)) hx hb dX5_setSize_17 (by decide) ?_
        refine lv_icmp_le (tgt := 28) hx hb dX5_setSize_18 (by decide) (fun c_13 => ?_) (fun c_13 => ?_)
        · have h := h.1 c_13
          refine lv_aload_n hx hb dX5_setSize_28 rfl (lv_at hl 0 rfl) ?_
          refine va_get (D := G.1) (ci := 5) (v := .ref (hd 0)) (C := RX5) (T := TX5) (N := 6) hx hb hts hinX5 hown hK.1 hP.l 0 rfl rfl 1 (by decide) (hts (.fieldLink RX5 19 "PlaFolder" "history" "LPlaFolder$History;") (by decide +kernel)) (fun _ h9 => h9) rfl dX5_setSize_29 ?_
          refine lv_aload_n hx hb dX5_setSize_32 rfl (lv_at hl 0 rfl) ?_
          refine va_get (D := G.1) (ci := 5) (v := .ref (sd 0)) (C := RX5) (T := TX5) (N := 6) hx hb hts hinX5 hown hK.1 hP.l 0 rfl rfl 0 (by decide) (hts (.fieldLink RX5 12 "PlaFolder" "state" "LPlaFolder$State;") (by decide +kernel)) (fun _ h9 => h9) rfl dX5_setSize_33 ?_
          refine kp_v (wr := wP G ad sd hd md rd be er ++ (wD G md ab ++ (wR G rd tr rt ++ (wB G be beD kn ct bu bl tu tl bd bm d0 d1 d2 d3 d4 d5)))) (va_runVN (As := [.ref (sd 0)]) (rest := []) ⟨hx, hb, hml, hown, hts⟩ (c_X2_push l G hd sd _ hc sa sv inp otp tc fc on ze ou wd lo up  h) ⟨va_cnB 1 hts gX5_setSize_X2_push_n52 rfl rfl rfl (hK.2.M 7 (q := ("PlaFolder", 52, ⟨"PlaFolder$History", "push", "(LPlaFolder$State;)V"⟩, "PlaFolder")) rfl) (hts (.initialized RX2) (by decide +kernel)) (by decide +kernel) ⟨Nat.le_of_ble_eq_true rfl, Nat.le_of_ble_eq_true rfl⟩, hts (.instanceMethod yX2_push) (by decide +kernel), hts (.selects RX2 yX2_push yX2_push) (by decide +kernel)⟩ (kpVp hK hP hD hZ hS hA (pm6_0345_21 (wP G ad sd hd md rd be er) (wS G sd inp otp tc fc on ze ou wd lo up) (wH G hd hc sa sv) (wD G md ab) (wR G rd tr rt) (wB G be beD kn ct bu bl tu tl bd bm d0 d1 d2 d3 d4 d5)) (q0 := 0) (ci := 2) rfl rfl) rfl rfl hl.1 rfl (lv_room (Nat.le_of_ble_eq_true rfl)) dX5_setSize_36 ⟨Nat.zero_le _, Nat.zero_le _⟩) hP hD hS hA (pm6_0345_21 (wP G ad sd hd md rd be er) (wS G sd inp otp tc fc on ze ou wd lo up) (wH G hd hc sa sv) (wD G md ab) (wR G rd tr rt) (wB G be beD kn ct bu bl tu tl bd bm d0 d1 d2 d3 d4 d5)) (fun w32 H locs h hP hD hS => ?_)
          obtain ⟨u15, u16, u17⟩ := w32
          have hP : va_P G.1 vwCl (wP G ad sd hd md rd be er ++ (wS G sd inp otp tc fc on ze ou wd lo up ++ (wH G hd u15 u16 u17 ++ (wD G md ab ++ (wR G rd tr rt ++ (wB G be beD kn ct bu bl tu tl bd bm d0 d1 d2 d3 d4 d5)))))) H := hP.perm (pm6_0345_21 (wP G ad sd hd md rd be er) (wS G sd inp otp tc fc on ze ou wd lo up) (wH G hd u15 u16 u17) (wD G md ab) (wR G rd tr rt) (wB G be beD kn ct bu bl tu tl bd bm d0 d1 d2 d3 d4 d5)).symm
          have hD : va_D A (wP G ad sd hd md rd be er ++ (wS G sd inp otp tc fc on ze ou wd lo up ++ (wH G hd u15 u16 u17 ++ (wD G md ab ++ (wR G rd tr rt ++ (wB G be beD kn ct bu bl tu tl bd bm d0 d1 d2 d3 d4 d5)))))) := hD.perm (pm6_0345_21 (wP G ad sd hd md rd be er) (wS G sd inp otp tc fc on ze ou wd lo up) (wH G hd u15 u16 u17) (wD G md ab) (wR G rd tr rt) (wB G be beD kn ct bu bl tu tl bd bm d0 d1 d2 d3 d4 d5)).symm
          try dsimp only at h
          refine lv_aload_n hx hb dX5_setSize_39 rfl (lv_at hl 0 rfl) ?_
          refine va_get (D := G.1) (ci := 5) (v := .ref (sd 0)) (C := RX5) (T := TX5) (N := 6) hx hb hts hinX5 hown hK.1 hP.l 0 rfl rfl 0 (by decide) (hts (.fieldLink RX5 12 "PlaFolder" "state" "LPlaFolder$State;") (by decide +kernel)) (fun _ h9 => h9) rfl dX5_setSize_40 ?_
          refine va_getN (D := G.1) (ci := 4) (v := .int tc) (C := RX4) (T := TX4) (N := 10) (host := "PlaFolder") hx hb hts hinX4 hown hK.1 hP.r.l 0 rfl rfl 2 (by decide) (hK.2.F 2 (q := ("PlaFolder", 56, "PlaFolder$State", "termCount", "I", "PlaFolder")) rfl) (fun _ h9 => h9) rfl dX5_setSize_43 ?_
          refine lv_istore_n (lv' := [(3, .int tc), (0, .ref (ad 0)), (1, .int a1), (2, .int a2)]) hx hb dX5_setSize_46 rfl hl (by decide) rfl (fun ls hl => ?_)
          refine lv_aload_n hx hb dX5_setSize_47 rfl (lv_at hl 1 rfl) ?_
          refine va_get (D := G.1) (ci := 5) (v := .ref (sd 0)) (C := RX5) (T := TX5) (N := 6) hx hb hts hinX5 hown hK.1 hP.l 0 rfl rfl 0 (by decide) (hts (.fieldLink RX5 12 "PlaFolder" "state" "LPlaFolder$State;") (by decide +kernel)) (fun _ h9 => h9) rfl dX5_setSize_48 ?_
          refine lv_iload_n hx hb dX5_setSize_51 rfl (lv_at hl 2 rfl) ?_
          refine lv_iload_n hx hb dX5_setSize_52 rfl (lv_at hl 3 rfl) ?_
          refine kp_v (wr := wP G ad sd hd md rd be er ++ (wH G hd u15 u16 u17 ++ (wD G md ab ++ (wR G rd tr rt ++ (wB G be beD kn ct bu bl tu tl bd bm d0 d1 d2 d3 d4 d5))))) (va_runVN (As := [.int a1, .int a2]) (rest := []) ⟨hx, hb, hml, hown, hts⟩ (c_X4_resize l G sd _ inp otp tc fc on ze ou wd lo up a1 a2 h) ⟨va_cnB 2 hts gX5_setSize_X4_resize_n60 rfl rfl rfl (hK.2.M 9 (q := ("PlaFolder", 60, ⟨"PlaFolder$State", "resize", "(II)V"⟩, "PlaFolder")) rfl) (hts (.initialized RX4) (by decide +kernel)) (by decide +kernel) ⟨Nat.le_of_ble_eq_true rfl, Nat.le_of_ble_eq_true rfl⟩, hts (.instanceMethod yX4_resize) (by decide +kernel), hts (.selects RX4 yX4_resize yX4_resize) (by decide +kernel)⟩ (kpVp hK hP hD hZ hS hA (pm6_02345_1 (wP G ad sd hd md rd be er) (wS G sd inp otp tc fc on ze ou wd lo up) (wH G hd u15 u16 u17) (wD G md ab) (wR G rd tr rt) (wB G be beD kn ct bu bl tu tl bd bm d0 d1 d2 d3 d4 d5)) (q0 := 0) (ci := 4) rfl rfl) rfl rfl hl.1 rfl (lv_room (Nat.le_of_ble_eq_true rfl)) dX5_setSize_53 ⟨Nat.zero_le _, Nat.zero_le _⟩) hP hD hS hA (pm6_02345_1 (wP G ad sd hd md rd be er) (wS G sd inp otp tc fc on ze ou wd lo up) (wH G hd u15 u16 u17) (wD G md ab) (wR G rd tr rt) (wB G be beD kn ct bu bl tu tl bd bm d0 d1 d2 d3 d4 d5)) (fun w31 H locs h hP hD hS => ?_)
          obtain ⟨u19, u20, u21, u22, u23, u24⟩ := w31
          have hP : va_P G.1 vwCl (wP G ad sd hd md rd be er ++ (wS G sd u19 u20 u21 u22 on ze ou wd u23 u24 ++ (wH G hd u15 u16 u17 ++ (wD G md ab ++ (wR G rd tr rt ++ (wB G be beD kn ct bu bl tu tl bd bm d0 d1 d2 d3 d4 d5)))))) H := hP.perm (pm6_02345_1 (wP G ad sd hd md rd be er) (wS G sd u19 u20 u21 u22 on ze ou wd u23 u24) (wH G hd u15 u16 u17) (wD G md ab) (wR G rd tr rt) (wB G be beD kn ct bu bl tu tl bd bm d0 d1 d2 d3 d4 d5)).symm
          have hD : va_D A (wP G ad sd hd md rd be er ++ (wS G sd u19 u20 u21 u22 on ze ou wd u23 u24 ++ (wH G hd u15 u16 u17 ++ (wD G md ab ++ (wR G rd tr rt ++ (wB G be beD kn ct bu bl tu tl bd bm d0 d1 d2 d3 d4 d5)))))) := hD.perm (pm6_02345_1 (wP G ad sd hd md rd be er) (wS G sd u19 u20 u21 u22 on ze ou wd u23 u24) (wH G hd u15 u16 u17) (wD G md ab) (wR G rd tr rt) (wB G be beD kn ct bu bl tu tl bd bm d0 d1 d2 d3 d4 d5)).symm
          try dsimp only at h
          refine lv_aload_n hx hb dX5_setSize_56 rfl (lv_at hl 1 rfl) ?_
          refine kp_v (wr := ([] : va_W)) (va_runV (As := []) (rest := []) ⟨hx, hb, hml, hown, hts⟩ (c_X5_termsChanged l G ad sd hd md rd be beD _ er u19 u20 u21 u22 on ze ou wd u23 u24 u15 u16 u17 ab tr rt kn ct bu bl tu tl bd bm d0 d1 d2 d3 d4 d5  h) (cwV 0 hts gX5_setSize_X5_termsChanged rfl rfl rfl (by decide +kernel) ⟨Nat.le_of_ble_eq_true rfl, Nat.le_of_ble_eq_true rfl⟩) (kpVp hK hP hD hZ hS hA (pm_all _) (q0 := 0) (ci := 5) rfl rfl) rfl rfl hl.1 rfl (lv_room (Nat.le_of_ble_eq_true rfl)) dX5_setSize_57 ⟨Nat.zero_le _, Nat.zero_le _⟩) hP hD hS hA (pm_all _) (fun w30 H locs h hP hD hS => ?_)
          obtain ⟨u26, u27, u28, u29⟩ := w30
          have hP : va_P G.1 vwCl (wP G ad sd hd md rd be er ++ (wS G sd u19 u20 u21 u22 on ze ou wd u23 u24 ++ (wH G hd u15 u16 u17 ++ (wD G md u26 ++ (wR G rd u27 u28 ++ (wB G be beD u29 ct bu bl tu tl bd bm d0 d1 d2 d3 d4 d5)))))) H := hP.perm (pm_all _).symm
          have hD : va_D A (wP G ad sd hd md rd be er ++ (wS G sd u19 u20 u21 u22 on ze ou wd u23 u24 ++ (wH G hd u15 u16 u17 ++ (wD G md u26 ++ (wR G rd u27 u28 ++ (wB G be beD u29 ct bu bl tu tl bd bm d0 d1 d2 d3 d4 d5)))))) := hD.perm (pm_all _).symm
          try dsimp only at h
          refine lv_iload_n hx hb dX5_setSize_60 rfl (lv_at hl 0 rfl) ?_
          exact W.iret hx hb hr (fun t ht hW => ⟨⟨_, (er, u19, u20, u21, u22, u23, u24, u15, u16, u17, u26, u27, u28, u29), rfl, h, by rw [ht]; exact hP, hD⟩, hS.F ht⟩) hS.2.2 dX5_setSize_61
        · have h := h.2 c_13
          refine lv_aload_n hx hb dX5_setSize_21 rfl (lv_at hl 0 rfl) ?_
          refine lv_bipush (v := (-2 : Int32)) hx hb dX5_setSize_22 (by decide) ?_
          refine kp_i (wr := ([] : va_W)) (va_runV (As := [.int (-2 : Int32)]) (rest := []) ⟨hx, hb, hml, hown, hts⟩ (c_X5_fail l G ad sd hd md rd be beD _ er inp otp tc fc on ze ou wd lo up hc sa sv ab tr rt kn ct bu bl tu tl bd bm d0 d1 d2 d3 d4 d5 (-2 : Int32) h) (cwV 1 hts gX5_setSize_X5_fail rfl rfl rfl (by decide +kernel) ⟨Nat.le_of_ble_eq_true rfl, Nat.le_of_ble_eq_true rfl⟩) (kpVp hK hP hD hZ hS hA (pm_all _) (q0 := 0) (ci := 5) rfl rfl) rfl rfl hl.1 rfl (lv_room (Nat.le_of_ble_eq_true rfl)) dX5_setSize_24 ⟨Nat.zero_le _, Nat.zero_le _⟩) hP hD hS hA (pm_all _) (fun r33 w35 H locs h hP hD hS => ?_)
          obtain ⟨u34, rfl⟩ : ∃ z, z = w35 := ⟨_, rfl⟩
          have hP : va_P G.1 vwCl (wP G ad sd hd md rd be u34 ++ (wS G sd inp otp tc fc on ze ou wd lo up ++ (wH G hd hc sa sv ++ (wD G md ab ++ (wR G rd tr rt ++ (wB G be beD kn ct bu bl tu tl bd bm d0 d1 d2 d3 d4 d5)))))) H := hP.perm (pm_all _).symm
          have hD : va_D A (wP G ad sd hd md rd be u34 ++ (wS G sd inp otp tc fc on ze ou wd lo up ++ (wH G hd hc sa sv ++ (wD G md ab ++ (wR G rd tr rt ++ (wB G be beD kn ct bu bl tu tl bd bm d0 d1 d2 d3 d4 d5)))))) := hD.perm (pm_all _).symm
          try dsimp only at h
          exact W.iret hx hb hr (fun t ht hW => ⟨⟨_, (u34, inp, otp, tc, fc, lo, up, hc, sa, sv, ab, tr, rt, kn), rfl, h, by rw [ht]; exact hP, hD⟩, hS.F ht⟩) hS.2.2 dX5_setSize_27
def wp_X5_addTerm (a1 : Int32) (a2 : Int32) (a3 : Int32) (er : Nat → Int32) (inp : Int32) (otp : Int32) (tc : Int32) (fc : Int32) (on : Nat → Int32) (ze : Nat → Int32) (ou : Nat → Int32) (wd : Nat → Int64) (lo : Nat → Int32) (up : Nat → Int32) (hc : Int32) (sa : Nat → Nat → Nat) (sv : Nat → SS) (ab : Nat → Int32) (tr : Nat → Int32) (rt : Nat → Int32) (kn : Int32) (K : Int32 → (Nat → Int32) → Int32 → Int32 → (Nat → Int32) → (Nat → Int32) → (Nat → Int32) → (Nat → Int64) → (Nat → Int32) → (Nat → Int32) → Int32 → (Nat → Nat → Nat) → (Nat → SS) → (Nat → Int32) → (Nat → Int32) → (Nat → Int32) → Int32 → Prop) : Prop :=
 wp_X4_takesTerm a1 a2 a3 inp otp (fun (r1 : Int32) => ((¬ r1 = 0 → ((tc < (nI 10) → wp_X2_push hc sa sv inp otp tc fc on ze ou wd lo up (fun (u5 : Int32) (u6 : Nat → Nat → Nat) (u7 : Nat → SS) => wp_X4_appendTerm a1 a2 a3 inp tc fc on ze ou wd lo up (fun (u9 : Int32) (u10 : Int32) (u11 : Nat → Int32) (u12 : Nat → Int32) (u13 : Nat → Int32) (u14 : Nat → Int64) (u15 : Nat → Int32) (u16 : Nat → Int32) => wp_X5_termsChanged u9 u11 u12 u13 u15 ab tr rt kn (fun (u18 : Nat → Int32) (u19 : Nat → Int32) (u20 : Nat → Int32) (u21 : Int32) => K (u9 - (1 : Int32)) er u9 u10 u11 u12 u13 u14 u15 u16 u5 u6 u7 u18 u19 u20 u21)))) ∧
 (¬ (tc < (nI 10)) → wp_X5_fail (-5 : Int32) er (fun (r25 : Int32) (u26 : Nat → Int32) => K r25 u26 tc fc on ze ou wd lo up hc sa sv ab tr rt kn)))) ∧
 (r1 = 0 → wp_X5_fail (-2 : Int32) er (fun (r28 : Int32) (u29 : Nat → Int32) => K r28 u29 tc fc on ze ou wd lo up hc sa sv ab tr rt kn))))
abbrev rm_X5_addTerm : Room := { frames := 6, cells := 0, slots := 0, locals := 131 }
set_option maxHeartbeats 4000000 in
set_option maxRecDepth 100000 in
theorem c_X5_addTerm (l : Launch) (G : GG) (ad : Nat → Nat) (sd : Nat → Nat) (hd : Nat → Nat) (md : Nat → Nat) (rd : Nat → Nat) (be : Nat → Nat) (beD : Nat → Nat → Nat) (sz : Nat) (er : Nat → Int32) (inp : Int32) (otp : Int32) (tc : Int32) (fc : Int32) (on : Nat → Int32) (ze : Nat → Int32) (ou : Nat → Int32) (wd : Nat → Int64) (lo : Nat → Int32) (up : Nat → Int32) (hc : Int32) (sa : Nat → Nat → Nat) (sv : Nat → SS) (ab : Nat → Int32) (tr : Nat → Int32) (rt : Nat → Int32) (kn : Int32) (ct : Int32) (bu : Nat → Int32) (bl : Nat → Int32) (tu : Nat → Int32) (tl : Nat → Int32) (bd : Nat → Int32) (bm : Nat → Int32) (d0 : Nat → Int32) (d1 : Nat → Int32) (d2 : Nat → Int32) (d3 : Nat → Int32) (d4 : Nat → Int32) (d5 : Nat → Int32) (a1 : Int32) (a2 : Int32) (a3 : Int32) {K : Int32 → (Nat → Int32) → Int32 → Int32 → (Nat → Int32) → (Nat → Int32) → (Nat → Int32) → (Nat → Int64) → (Nat → Int32) → (Nat → Int32) → Int32 → (Nat → Nat → Nat) → (Nat → SS) → (Nat → Int32) → (Nat → Int32) → (Nat → Int32) → Int32 → Prop} (h : wp_X5_addTerm a1 a2 a3 er inp otp tc fc on ze ou wd lo up hc sa sv ab tr rt kn K) : CI l yX5_addTerm wsX5_addTerm rm_X5_addTerm G [.ref (ad 0), .int a1, .int a2, .int a3] (wP G ad sd hd md rd be er ++ (wS G sd inp otp tc fc on ze ou wd lo up ++ (wH G hd hc sa sv ++ (wD G md ab ++ (wR G rd tr rt ++ (wB G be beD kn ct bu bl tu tl bd bm d0 d1 d2 d3 d4 d5)))))) sz (fun u : (Nat → Int32) × Int32 × Int32 × (Nat → Int32) × (Nat → Int32) × (Nat → Int32) × (Nat → Int64) × (Nat → Int32) × (Nat → Int32) × Int32 × (Nat → Nat → Nat) × (Nat → SS) × (Nat → Int32) × (Nat → Int32) × (Nat → Int32) × Int32 => wP G ad sd hd md rd be u.1 ++ (wS G sd inp otp u.2.1 u.2.2.1 u.2.2.2.1 u.2.2.2.2.1 u.2.2.2.2.2.1 u.2.2.2.2.2.2.1 u.2.2.2.2.2.2.2.1 u.2.2.2.2.2.2.2.2.1 ++ (wH G hd u.2.2.2.2.2.2.2.2.2.1 u.2.2.2.2.2.2.2.2.2.2.1 u.2.2.2.2.2.2.2.2.2.2.2.1 ++ (wD G md u.2.2.2.2.2.2.2.2.2.2.2.2.1 ++ (wR G rd u.2.2.2.2.2.2.2.2.2.2.2.2.2.1 u.2.2.2.2.2.2.2.2.2.2.2.2.2.2.1 ++ (wB G be beD u.2.2.2.2.2.2.2.2.2.2.2.2.2.2.2 ct bu bl tu tl bd bm d0 d1 d2 d3 d4 d5)))))) (fun r u => K r u.1 u.2.1 u.2.2.1 u.2.2.2.1 u.2.2.2.2.1 u.2.2.2.2.2.1 u.2.2.2.2.2.2.1 u.2.2.2.2.2.2.2.1 u.2.2.2.2.2.2.2.2.1 u.2.2.2.2.2.2.2.2.2.1 u.2.2.2.2.2.2.2.2.2.2.1 u.2.2.2.2.2.2.2.2.2.2.2.1 u.2.2.2.2.2.2.2.2.2.2.2.2.1 u.2.2.2.2.2.2.2.2.2.2.2.2.2.1 u.2.2.2.2.2.2.2.2.2.2.2.2.2.2.1 u.2.2.2.2.2.2.2.2.2.2.2.2.2.2.2) := by
  refine Met.ofW (cc := cX5_addTerm) (maxL := 4) (ret := (some .int)) (by decide) rfl ?_
  intro p e s m args below meth c s₁ B hml hv
  obtain ⟨rfl, hsz, hP, hK, hD0, hZ⟩ := hv
  have hx := B.exec
  have hb := B.bytes
  have hr := B.returns
  have hts := atoms_spec (ws := wsX5_addTerm) B.pre
  have hown : s.vm.findClass RX5 = some m.cls := findClass_of_methodNamed B.named
  have hlocks := B.notSynchronized
  subst hsz
  have hD := hD0.self (sz := s.heap.size)
  generalize hAe : va_A (wP G ad sd hd md rd be er ++ (wS G sd inp otp tc fc on ze ou wd lo up ++ (wH G hd hc sa sv ++ (wD G md ab ++ (wR G rd tr rt ++ (wB G be beD kn ct bu bl tu tl bd bm d0 d1 d2 d3 d4 d5)))))) s.heap.size = A at hD hZ ⊢
  have hA : ∀ q : Nat, s.heap.size ≤ q → A q := fun q h => by rw [← hAe]; exact Or.inr h
  have hS : va_S A s.heap s.heap [] := va_S.rf
  have hl := lv_entry ([.ref (ad 0), .int a1, .int a2, .int a3]) (n := 4) (Nat.le_of_ble_eq_true rfl)
  rw [lg_entry_eq]
  generalize (lg_sl ([.ref (ad 0), .int a1, .int a2, .int a3]) ++ List.replicate (4 - (lg_sl ([.ref (ad 0), .int a1, .int a2, .int a3])).length) Slot.unset).toArray = ls at hl ⊢
  have hl : lv_has ls 4 [(0, .ref (ad 0)), (1, .int a1), (2, .int a2), (3, .int a3)] := hl
  unfold wp_X5_addTerm at h
  have hinX4 : ∀ w ∈ wsX40, w ∈ wsX5_addTerm := by decide +kernel
  have hinX5 : ∀ w ∈ wsX50, w ∈ wsX5_addTerm := by decide +kernel
  refine lv_aload_n hx hb dX5_addTerm_0 rfl (lv_at hl 0 rfl) ?_
  refine va_get (D := G.1) (ci := 5) (v := .ref (sd 0)) (C := RX5) (T := TX5) (N := 6) hx hb hts hinX5 hown hK.1 hP.l 0 rfl rfl 0 (by decide) (hts (.fieldLink RX5 12 "PlaFolder" "state" "LPlaFolder$State;") (by decide +kernel)) (fun _ h9 => h9) rfl dX5_addTerm_1 ?_
  refine lv_iload_n hx hb dX5_addTerm_4 rfl (lv_at hl 1 rfl) ?_
  refine lv_iload_n hx hb dX5_addTerm_5 rfl (lv_at hl 2 rfl) ?_
  refine lv_iload_n hx hb dX5_addTerm_6 rfl (lv_at hl 3 rfl) ?_
  refine kp_i (wr := wP G ad sd hd md rd be er ++ (wH G hd hc sa sv ++ (wD G md ab ++ (wR G rd tr rt ++ (wB G be beD kn ct bu bl tu tl bd bm d0 d1 d2 d3 d4 d5))))) (va_runVN (As := [.int a1, .int a2, .int a3]) (rest := []) ⟨hx, hb, hml, hown, hts⟩ (c_X4_takesTerm l G sd _ inp otp tc fc on ze ou wd lo up a1 a2 a3 h) ⟨va_cnB 3 hts gX5_addTerm_X4_takesTerm_n67 rfl rfl rfl (hK.2.M 16 (q := ("PlaFolder", 67, ⟨"PlaFolder$State", "takesTerm", "(III)Z"⟩, "PlaFolder")) rfl) (hts (.initialized RX4) (by decide +kernel)) (by decide +kernel) ⟨Nat.le_of_ble_eq_true rfl, Nat.le_of_ble_eq_true rfl⟩, hts (.instanceMethod yX4_takesTerm) (by decide +kernel), hts (.selects RX4 yX4_takesTerm yX4_takesTerm) (by decide +kernel)⟩ (kpVp hK hP hD hZ hS hA (pm6_02345_1 (wP G ad sd hd md rd be er) (wS G sd inp otp tc fc on ze ou wd lo up) (wH G hd hc sa sv) (wD G md ab) (wR G rd tr rt) (wB G be beD kn ct bu bl tu tl bd bm d0 d1 d2 d3 d4 d5)) (q0 := 0) (ci := 4) rfl rfl) rfl rfl hl.1 rfl (lv_room (Nat.le_of_ble_eq_true rfl)) dX5_addTerm_7 ⟨Nat.zero_le _, Nat.zero_le _⟩) hP hD hS hA (pm6_02345_1 (wP G ad sd hd md rd be er) (wS G sd inp otp tc fc on ze ou wd lo up) (wH G hd hc sa sv) (wD G md ab) (wR G rd tr rt) (wB G be beD kn ct bu bl tu tl bd bm d0 d1 d2 d3 d4 d5)) (fun r1 w31 H locs h hP hD hS => ?_)
  have hP : va_P G.1 vwCl (wP G ad sd hd md rd be er ++ (wS G sd inp otp tc fc on ze ou wd lo up ++ (wH G hd hc sa sv ++ (wD G md ab ++ (wR G rd tr rt ++ (wB G be beD kn ct bu bl tu tl bd bm d0 d1 d2 d3 d4 d5)))))) H := hP.perm (pm6_02345_1 (wP G ad sd hd md rd be er) (wS G sd inp otp tc fc on ze ou wd lo up) (wH G hd hc sa sv) (wD G md ab) (wR G rd tr rt) (wB G be beD kn ct bu bl tu tl bd bm d0 d1 d2 d3 d4 d5)).symm
  have hD : va_D A (wP G ad sd hd md rd be er ++ (wS G sd inp otp tc fc on ze ou wd lo up ++ (wH G hd hc sa sv ++ (wD G md ab ++ (wR G rd tr rt ++ (wB G be beD kn ct bu bl tu tl bd bm d0 d1 d2 d3 d4 d5)))))) := hD.perm (pm6_02345_1 (wP G ad sd hd md rd be er) (wS G sd inp otp tc fc on ze ou wd lo up) (wH G hd hc sa sv) (wD G md ab) (wR G rd tr rt) (wB G be beD kn ct bu bl tu tl bd bm d0 d1 d2 d3 d4 d5)).symm
  try dsimp only at h
  refine lv_if_ne (tgt := 20) hx hb dX5_addTerm_10 (by decide) (fun c_2 => ?_) (fun c_2 => ?_)
  · have h := h.1 c_2
    refine lv_aload_n hx hb dX5_addTerm_20 rfl (lv_at hl 0 rfl) ?_
    refine va_get (D := G.1) (ci := 5) (v := .ref (sd 0)) (C := RX5) (T := TX5) (N := 6) hx hb hts hinX5 hown hK.1 hP.l 0 rfl rfl 0 (by decide) (hts (.fieldLink RX5 12 "PlaFolder" "state" "LPlaFolder$State;") (by decide +kernel)) (fun _ h9 => h9) rfl dX5_addTerm_21 ?_
    refine va_getN (D := G.1) (ci := 4) (v := .int tc) (C := RX4) (T := TX4) (N := 10) (host := "PlaFolder") hx hb hts hinX4 hown hK.1 hP.r.l 0 rfl rfl 2 (by decide) (hK.2.F 2 (q := ("PlaFolder", 56, "PlaFolder$State", "termCount", "I", "PlaFolder")) rfl) (fun _ h9 => h9) rfl dX5_addTerm_24 ?_
    refine lv_bipush (v := (nI 10)) hx hb dX5_addTerm_27 (by decide) ?_
    refine lv_icmp_lt (tgt := 39) hx hb dX5_addTerm_29 (by decide) (fun c_3 => ?_) (fun c_3 => ?_)
    · have h := h.1 c_3
      refine lv_aload_n hx hb dX5_addTerm_39 rfl (lv_at hl 0 rfl) ?_
      refine va_get (D := G.1) (ci := 5) (v := .ref (hd 0)) (C := RX5) (T := TX5) (N := 6) hx hb hts hinX5 hown hK.1 hP.l 0 rfl rfl 1 (by decide) (hts (.fieldLink RX5 19 "PlaFolder" "history" "LPlaFolder$History;") (by decide +kernel)) (fun _ h9 => h9) rfl dX5_addTerm_40 ?_
      refine lv_aload_n hx hb dX5_addTerm_43 rfl (lv_at hl 0 rfl) ?_
      refine va_get (D := G.1) (ci := 5) (v := .ref (sd 0)) (C := RX5) (T := TX5) (N := 6) hx hb hts hinX5 hown hK.1 hP.l 0 rfl rfl 0 (by decide) (hts (.fieldLink RX5 12 "PlaFolder" "state" "LPlaFolder$State;") (by decide +kernel)) (fun _ h9 => h9) rfl dX5_addTerm_44 ?_
      refine kp_v (wr := wP G ad sd hd md rd be er ++ (wD G md ab ++ (wR G rd tr rt ++ (wB G be beD kn ct bu bl tu tl bd bm d0 d1 d2 d3 d4 d5)))) (va_runVN (As := [.ref (sd 0)]) (rest := []) ⟨hx, hb, hml, hown, hts⟩ (c_X2_push l G hd sd _ hc sa sv inp otp tc fc on ze ou wd lo up  h) ⟨va_cnB 1 hts gX5_addTerm_X2_push_n52 rfl rfl rfl (hK.2.M 7 (q := ("PlaFolder", 52, ⟨"PlaFolder$History", "push", "(LPlaFolder$State;)V"⟩, "PlaFolder")) rfl) (hts (.initialized RX2) (by decide +kernel)) (by decide +kernel) ⟨Nat.le_of_ble_eq_true rfl, Nat.le_of_ble_eq_true rfl⟩, hts (.instanceMethod yX2_push) (by decide +kernel), hts (.selects RX2 yX2_push yX2_push) (by decide +kernel)⟩ (kpVp hK hP hD hZ hS hA (pm6_0345_21 (wP G ad sd hd md rd be er) (wS G sd inp otp tc fc on ze ou wd lo up) (wH G hd hc sa sv) (wD G md ab) (wR G rd tr rt) (wB G be beD kn ct bu bl tu tl bd bm d0 d1 d2 d3 d4 d5)) (q0 := 0) (ci := 2) rfl rfl) rfl rfl hl.1 rfl (lv_room (Nat.le_of_ble_eq_true rfl)) dX5_addTerm_47 ⟨Nat.zero_le _, Nat.zero_le _⟩) hP hD hS hA (pm6_0345_21 (wP G ad sd hd md rd be er) (wS G sd inp otp tc fc on ze ou wd lo up) (wH G hd hc sa sv) (wD G md ab) (wR G rd tr rt) (wB G be beD kn ct bu bl tu tl bd bm d0 d1 d2 d3 d4 d5)) (fun w24 H locs h hP hD hS => ?_)
      obtain ⟨u5, u6, u7⟩ := w24
      have hP : va_P G.1 vwCl (wP G ad sd hd md rd be er ++ (wS G sd inp otp tc fc on ze ou wd lo up ++ (wH G hd u5 u6 u7 ++ (wD G md ab ++ (wR G rd tr rt ++ (wB G be beD kn ct bu bl tu tl bd bm d0 d1 d2 d3 d4 d5)))))) H := hP.perm (pm6_0345_21 (wP G ad sd hd md rd be er) (wS G sd inp otp tc fc on ze ou wd lo up) (wH G hd u5 u6 u7) (wD G md ab) (wR G rd tr rt) (wB G be beD kn ct bu bl tu tl bd bm d0 d1 d2 d3 d4 d5)).symm
      have hD : va_D A (wP G ad sd hd md rd be er ++ (wS G sd inp otp tc fc on ze ou wd lo up ++ (wH G hd u5 u6 u7 ++ (wD G md ab ++ (wR G rd tr rt ++ (wB G be beD kn ct bu bl tu tl bd bm d0 d1 d2 d3 d4 d5)))))) := hD.perm (pm6_0345_21 (wP G ad sd hd md rd be er) (wS G sd inp otp tc fc on ze ou wd lo up) (wH G hd u5 u6 u7) (wD G md ab) (wR G rd tr rt) (wB G be beD kn ct bu bl tu tl bd bm d0 d1 d2 d3 d4 d5)).symm
      try dsimp only at h
      refine lv_aload_n hx hb dX5_addTerm_50 rfl (lv_at hl 0 rfl) ?_
      refine va_get (D := G.1) (ci := 5) (v := .ref (sd 0)) (C := RX5) (T := TX5) (N := 6) hx hb hts hinX5 hown hK.1 hP.l 0 rfl rfl 0 (by decide) (hts (.fieldLink RX5 12 "PlaFolder" "state" "LPlaFolder$State;") (by decide +kernel)) (fun _ h9 => h9) rfl dX5_addTerm_51 ?_
      refine lv_iload_n hx hb dX5_addTerm_54 rfl (lv_at hl 1 rfl) ?_
      refine lv_iload_n hx hb dX5_addTerm_55 rfl (lv_at hl 2 rfl) ?_
      refine lv_iload_n hx hb dX5_addTerm_56 rfl (lv_at hl 3 rfl) ?_
      refine kp_v (wr := wP G ad sd hd md rd be er ++ (wH G hd u5 u6 u7 ++ (wD G md ab ++ (wR G rd tr rt ++ (wB G be beD kn ct bu bl tu tl bd bm d0 d1 d2 d3 d4 d5))))) (va_runVN (As := [.int a1, .int a2, .int a3]) (rest := []) ⟨hx, hb, hml, hown, hts⟩ (c_X4_appendTerm l G sd _ inp otp tc fc on ze ou wd lo up a1 a2 a3 h) ⟨va_cnB 3 hts gX5_addTerm_X4_appendTerm_n71 rfl rfl rfl (hK.2.M 17 (q := ("PlaFolder", 71, ⟨"PlaFolder$State", "appendTerm", "(III)V"⟩, "PlaFolder")) rfl) (hts (.initialized RX4) (by decide +kernel)) (by decide +kernel) ⟨Nat.le_of_ble_eq_true rfl, Nat.le_of_ble_eq_true rfl⟩, hts (.instanceMethod yX4_appendTerm) (by decide +kernel), hts (.selects RX4 yX4_appendTerm yX4_appendTerm) (by decide +kernel)⟩ (kpVp hK hP hD hZ hS hA (pm6_02345_1 (wP G ad sd hd md rd be er) (wS G sd inp otp tc fc on ze ou wd lo up) (wH G hd u5 u6 u7) (wD G md ab) (wR G rd tr rt) (wB G be beD kn ct bu bl tu tl bd bm d0 d1 d2 d3 d4 d5)) (q0 := 0) (ci := 4) rfl rfl) rfl rfl hl.1 rfl (lv_room (Nat.le_of_ble_eq_true rfl)) dX5_addTerm_57 ⟨Nat.zero_le _, Nat.zero_le _⟩) hP hD hS hA (pm6_02345_1 (wP G ad sd hd md rd be er) (wS G sd inp otp tc fc on ze ou wd lo up) (wH G hd u5 u6 u7) (wD G md ab) (wR G rd tr rt) (wB G be beD kn ct bu bl tu tl bd bm d0 d1 d2 d3 d4 d5)) (fun w23 H locs h hP hD hS => ?_)
      obtain ⟨u9, u10, u11, u12, u13, u14, u15, u16⟩ := w23
      have hP : va_P G.1 vwCl (wP G ad sd hd md rd be er ++ (wS G sd inp otp u9 u10 u11 u12 u13 u14 u15 u16 ++ (wH G hd u5 u6 u7 ++ (wD G md ab ++ (wR G rd tr rt ++ (wB G be beD kn ct bu bl tu tl bd bm d0 d1 d2 d3 d4 d5)))))) H := hP.perm (pm6_02345_1 (wP G ad sd hd md rd be er) (wS G sd inp otp u9 u10 u11 u12 u13 u14 u15 u16) (wH G hd u5 u6 u7) (wD G md ab) (wR G rd tr rt) (wB G be beD kn ct bu bl tu tl bd bm d0 d1 d2 d3 d4 d5)).symm
      have hD : va_D A (wP G ad sd hd md rd be er ++ (wS G sd inp otp u9 u10 u11 u12 u13 u14 u15 u16 ++ (wH G hd u5 u6 u7 ++ (wD G md ab ++ (wR G rd tr rt ++ (wB G be beD kn ct bu bl tu tl bd bm d0 d1 d2 d3 d4 d5)))))) := hD.perm (pm6_02345_1 (wP G ad sd hd md rd be er) (wS G sd inp otp u9 u10 u11 u12 u13 u14 u15 u16) (wH G hd u5 u6 u7) (wD G md ab) (wR G rd tr rt) (wB G be beD kn ct bu bl tu tl bd bm d0 d1 d2 d3 d4 d5)).symm
      try dsimp only at h
      refine lv_aload_n hx hb dX5_addTerm_60 rfl (lv_at hl 0 rfl) ?_
      refine kp_v (wr := ([] : va_W)) (va_runV (As := []) (rest := []) ⟨hx, hb, hml, hown, hts⟩ (c_X5_termsChanged l G ad sd hd md rd be beD _ er inp otp u9 u10 u11 u12 u13 u14 u15 u16 u5 u6 u7 ab tr rt kn ct bu bl tu tl bd bm d0 d1 d2 d3 d4 d5  h) (cwV 0 hts gX5_addTerm_X5_termsChanged rfl rfl rfl (by decide +kernel) ⟨Nat.le_of_ble_eq_true rfl, Nat.le_of_ble_eq_true rfl⟩) (kpVp hK hP hD hZ hS hA (pm_all _) (q0 := 0) (ci := 5) rfl rfl) rfl rfl hl.1 rfl (lv_room (Nat.le_of_ble_eq_true rfl)) dX5_addTerm_61 ⟨Nat.zero_le _, Nat.zero_le _⟩) hP hD hS hA (pm_all _) (fun w22 H locs h hP hD hS => ?_)
      obtain ⟨u18, u19, u20, u21⟩ := w22
      have hP : va_P G.1 vwCl (wP G ad sd hd md rd be er ++ (wS G sd inp otp u9 u10 u11 u12 u13 u14 u15 u16 ++ (wH G hd u5 u6 u7 ++ (wD G md u18 ++ (wR G rd u19 u20 ++ (wB G be beD u21 ct bu bl tu tl bd bm d0 d1 d2 d3 d4 d5)))))) H := hP.perm (pm_all _).symm
      have hD : va_D A (wP G ad sd hd md rd be er ++ (wS G sd inp otp u9 u10 u11 u12 u13 u14 u15 u16 ++ (wH G hd u5 u6 u7 ++ (wD G md u18 ++ (wR G rd u19 u20 ++ (wB G be beD u21 ct bu bl tu tl bd bm d0 d1 d2 d3 d4 d5)))))) := hD.perm (pm_all _).symm
      try dsimp only at h
      refine lv_aload_n hx hb dX5_addTerm_64 rfl (lv_at hl 0 rfl) ?_
      refine va_get (D := G.1) (ci := 5) (v := .ref (sd 0)) (C := RX5) (T := TX5) (N := 6) hx hb hts hinX5 hown hK.1 hP.l 0 rfl rfl 0 (by decide) (hts (.fieldLink RX5 12 "PlaFolder" "state" "LPlaFolder$State;") (by decide +kernel)) (fun _ h9 => h9) rfl dX5_addTerm_65 ?_
      refine va_getN (D := G.1) (ci := 4) (v := .int u9) (C := RX4) (T := TX4) (N := 10) (host := "PlaFolder") hx hb hts hinX4 hown hK.1 hP.r.l 0 rfl rfl 2 (by decide) (hK.2.F 2 (q := ("PlaFolder", 56, "PlaFolder$State", "termCount", "I", "PlaFolder")) rfl) (fun _ h9 => h9) rfl dX5_addTerm_68 ?_
      refine lv_iconst (v := (1 : Int32)) hx hb dX5_addTerm_71 (by decide) ?_
      refine lv_isub hx hb dX5_addTerm_72 ?_
      exact W.iret hx hb hr (fun t ht hW => ⟨⟨_, (er, u9, u10, u11, u12, u13, u14, u15, u16, u5, u6, u7, u18, u19, u20, u21), rfl, h, by rw [ht]; exact hP, hD⟩, hS.F ht⟩) hS.2.2 dX5_addTerm_73
    · have h := h.2 c_3
      refine lv_aload_n hx hb dX5_addTerm_32 rfl (lv_at hl 0 rfl) ?_
      refine lv_bipush (v := (-5 : Int32)) hx hb dX5_addTerm_33 (by decide) ?_
      refine kp_i (wr := ([] : va_W)) (va_runV (As := [.int (-5 : Int32)]) (rest := []) ⟨hx, hb, hml, hown, hts⟩ (c_X5_fail l G ad sd hd md rd be beD _ er inp otp tc fc on ze ou wd lo up hc sa sv ab tr rt kn ct bu bl tu tl bd bm d0 d1 d2 d3 d4 d5 (-5 : Int32) h) (cwV 1 hts gX5_addTerm_X5_fail rfl rfl rfl (by decide +kernel) ⟨Nat.le_of_ble_eq_true rfl, Nat.le_of_ble_eq_true rfl⟩) (kpVp hK hP hD hZ hS hA (pm_all _) (q0 := 0) (ci := 5) rfl rfl) rfl rfl hl.1 rfl (lv_room (Nat.le_of_ble_eq_true rfl)) dX5_addTerm_35 ⟨Nat.zero_le _, Nat.zero_le _⟩) hP hD hS hA (pm_all _) (fun r25 w27 H locs h hP hD hS => ?_)
      obtain ⟨u26, rfl⟩ : ∃ z, z = w27 := ⟨_, rfl⟩
      have hP : va_P G.1 vwCl (wP G ad sd hd md rd be u26 ++ (wS G sd inp otp tc fc on ze ou wd lo up ++ (wH G hd hc sa sv ++ (wD G md ab ++ (wR G rd tr rt ++ (wB G be beD kn ct bu bl tu tl bd bm d0 d1 d2 d3 d4 d5)))))) H := hP.perm (pm_all _).symm
      have hD : va_D A (wP G ad sd hd md rd be u26 ++ (wS G sd inp otp tc fc on ze ou wd lo up ++ (wH G hd hc sa sv ++ (wD G md ab ++ (wR G rd tr rt ++ (wB G be beD kn ct bu bl tu tl bd bm d0 d1 d2 d3 d4 d5)))))) := hD.perm (pm_all _).symm
      try dsimp only at h
      exact W.iret hx hb hr (fun t ht hW => ⟨⟨_, (u26, tc, fc, on, ze, ou, wd, lo, up, hc, sa, sv, ab, tr, rt, kn), rfl, h, by rw [ht]; exact hP, hD⟩, hS.F ht⟩) hS.2.2 dX5_addTerm_38
  · have h := h.2 c_2
    refine lv_aload_n hx hb dX5_addTerm_13 rfl (lv_at hl 0 rfl) ?_
    refine lv_bipush (v := (-2 : Int32)) hx hb dX5_addTerm_14 (by decide) ?_
    refine kp_i (wr := ([] : va_W)) (va_runV (As := [.int (-2 : Int32)]) (rest := []) ⟨hx, hb, hml, hown, hts⟩ (c_X5_fail l G ad sd hd md rd be beD _ er inp otp tc fc on ze ou wd lo up hc sa sv ab tr rt kn ct bu bl tu tl bd bm d0 d1 d2 d3 d4 d5 (-2 : Int32) h) (cwV 1 hts gX5_addTerm_X5_fail rfl rfl rfl (by decide +kernel) ⟨Nat.le_of_ble_eq_true rfl, Nat.le_of_ble_eq_true rfl⟩) (kpVp hK hP hD hZ hS hA (pm_all _) (q0 := 0) (ci := 5) rfl rfl) rfl rfl hl.1 rfl (lv_room (Nat.le_of_ble_eq_true rfl)) dX5_addTerm_16 ⟨Nat.zero_le _, Nat.zero_le _⟩) hP hD hS hA (pm_all _) (fun r28 w30 H locs h hP hD hS => ?_)
    obtain ⟨u29, rfl⟩ : ∃ z, z = w30 := ⟨_, rfl⟩
    have hP : va_P G.1 vwCl (wP G ad sd hd md rd be u29 ++ (wS G sd inp otp tc fc on ze ou wd lo up ++ (wH G hd hc sa sv ++ (wD G md ab ++ (wR G rd tr rt ++ (wB G be beD kn ct bu bl tu tl bd bm d0 d1 d2 d3 d4 d5)))))) H := hP.perm (pm_all _).symm
    have hD : va_D A (wP G ad sd hd md rd be u29 ++ (wS G sd inp otp tc fc on ze ou wd lo up ++ (wH G hd hc sa sv ++ (wD G md ab ++ (wR G rd tr rt ++ (wB G be beD kn ct bu bl tu tl bd bm d0 d1 d2 d3 d4 d5)))))) := hD.perm (pm_all _).symm
    try dsimp only at h
    exact W.iret hx hb hr (fun t ht hW => ⟨⟨_, (u29, tc, fc, on, ze, ou, wd, lo, up, hc, sa, sv, ab, tr, rt, kn), rfl, h, by rw [ht]; exact hP, hD⟩, hS.F ht⟩) hS.2.2 dX5_addTerm_19
def wp_X5_removeTerm (a1 : Int32) (er : Nat → Int32) (inp : Int32) (otp : Int32) (tc : Int32) (fc : Int32) (on : Nat → Int32) (ze : Nat → Int32) (ou : Nat → Int32) (wd : Nat → Int64) (lo : Nat → Int32) (up : Nat → Int32) (hc : Int32) (sa : Nat → Nat → Nat) (sv : Nat → SS) (ab : Nat → Int32) (tr : Nat → Int32) (rt : Nat → Int32) (kn : Int32) (K : Int32 → (Nat → Int32) → Int32 → Int32 → (Nat → Int32) → (Nat → Int32) → (Nat → Int32) → (Nat → Int64) → (Nat → Int32) → (Nat → Int32) → Int32 → (Nat → Nat → Nat) → (Nat → SS) → (Nat → Int32) → (Nat → Int32) → (Nat → Int32) → Int32 → Prop) : Prop :=
 wp_X4_hasTerm a1 tc (fun (r1 : Int32) => ((¬ r1 = 0 → wp_X2_push hc sa sv inp otp tc fc on ze ou wd lo up (fun (u4 : Int32) (u5 : Nat → Nat → Nat) (u6 : Nat → SS) => wp_X4_dropTerm a1 tc fc on ze ou wd lo up (fun (u8 : Int32) (u9 : Int32) (u10 : Nat → Int32) (u11 : Nat → Int32) (u12 : Nat → Int32) (u13 : Nat → Int64) (u14 : Nat → Int32) (u15 : Nat → Int32) => wp_X5_termsChanged u8 u10 u11 u12 u14 ab tr rt kn (fun (u17 : Nat → Int32) (u18 : Nat → Int32) (u19 : Nat → Int32) (u20 : Int32) => K u8 er u8 u9 u10 u11 u12 u13 u14 u15 u4 u5 u6 u17 u18 u19 u20)))) ∧
 (r1 = 0 → wp_X5_fail (-2 : Int32) er (fun (r24 : Int32) (u25 : Nat → Int32) => K r24 u25 tc fc on ze ou wd lo up hc sa sv ab tr rt kn))))
abbrev rm_X5_removeTerm : Room := { frames := 6, cells := 0, slots := 0, locals := 131 }
set_option maxHeartbeats 4000000 in
set_option maxRecDepth 100000 in
theorem c_X5_removeTerm (l : Launch) (G : GG) (ad : Nat → Nat) (sd : Nat → Nat) (hd : Nat → Nat) (md : Nat → Nat) (rd : Nat → Nat) (be : Nat → Nat) (beD : Nat → Nat → Nat) (sz : Nat) (er : Nat → Int32) (inp : Int32) (otp : Int32) (tc : Int32) (fc : Int32) (on : Nat → Int32) (ze : Nat → Int32) (ou : Nat → Int32) (wd : Nat → Int64) (lo : Nat → Int32) (up : Nat → Int32) (hc : Int32) (sa : Nat → Nat → Nat) (sv : Nat → SS) (ab : Nat → Int32) (tr : Nat → Int32) (rt : Nat → Int32) (kn : Int32) (ct : Int32) (bu : Nat → Int32) (bl : Nat → Int32) (tu : Nat → Int32) (tl : Nat → Int32) (bd : Nat → Int32) (bm : Nat → Int32) (d0 : Nat → Int32) (d1 : Nat → Int32) (d2 : Nat → Int32) (d3 : Nat → Int32) (d4 : Nat → Int32) (d5 : Nat → Int32) (a1 : Int32) {K : Int32 → (Nat → Int32) → Int32 → Int32 → (Nat → Int32) → (Nat → Int32) → (Nat → Int32) → (Nat → Int64) → (Nat → Int32) → (Nat → Int32) → Int32 → (Nat → Nat → Nat) → (Nat → SS) → (Nat → Int32) → (Nat → Int32) → (Nat → Int32) → Int32 → Prop} (h : wp_X5_removeTerm a1 er inp otp tc fc on ze ou wd lo up hc sa sv ab tr rt kn K) : CI l yX5_removeTerm wsX5_removeTerm rm_X5_removeTerm G [.ref (ad 0), .int a1] (wP G ad sd hd md rd be er ++ (wS G sd inp otp tc fc on ze ou wd lo up ++ (wH G hd hc sa sv ++ (wD G md ab ++ (wR G rd tr rt ++ (wB G be beD kn ct bu bl tu tl bd bm d0 d1 d2 d3 d4 d5)))))) sz (fun u : (Nat → Int32) × Int32 × Int32 × (Nat → Int32) × (Nat → Int32) × (Nat → Int32) × (Nat → Int64) × (Nat → Int32) × (Nat → Int32) × Int32 × (Nat → Nat → Nat) × (Nat → SS) × (Nat → Int32) × (Nat → Int32) × (Nat → Int32) × Int32 => wP G ad sd hd md rd be u.1 ++ (wS G sd inp otp u.2.1 u.2.2.1 u.2.2.2.1 u.2.2.2.2.1 u.2.2.2.2.2.1 u.2.2.2.2.2.2.1 u.2.2.2.2.2.2.2.1 u.2.2.2.2.2.2.2.2.1 ++ (wH G hd u.2.2.2.2.2.2.2.2.2.1 u.2.2.2.2.2.2.2.2.2.2.1 u.2.2.2.2.2.2.2.2.2.2.2.1 ++ (wD G md u.2.2.2.2.2.2.2.2.2.2.2.2.1 ++ (wR G rd u.2.2.2.2.2.2.2.2.2.2.2.2.2.1 u.2.2.2.2.2.2.2.2.2.2.2.2.2.2.1 ++ (wB G be beD u.2.2.2.2.2.2.2.2.2.2.2.2.2.2.2 ct bu bl tu tl bd bm d0 d1 d2 d3 d4 d5)))))) (fun r u => K r u.1 u.2.1 u.2.2.1 u.2.2.2.1 u.2.2.2.2.1 u.2.2.2.2.2.1 u.2.2.2.2.2.2.1 u.2.2.2.2.2.2.2.1 u.2.2.2.2.2.2.2.2.1 u.2.2.2.2.2.2.2.2.2.1 u.2.2.2.2.2.2.2.2.2.2.1 u.2.2.2.2.2.2.2.2.2.2.2.1 u.2.2.2.2.2.2.2.2.2.2.2.2.1 u.2.2.2.2.2.2.2.2.2.2.2.2.2.1 u.2.2.2.2.2.2.2.2.2.2.2.2.2.2.1 u.2.2.2.2.2.2.2.2.2.2.2.2.2.2.2) := by
  refine Met.ofW (cc := cX5_removeTerm) (maxL := 2) (ret := (some .int)) (by decide) rfl ?_
  intro p e s m args below meth c s₁ B hml hv
  obtain ⟨rfl, hsz, hP, hK, hD0, hZ⟩ := hv
  have hx := B.exec
  have hb := B.bytes
  have hr := B.returns
  have hts := atoms_spec (ws := wsX5_removeTerm) B.pre
  have hown : s.vm.findClass RX5 = some m.cls := findClass_of_methodNamed B.named
  have hlocks := B.notSynchronized
  subst hsz
  have hD := hD0.self (sz := s.heap.size)
  generalize hAe : va_A (wP G ad sd hd md rd be er ++ (wS G sd inp otp tc fc on ze ou wd lo up ++ (wH G hd hc sa sv ++ (wD G md ab ++ (wR G rd tr rt ++ (wB G be beD kn ct bu bl tu tl bd bm d0 d1 d2 d3 d4 d5)))))) s.heap.size = A at hD hZ ⊢
  have hA : ∀ q : Nat, s.heap.size ≤ q → A q := fun q h => by rw [← hAe]; exact Or.inr h
  have hS : va_S A s.heap s.heap [] := va_S.rf
  have hl := lv_entry ([.ref (ad 0), .int a1]) (n := 2) (Nat.le_of_ble_eq_true rfl)
  rw [lg_entry_eq]
  generalize (lg_sl ([.ref (ad 0), .int a1]) ++ List.replicate (2 - (lg_sl ([.ref (ad 0), .int a1])).length) Slot.unset).toArray = ls at hl ⊢
  have hl : lv_has ls 2 [(0, .ref (ad 0)), (1, .int a1)] := hl
  unfold wp_X5_removeTerm at h
  have hinX4 : ∀ w ∈ wsX40, w ∈ wsX5_removeTerm := by decide +kernel
  have hinX5 : ∀ w ∈ wsX50, w ∈ wsX5_removeTerm := by decide +kernel
  refine lv_aload_n hx hb dX5_removeTerm_0 rfl (lv_at hl 0 rfl) ?_
  refine va_get (D := G.1) (ci := 5) (v := .ref (sd 0)) (C := RX5) (T := TX5) (N := 6) hx hb hts hinX5 hown hK.1 hP.l 0 rfl rfl 0 (by decide) (hts (.fieldLink RX5 12 "PlaFolder" "state" "LPlaFolder$State;") (by decide +kernel)) (fun _ h9 => h9) rfl dX5_removeTerm_1 ?_
  refine lv_iload_n hx hb dX5_removeTerm_4 rfl (lv_at hl 1 rfl) ?_
  refine kp_i (wr := wP G ad sd hd md rd be er ++ (wH G hd hc sa sv ++ (wD G md ab ++ (wR G rd tr rt ++ (wB G be beD kn ct bu bl tu tl bd bm d0 d1 d2 d3 d4 d5))))) (va_runVN (As := [.int a1]) (rest := []) ⟨hx, hb, hml, hown, hts⟩ (c_X4_hasTerm l G sd _ inp otp tc fc on ze ou wd lo up a1 h) ⟨va_cnB 1 hts gX5_removeTerm_X4_hasTerm_n75 rfl rfl rfl (hK.2.M 18 (q := ("PlaFolder", 75, ⟨"PlaFolder$State", "hasTerm", "(I)Z"⟩, "PlaFolder")) rfl) (hts (.initialized RX4) (by decide +kernel)) (by decide +kernel) ⟨Nat.le_of_ble_eq_true rfl, Nat.le_of_ble_eq_true rfl⟩, hts (.instanceMethod yX4_hasTerm) (by decide +kernel), hts (.selects RX4 yX4_hasTerm yX4_hasTerm) (by decide +kernel)⟩ (kpVp hK hP hD hZ hS hA (pm6_02345_1 (wP G ad sd hd md rd be er) (wS G sd inp otp tc fc on ze ou wd lo up) (wH G hd hc sa sv) (wD G md ab) (wR G rd tr rt) (wB G be beD kn ct bu bl tu tl bd bm d0 d1 d2 d3 d4 d5)) (q0 := 0) (ci := 4) rfl rfl) rfl rfl hl.1 rfl (lv_room (Nat.le_of_ble_eq_true rfl)) dX5_removeTerm_5 ⟨Nat.zero_le _, Nat.zero_le _⟩) hP hD hS hA (pm6_02345_1 (wP G ad sd hd md rd be er) (wS G sd inp otp tc fc on ze ou wd lo up) (wH G hd hc sa sv) (wD G md ab) (wR G rd tr rt) (wB G be beD kn ct bu bl tu tl bd bm d0 d1 d2 d3 d4 d5)) (fun r1 w27 H locs h hP hD hS => ?_)
  have hP : va_P G.1 vwCl (wP G ad sd hd md rd be er ++ (wS G sd inp otp tc fc on ze ou wd lo up ++ (wH G hd hc sa sv ++ (wD G md ab ++ (wR G rd tr rt ++ (wB G be beD kn ct bu bl tu tl bd bm d0 d1 d2 d3 d4 d5)))))) H := hP.perm (pm6_02345_1 (wP G ad sd hd md rd be er) (wS G sd inp otp tc fc on ze ou wd lo up) (wH G hd hc sa sv) (wD G md ab) (wR G rd tr rt) (wB G be beD kn ct bu bl tu tl bd bm d0 d1 d2 d3 d4 d5)).symm
  have hD : va_D A (wP G ad sd hd md rd be er ++ (wS G sd inp otp tc fc on ze ou wd lo up ++ (wH G hd hc sa sv ++ (wD G md ab ++ (wR G rd tr rt ++ (wB G be beD kn ct bu bl tu tl bd bm d0 d1 d2 d3 d4 d5)))))) := hD.perm (pm6_02345_1 (wP G ad sd hd md rd be er) (wS G sd inp otp tc fc on ze ou wd lo up) (wH G hd hc sa sv) (wD G md ab) (wR G rd tr rt) (wB G be beD kn ct bu bl tu tl bd bm d0 d1 d2 d3 d4 d5)).symm
  try dsimp only at h
  refine lv_if_ne (tgt := 18) hx hb dX5_removeTerm_8 (by decide) (fun c_2 => ?_) (fun c_2 => ?_)
  · have h := h.1 c_2
    refine lv_aload_n hx hb dX5_removeTerm_18 rfl (lv_at hl 0 rfl) ?_
    refine va_get (D := G.1) (ci := 5) (v := .ref (hd 0)) (C := RX5) (T := TX5) (N := 6) hx hb hts hinX5 hown hK.1 hP.l 0 rfl rfl 1 (by decide) (hts (.fieldLink RX5 19 "PlaFolder" "history" "LPlaFolder$History;") (by decide +kernel)) (fun _ h9 => h9) rfl dX5_removeTerm_19 ?_
    refine lv_aload_n hx hb dX5_removeTerm_22 rfl (lv_at hl 0 rfl) ?_
    refine va_get (D := G.1) (ci := 5) (v := .ref (sd 0)) (C := RX5) (T := TX5) (N := 6) hx hb hts hinX5 hown hK.1 hP.l 0 rfl rfl 0 (by decide) (hts (.fieldLink RX5 12 "PlaFolder" "state" "LPlaFolder$State;") (by decide +kernel)) (fun _ h9 => h9) rfl dX5_removeTerm_23 ?_
    refine kp_v (wr := wP G ad sd hd md rd be er ++ (wD G md ab ++ (wR G rd tr rt ++ (wB G be beD kn ct bu bl tu tl bd bm d0 d1 d2 d3 d4 d5)))) (va_runVN (As := [.ref (sd 0)]) (rest := []) ⟨hx, hb, hml, hown, hts⟩ (c_X2_push l G hd sd _ hc sa sv inp otp tc fc on ze ou wd lo up  h) ⟨va_cnB 1 hts gX5_removeTerm_X2_push_n52 rfl rfl rfl (hK.2.M 7 (q := ("PlaFolder", 52, ⟨"PlaFolder$History", "push", "(LPlaFolder$State;)V"⟩, "PlaFolder")) rfl) (hts (.initialized RX2) (by decide +kernel)) (by decide +kernel) ⟨Nat.le_of_ble_eq_true rfl, Nat.le_of_ble_eq_true rfl⟩, hts (.instanceMethod yX2_push) (by decide +kernel), hts (.selects RX2 yX2_push yX2_push) (by decide +kernel)⟩ (kpVp hK hP hD hZ hS hA (pm6_0345_21 (wP G ad sd hd md rd be er) (wS G sd inp otp tc fc on ze ou wd lo up) (wH G hd hc sa sv) (wD G md ab) (wR G rd tr rt) (wB G be beD kn ct bu bl tu tl bd bm d0 d1 d2 d3 d4 d5)) (q0 := 0) (ci := 2) rfl rfl) rfl rfl hl.1 rfl (lv_room (Nat.le_of_ble_eq_true rfl)) dX5_removeTerm_26 ⟨Nat.zero_le _, Nat.zero_le _⟩) hP hD hS hA (pm6_0345_21 (wP G ad sd hd md rd be er) (wS G sd inp otp tc fc on ze ou wd lo up) (wH G hd hc sa sv) (wD G md ab) (wR G rd tr rt) (wB G be beD kn ct bu bl tu tl bd bm d0 d1 d2 d3 d4 d5)) (fun w23 H locs h hP hD hS => ?_)
    obtain ⟨u4, u5, u6⟩ := w23
    have hP : va_P G.1 vwCl (wP G ad sd hd md rd be er ++ (wS G sd inp otp tc fc on ze ou wd lo up ++ (wH G hd u4 u5 u6 ++ (wD G md ab ++ (wR G rd tr rt ++ (wB G be beD kn ct bu bl tu tl bd bm d0 d1 d2 d3 d4 d5)))))) H := hP.perm (pm6_0345_21 (wP G ad sd hd md rd be er) (wS G sd inp otp tc fc on ze ou wd lo up) (wH G hd u4 u5 u6) (wD G md ab) (wR G rd tr rt) (wB G be beD kn ct bu bl tu tl bd bm d0 d1 d2 d3 d4 d5)).symm
    have hD : va_D A (wP G ad sd hd md rd be er ++ (wS G sd inp otp tc fc on ze ou wd lo up ++ (wH G hd u4 u5 u6 ++ (wD G md ab ++ (wR G rd tr rt ++ (wB G be beD kn ct bu bl tu tl bd bm d0 d1 d2 d3 d4 d5)))))) := hD.perm (pm6_0345_21 (wP G ad sd hd md rd be er) (wS G sd inp otp tc fc on ze ou wd lo up) (wH G hd u4 u5 u6) (wD G md ab) (wR G rd tr rt) (wB G be beD kn ct bu bl tu tl bd bm d0 d1 d2 d3 d4 d5)).symm
    try dsimp only at h
    refine lv_aload_n hx hb dX5_removeTerm_29 rfl (lv_at hl 0 rfl) ?_
    refine va_get (D := G.1) (ci := 5) (v := .ref (sd 0)) (C := RX5) (T := TX5) (N := 6) hx hb hts hinX5 hown hK.1 hP.l 0 rfl rfl 0 (by decide) (hts (.fieldLink RX5 12 "PlaFolder" "state" "LPlaFolder$State;") (by decide +kernel)) (fun _ h9 => h9) rfl dX5_removeTerm_30 ?_
    refine lv_iload_n hx hb dX5_removeTerm_33 rfl (lv_at hl 1 rfl) ?_
    refine kp_v (wr := wP G ad sd hd md rd be er ++ (wH G hd u4 u5 u6 ++ (wD G md ab ++ (wR G rd tr rt ++ (wB G be beD kn ct bu bl tu tl bd bm d0 d1 d2 d3 d4 d5))))) (va_runVN (As := [.int a1]) (rest := []) ⟨hx, hb, hml, hown, hts⟩ (c_X4_dropTerm l G sd _ inp otp tc fc on ze ou wd lo up a1 h) ⟨va_cnB 1 hts gX5_removeTerm_X4_dropTerm_n79 rfl rfl rfl (hK.2.M 19 (q := ("PlaFolder", 79, ⟨"PlaFolder$State", "dropTerm", "(I)V"⟩, "PlaFolder")) rfl) (hts (.initialized RX4) (by decide +kernel)) (by decide +kernel) ⟨Nat.le_of_ble_eq_true rfl, Nat.le_of_ble_eq_true rfl⟩, hts (.instanceMethod yX4_dropTerm) (by decide +kernel), hts (.selects RX4 yX4_dropTerm yX4_dropTerm) (by decide +kernel)⟩ (kpVp hK hP hD hZ hS hA (pm6_02345_1 (wP G ad sd hd md rd be er) (wS G sd inp otp tc fc on ze ou wd lo up) (wH G hd u4 u5 u6) (wD G md ab) (wR G rd tr rt) (wB G be beD kn ct bu bl tu tl bd bm d0 d1 d2 d3 d4 d5)) (q0 := 0) (ci := 4) rfl rfl) rfl rfl hl.1 rfl (lv_room (Nat.le_of_ble_eq_true rfl)) dX5_removeTerm_34 ⟨Nat.zero_le _, Nat.zero_le _⟩) hP hD hS hA (pm6_02345_1 (wP G ad sd hd md rd be er) (wS G sd inp otp tc fc on ze ou wd lo up) (wH G hd u4 u5 u6) (wD G md ab) (wR G rd tr rt) (wB G be beD kn ct bu bl tu tl bd bm d0 d1 d2 d3 d4 d5)) (fun w22 H locs h hP hD hS => ?_)
    obtain ⟨u8, u9, u10, u11, u12, u13, u14, u15⟩ := w22
    have hP : va_P G.1 vwCl (wP G ad sd hd md rd be er ++ (wS G sd inp otp u8 u9 u10 u11 u12 u13 u14 u15 ++ (wH G hd u4 u5 u6 ++ (wD G md ab ++ (wR G rd tr rt ++ (wB G be beD kn ct bu bl tu tl bd bm d0 d1 d2 d3 d4 d5)))))) H := hP.perm (pm6_02345_1 (wP G ad sd hd md rd be er) (wS G sd inp otp u8 u9 u10 u11 u12 u13 u14 u15) (wH G hd u4 u5 u6) (wD G md ab) (wR G rd tr rt) (wB G be beD kn ct bu bl tu tl bd bm d0 d1 d2 d3 d4 d5)).symm
    have hD : va_D A (wP G ad sd hd md rd be er ++ (wS G sd inp otp u8 u9 u10 u11 u12 u13 u14 u15 ++ (wH G hd u4 u5 u6 ++ (wD G md ab ++ (wR G rd tr rt ++ (wB G be beD kn ct bu bl tu tl bd bm d0 d1 d2 d3 d4 d5)))))) := hD.perm (pm6_02345_1 (wP G ad sd hd md rd be er) (wS G sd inp otp u8 u9 u10 u11 u12 u13 u14 u15) (wH G hd u4 u5 u6) (wD G md ab) (wR G rd tr rt) (wB G be beD kn ct bu bl tu tl bd bm d0 d1 d2 d3 d4 d5)).symm
    try dsimp only at h
    refine lv_aload_n hx hb dX5_removeTerm_37 rfl (lv_at hl 0 rfl) ?_
    refine kp_v (wr := ([] : va_W)) (va_runV (As := []) (rest := []) ⟨hx, hb, hml, hown, hts⟩ (c_X5_termsChanged l G ad sd hd md rd be beD _ er inp otp u8 u9 u10 u11 u12 u13 u14 u15 u4 u5 u6 ab tr rt kn ct bu bl tu tl bd bm d0 d1 d2 d3 d4 d5  h) (cwV 0 hts gX5_removeTerm_X5_termsChanged rfl rfl rfl (by decide +kernel) ⟨Nat.le_of_ble_eq_true rfl, Nat.le_of_ble_eq_true rfl⟩) (kpVp hK hP hD hZ hS hA (pm_all _) (q0 := 0) (ci := 5) rfl rfl) rfl rfl hl.1 rfl (lv_room (Nat.le_of_ble_eq_true rfl)) dX5_removeTerm_38 ⟨Nat.zero_le _, Nat.zero_le _⟩) hP hD hS hA (pm_all _) (fun w21 H locs h hP hD hS => ?_)
    obtain ⟨u17, u18, u19, u20⟩ := w21
    have hP : va_P G.1 vwCl (wP G ad sd hd md rd be er ++ (wS G sd inp otp u8 u9 u10 u11 u12 u13 u14 u15 ++ (wH G hd u4 u5 u6 ++ (wD G md u17 ++ (wR G rd u18 u19 ++ (wB G be beD u20 ct bu bl tu tl bd bm d0 d1 d2 d3 d4 d5)))))) H := hP.perm (pm_all _).symm
    have hD : va_D A (wP G ad sd hd md rd be er ++ (wS G sd inp otp u8 u9 u10 u11 u12 u13 u14 u15 ++ (wH G hd u4 u5 u6 ++ (wD G md u17 ++ (wR G rd u18 u19 ++ (wB G be beD u20 ct bu bl tu tl bd bm d0 d1 d2 d3 d4 d5)))))) := hD.perm (pm_all _).symm
    try dsimp only at h
    refine lv_aload_n hx hb dX5_removeTerm_41 rfl (lv_at hl 0 rfl) ?_
    refine va_get (D := G.1) (ci := 5) (v := .ref (sd 0)) (C := RX5) (T := TX5) (N := 6) hx hb hts hinX5 hown hK.1 hP.l 0 rfl rfl 0 (by decide) (hts (.fieldLink RX5 12 "PlaFolder" "state" "LPlaFolder$State;") (by decide +kernel)) (fun _ h9 => h9) rfl dX5_removeTerm_42 ?_
    refine va_getN (D := G.1) (ci := 4) (v := .int u8) (C := RX4) (T := TX4) (N := 10) (host := "PlaFolder") hx hb hts hinX4 hown hK.1 hP.r.l 0 rfl rfl 2 (by decide) (hK.2.F 2 (q := ("PlaFolder", 56, "PlaFolder$State", "termCount", "I", "PlaFolder")) rfl) (fun _ h9 => h9) rfl dX5_removeTerm_45 ?_
    exact W.iret hx hb hr (fun t ht hW => ⟨⟨_, (er, u8, u9, u10, u11, u12, u13, u14, u15, u4, u5, u6, u17, u18, u19, u20), rfl, h, by rw [ht]; exact hP, hD⟩, hS.F ht⟩) hS.2.2 dX5_removeTerm_48
  · have h := h.2 c_2
    refine lv_aload_n hx hb dX5_removeTerm_11 rfl (lv_at hl 0 rfl) ?_
    refine lv_bipush (v := (-2 : Int32)) hx hb dX5_removeTerm_12 (by decide) ?_
    refine kp_i (wr := ([] : va_W)) (va_runV (As := [.int (-2 : Int32)]) (rest := []) ⟨hx, hb, hml, hown, hts⟩ (c_X5_fail l G ad sd hd md rd be beD _ er inp otp tc fc on ze ou wd lo up hc sa sv ab tr rt kn ct bu bl tu tl bd bm d0 d1 d2 d3 d4 d5 (-2 : Int32) h) (cwV 1 hts gX5_removeTerm_X5_fail rfl rfl rfl (by decide +kernel) ⟨Nat.le_of_ble_eq_true rfl, Nat.le_of_ble_eq_true rfl⟩) (kpVp hK hP hD hZ hS hA (pm_all _) (q0 := 0) (ci := 5) rfl rfl) rfl rfl hl.1 rfl (lv_room (Nat.le_of_ble_eq_true rfl)) dX5_removeTerm_14 ⟨Nat.zero_le _, Nat.zero_le _⟩) hP hD hS hA (pm_all _) (fun r24 w26 H locs h hP hD hS => ?_)
    obtain ⟨u25, rfl⟩ : ∃ z, z = w26 := ⟨_, rfl⟩
    have hP : va_P G.1 vwCl (wP G ad sd hd md rd be u25 ++ (wS G sd inp otp tc fc on ze ou wd lo up ++ (wH G hd hc sa sv ++ (wD G md ab ++ (wR G rd tr rt ++ (wB G be beD kn ct bu bl tu tl bd bm d0 d1 d2 d3 d4 d5)))))) H := hP.perm (pm_all _).symm
    have hD : va_D A (wP G ad sd hd md rd be u25 ++ (wS G sd inp otp tc fc on ze ou wd lo up ++ (wH G hd hc sa sv ++ (wD G md ab ++ (wR G rd tr rt ++ (wB G be beD kn ct bu bl tu tl bd bm d0 d1 d2 d3 d4 d5)))))) := hD.perm (pm_all _).symm
    try dsimp only at h
    exact W.iret hx hb hr (fun t ht hW => ⟨⟨_, (u25, tc, fc, on, ze, ou, wd, lo, up, hc, sa, sv, ab, tr, rt, kn), rfl, h, by rw [ht]; exact hP, hD⟩, hS.F ht⟩) hS.2.2 dX5_removeTerm_17
def wp_X5_terms (tc : Int32) (K : Int32 → Prop) : Prop :=
 K tc
abbrev rm_X5_terms : Room := { frames := 0, cells := 0, slots := 0, locals := 0 }
set_option maxHeartbeats 4000000 in
set_option maxRecDepth 100000 in
theorem c_X5_terms (l : Launch) (G : GG) (ad : Nat → Nat) (sd : Nat → Nat) (hd : Nat → Nat) (md : Nat → Nat) (rd : Nat → Nat) (be : Nat → Nat) (beD : Nat → Nat → Nat) (sz : Nat) (er : Nat → Int32) (inp : Int32) (otp : Int32) (tc : Int32) (fc : Int32) (on : Nat → Int32) (ze : Nat → Int32) (ou : Nat → Int32) (wd : Nat → Int64) (lo : Nat → Int32) (up : Nat → Int32) (hc : Int32) (sa : Nat → Nat → Nat) (sv : Nat → SS) (ab : Nat → Int32) (tr : Nat → Int32) (rt : Nat → Int32) (kn : Int32) (ct : Int32) (bu : Nat → Int32) (bl : Nat → Int32) (tu : Nat → Int32) (tl : Nat → Int32) (bd : Nat → Int32) (bm : Nat → Int32) (d0 : Nat → Int32) (d1 : Nat → Int32) (d2 : Nat → Int32) (d3 : Nat → Int32) (d4 : Nat → Int32) (d5 : Nat → Int32) {K : Int32 → Prop} (h : wp_X5_terms tc K) : CI l yX5_terms wsX5_terms rm_X5_terms G [.ref (ad 0)] (wP G ad sd hd md rd be er ++ (wS G sd inp otp tc fc on ze ou wd lo up ++ (wH G hd hc sa sv ++ (wD G md ab ++ (wR G rd tr rt ++ (wB G be beD kn ct bu bl tu tl bd bm d0 d1 d2 d3 d4 d5)))))) sz (fun u : Unit => wP G ad sd hd md rd be er ++ (wS G sd inp otp tc fc on ze ou wd lo up ++ (wH G hd hc sa sv ++ (wD G md ab ++ (wR G rd tr rt ++ (wB G be beD kn ct bu bl tu tl bd bm d0 d1 d2 d3 d4 d5)))))) (fun r u => K r ) := by
  refine Met.ofW (cc := cX5_terms) (maxL := 1) (ret := (some .int)) (by decide) rfl ?_
  intro p e s m args below meth c s₁ B hml hv
  obtain ⟨rfl, hsz, hP, hK, hD0, hZ⟩ := hv
  have hx := B.exec
  have hb := B.bytes
  have hr := B.returns
  have hts := atoms_spec (ws := wsX5_terms) B.pre
  have hown : s.vm.findClass RX5 = some m.cls := findClass_of_methodNamed B.named
  have hlocks := B.notSynchronized
  subst hsz
  have hD := hD0.self (sz := s.heap.size)
  generalize hAe : va_A (wP G ad sd hd md rd be er ++ (wS G sd inp otp tc fc on ze ou wd lo up ++ (wH G hd hc sa sv ++ (wD G md ab ++ (wR G rd tr rt ++ (wB G be beD kn ct bu bl tu tl bd bm d0 d1 d2 d3 d4 d5)))))) s.heap.size = A at hD hZ ⊢
  have hA : ∀ q : Nat, s.heap.size ≤ q → A q := fun q h => by rw [← hAe]; exact Or.inr h
  have hS : va_S A s.heap s.heap [] := va_S.rf
  have hl := lv_entry ([.ref (ad 0)]) (n := 1) (Nat.le_of_ble_eq_true rfl)
  rw [lg_entry_eq]
  generalize (lg_sl ([.ref (ad 0)]) ++ List.replicate (1 - (lg_sl ([.ref (ad 0)])).length) Slot.unset).toArray = ls at hl ⊢
  have hl : lv_has ls 1 [(0, .ref (ad 0))] := hl
  unfold wp_X5_terms at h
  have hinX4 : ∀ w ∈ wsX40, w ∈ wsX5_terms := by decide +kernel
  have hinX5 : ∀ w ∈ wsX50, w ∈ wsX5_terms := by decide +kernel
  refine lv_aload_n hx hb dX5_terms_0 rfl (lv_at hl 0 rfl) ?_
  refine va_get (D := G.1) (ci := 5) (v := .ref (sd 0)) (C := RX5) (T := TX5) (N := 6) hx hb hts hinX5 hown hK.1 hP.l 0 rfl rfl 0 (by decide) (hts (.fieldLink RX5 12 "PlaFolder" "state" "LPlaFolder$State;") (by decide +kernel)) (fun _ h9 => h9) rfl dX5_terms_1 ?_
  refine va_getN (D := G.1) (ci := 4) (v := .int tc) (C := RX4) (T := TX4) (N := 10) (host := "PlaFolder") hx hb hts hinX4 hown hK.1 hP.r.l 0 rfl rfl 2 (by decide) (hK.2.F 2 (q := ("PlaFolder", 56, "PlaFolder$State", "termCount", "I", "PlaFolder")) rfl) (fun _ h9 => h9) rfl dX5_terms_4 ?_
  exact W.iret hx hb hr (fun t ht hW => ⟨⟨_, (), rfl, h, by rw [ht]; exact hP, hD⟩, hS.F ht⟩) hS.2.2 dX5_terms_7
def wp_X5_literals (a1 : Int32) (er : Nat → Int32) (tc : Int32) (on : Nat → Int32) (ze : Nat → Int32) (K : Int32 → (Nat → Int32) → Prop) : Prop :=
 wp_X4_hasTerm a1 tc (fun (r1 : Int32) => ((¬ r1 = 0 → (vp_in a1 10 ∧ (vp_in a1 10 ∧ wp_J6_bitCount_0f7a4 ((on a1.toNatClampNeg) ||| (ze a1.toNatClampNeg)) (fun (r5 : Int32) => K r5 er)))) ∧
 (r1 = 0 → wp_X5_fail (-2 : Int32) er (fun (r7 : Int32) (u8 : Nat → Int32) => K r7 u8))))
abbrev rm_X5_literals : Room := { frames := 1, cells := 0, slots := 0, locals := 21 }
set_option maxHeartbeats 4000000 in
set_option maxRecDepth 100000 in
theorem c_X5_literals (l : Launch) (G : GG) (ad : Nat → Nat) (sd : Nat → Nat) (hd : Nat → Nat) (md : Nat → Nat) (rd : Nat → Nat) (be : Nat → Nat) (beD : Nat → Nat → Nat) (sz : Nat) (er : Nat → Int32) (inp : Int32) (otp : Int32) (tc : Int32) (fc : Int32) (on : Nat → Int32) (ze : Nat → Int32) (ou : Nat → Int32) (wd : Nat → Int64) (lo : Nat → Int32) (up : Nat → Int32) (hc : Int32) (sa : Nat → Nat → Nat) (sv : Nat → SS) (ab : Nat → Int32) (tr : Nat → Int32) (rt : Nat → Int32) (kn : Int32) (ct : Int32) (bu : Nat → Int32) (bl : Nat → Int32) (tu : Nat → Int32) (tl : Nat → Int32) (bd : Nat → Int32) (bm : Nat → Int32) (d0 : Nat → Int32) (d1 : Nat → Int32) (d2 : Nat → Int32) (d3 : Nat → Int32) (d4 : Nat → Int32) (d5 : Nat → Int32) (a1 : Int32) {K : Int32 → (Nat → Int32) → Prop} (h : wp_X5_literals a1 er tc on ze K) : CI l yX5_literals wsX5_literals rm_X5_literals G [.ref (ad 0), .int a1] (wP G ad sd hd md rd be er ++ (wS G sd inp otp tc fc on ze ou wd lo up ++ (wH G hd hc sa sv ++ (wD G md ab ++ (wR G rd tr rt ++ (wB G be beD kn ct bu bl tu tl bd bm d0 d1 d2 d3 d4 d5)))))) sz (fun u : (Nat → Int32) => wP G ad sd hd md rd be u ++ (wS G sd inp otp tc fc on ze ou wd lo up ++ (wH G hd hc sa sv ++ (wD G md ab ++ (wR G rd tr rt ++ (wB G be beD kn ct bu bl tu tl bd bm d0 d1 d2 d3 d4 d5)))))) (fun r u => K r u) := by
  refine Met.ofW (cc := cX5_literals) (maxL := 2) (ret := (some .int)) (by decide) rfl ?_
  intro p e s m args below meth c s₁ B hml hv
  obtain ⟨rfl, hsz, hP, hK, hD0, hZ⟩ := hv
  have hx := B.exec
  have hb := B.bytes
  have hr := B.returns
  have hts := atoms_spec (ws := wsX5_literals) B.pre
  have hown : s.vm.findClass RX5 = some m.cls := findClass_of_methodNamed B.named
  have hlocks := B.notSynchronized
  subst hsz
  have hD := hD0.self (sz := s.heap.size)
  generalize hAe : va_A (wP G ad sd hd md rd be er ++ (wS G sd inp otp tc fc on ze ou wd lo up ++ (wH G hd hc sa sv ++ (wD G md ab ++ (wR G rd tr rt ++ (wB G be beD kn ct bu bl tu tl bd bm d0 d1 d2 d3 d4 d5)))))) s.heap.size = A at hD hZ ⊢
  have hA : ∀ q : Nat, s.heap.size ≤ q → A q := fun q h => by rw [← hAe]; exact Or.inr h
  have hS : va_S A s.heap s.heap [] := va_S.rf
  have hl := lv_entry ([.ref (ad 0), .int a1]) (n := 2) (Nat.le_of_ble_eq_true rfl)
  rw [lg_entry_eq]
  generalize (lg_sl ([.ref (ad 0), .int a1]) ++ List.replicate (2 - (lg_sl ([.ref (ad 0), .int a1])).length) Slot.unset).toArray = ls at hl ⊢
  have hl : lv_has ls 2 [(0, .ref (ad 0)), (1, .int a1)] := hl
  unfold wp_X5_literals at h
  have hinX4 : ∀ w ∈ wsX40, w ∈ wsX5_literals := by decide +kernel
  have hinX5 : ∀ w ∈ wsX50, w ∈ wsX5_literals := by decide +kernel
  refine lv_aload_n hx hb dX5_literals_0 rfl (lv_at hl 0 rfl) ?_
  refine va_get (D := G.1) (ci := 5) (v := .ref (sd 0)) (C := RX5) (T := TX5) (N := 6) hx hb hts hinX5 hown hK.1 hP.l 0 rfl rfl 0 (by decide) (hts (.fieldLink RX5 12 "PlaFolder" "state" "LPlaFolder$State;") (by decide +kernel)) (fun _ h9 => h9) rfl dX5_literals_1 ?_
  refine lv_iload_n hx hb dX5_literals_4 rfl (lv_at hl 1 rfl) ?_
  refine kp_i (wr := wP G ad sd hd md rd be er ++ (wH G hd hc sa sv ++ (wD G md ab ++ (wR G rd tr rt ++ (wB G be beD kn ct bu bl tu tl bd bm d0 d1 d2 d3 d4 d5))))) (va_runVN (As := [.int a1]) (rest := []) ⟨hx, hb, hml, hown, hts⟩ (c_X4_hasTerm l G sd _ inp otp tc fc on ze ou wd lo up a1 h) ⟨va_cnB 1 hts gX5_literals_X4_hasTerm_n75 rfl rfl rfl (hK.2.M 18 (q := ("PlaFolder", 75, ⟨"PlaFolder$State", "hasTerm", "(I)Z"⟩, "PlaFolder")) rfl) (hts (.initialized RX4) (by decide +kernel)) (by decide +kernel) ⟨Nat.le_of_ble_eq_true rfl, Nat.le_of_ble_eq_true rfl⟩, hts (.instanceMethod yX4_hasTerm) (by decide +kernel), hts (.selects RX4 yX4_hasTerm yX4_hasTerm) (by decide +kernel)⟩ (kpVp hK hP hD hZ hS hA (pm6_02345_1 (wP G ad sd hd md rd be er) (wS G sd inp otp tc fc on ze ou wd lo up) (wH G hd hc sa sv) (wD G md ab) (wR G rd tr rt) (wB G be beD kn ct bu bl tu tl bd bm d0 d1 d2 d3 d4 d5)) (q0 := 0) (ci := 4) rfl rfl) rfl rfl hl.1 rfl (lv_room (Nat.le_of_ble_eq_true rfl)) dX5_literals_5 ⟨Nat.zero_le _, Nat.zero_le _⟩) hP hD hS hA (pm6_02345_1 (wP G ad sd hd md rd be er) (wS G sd inp otp tc fc on ze ou wd lo up) (wH G hd hc sa sv) (wD G md ab) (wR G rd tr rt) (wB G be beD kn ct bu bl tu tl bd bm d0 d1 d2 d3 d4 d5)) (fun r1 w10 H locs h hP hD hS => ?_)
  have hP : va_P G.1 vwCl (wP G ad sd hd md rd be er ++ (wS G sd inp otp tc fc on ze ou wd lo up ++ (wH G hd hc sa sv ++ (wD G md ab ++ (wR G rd tr rt ++ (wB G be beD kn ct bu bl tu tl bd bm d0 d1 d2 d3 d4 d5)))))) H := hP.perm (pm6_02345_1 (wP G ad sd hd md rd be er) (wS G sd inp otp tc fc on ze ou wd lo up) (wH G hd hc sa sv) (wD G md ab) (wR G rd tr rt) (wB G be beD kn ct bu bl tu tl bd bm d0 d1 d2 d3 d4 d5)).symm
  have hD : va_D A (wP G ad sd hd md rd be er ++ (wS G sd inp otp tc fc on ze ou wd lo up ++ (wH G hd hc sa sv ++ (wD G md ab ++ (wR G rd tr rt ++ (wB G be beD kn ct bu bl tu tl bd bm d0 d1 d2 d3 d4 d5)))))) := hD.perm (pm6_02345_1 (wP G ad sd hd md rd be er) (wS G sd inp otp tc fc on ze ou wd lo up) (wH G hd hc sa sv) (wD G md ab) (wR G rd tr rt) (wB G be beD kn ct bu bl tu tl bd bm d0 d1 d2 d3 d4 d5)).symm
  try dsimp only at h
  refine lv_if_ne (tgt := 18) hx hb dX5_literals_8 (by decide) (fun c_2 => ?_) (fun c_2 => ?_)
  · have h := h.1 c_2
    refine lv_aload_n hx hb dX5_literals_18 rfl (lv_at hl 0 rfl) ?_
    refine va_get (D := G.1) (ci := 5) (v := .ref (sd 0)) (C := RX5) (T := TX5) (N := 6) hx hb hts hinX5 hown hK.1 hP.l 0 rfl rfl 0 (by decide) (hts (.fieldLink RX5 12 "PlaFolder" "state" "LPlaFolder$State;") (by decide +kernel)) (fun _ h9 => h9) rfl dX5_literals_19 ?_
    refine va_getN (D := G.1) (ci := 4) (v := .ref (sd 1)) (C := RX4) (T := TX4) (N := 10) (host := "PlaFolder") hx hb hts hinX4 hown hK.1 hP.r.l 0 rfl rfl 4 (by decide) (hK.2.F 4 (q := ("PlaFolder", 83, "PlaFolder$State", "ones", "[I", "PlaFolder")) rfl) (fun _ h9 => h9) rfl dX5_literals_22 ?_
    refine lv_iload_n hx hb dX5_literals_25 rfl (lv_at hl 1 rfl) ?_
    obtain ⟨hi3, h⟩ := h
    refine x_iald hx hb hK hP.r.l 1 rfl hi3 rfl dX5_literals_26 ?_
    refine lv_aload_n hx hb dX5_literals_27 rfl (lv_at hl 0 rfl) ?_
    refine va_get (D := G.1) (ci := 5) (v := .ref (sd 0)) (C := RX5) (T := TX5) (N := 6) hx hb hts hinX5 hown hK.1 hP.l 0 rfl rfl 0 (by decide) (hts (.fieldLink RX5 12 "PlaFolder" "state" "LPlaFolder$State;") (by decide +kernel)) (fun _ h9 => h9) rfl dX5_literals_28 ?_
    refine va_getN (D := G.1) (ci := 4) (v := .ref (sd 2)) (C := RX4) (T := TX4) (N := 10) (host := "PlaFolder") hx hb hts hinX4 hown hK.1 hP.r.l 0 rfl rfl 5 (by decide) (hK.2.F 5 (q := ("PlaFolder", 86, "PlaFolder$State", "zeros", "[I", "PlaFolder")) rfl) (fun _ h9 => h9) rfl dX5_literals_31 ?_
    refine lv_iload_n hx hb dX5_literals_34 rfl (lv_at hl 1 rfl) ?_
    obtain ⟨hi4, h⟩ := h
    refine x_iald hx hb hK hP.r.l 2 rfl hi4 rfl dX5_literals_35 ?_
    refine lv_ior hx hb dX5_literals_36 ?_
    refine kp_i (wr := wP G ad sd hd md rd be er ++ (wS G sd inp otp tc fc on ze ou wd lo up ++ (wH G hd hc sa sv ++ (wD G md ab ++ (wR G rd tr rt ++ (wB G be beD kn ct bu bl tu tl bd bm d0 d1 d2 d3 d4 d5)))))) (va_runS (As := [.int ((on a1.toNatClampNeg) ||| (ze a1.toNatClampNeg))]) (rest := []) ⟨hx, hb, hml, hown, hts⟩ (c_J6_bitCount_0f7a4 l G  _  ((on a1.toNatClampNeg) ||| (ze a1.toNatClampNeg)) h) (va_cwS 1 hts gX5_literals_J6_bitCount_0f7a4 rfl rfl rfl (by decide +kernel) ⟨Nat.le_of_ble_eq_true rfl, Nat.le_of_ble_eq_true rfl⟩) (kpSp hK hP hD hZ hS hA (pm_nil _)) rfl rfl hl.1 rfl (lv_room (Nat.le_of_ble_eq_true rfl)) dX5_literals_37 ⟨Nat.zero_le _, Nat.zero_le _⟩) hP hD hS hA (pm_nil _) (fun r5 w6 H locs h hP hD hS => ?_)
    have hP : va_P G.1 vwCl (wP G ad sd hd md rd be er ++ (wS G sd inp otp tc fc on ze ou wd lo up ++ (wH G hd hc sa sv ++ (wD G md ab ++ (wR G rd tr rt ++ (wB G be beD kn ct bu bl tu tl bd bm d0 d1 d2 d3 d4 d5)))))) H := hP.perm (pm_nil _).symm
    have hD : va_D A (wP G ad sd hd md rd be er ++ (wS G sd inp otp tc fc on ze ou wd lo up ++ (wH G hd hc sa sv ++ (wD G md ab ++ (wR G rd tr rt ++ (wB G be beD kn ct bu bl tu tl bd bm d0 d1 d2 d3 d4 d5)))))) := hD.perm (pm_nil _).symm
    try dsimp only at h
    exact W.iret hx hb hr (fun t ht hW => ⟨⟨_, er, rfl, h, by rw [ht]; exact hP, hD⟩, hS.F ht⟩) hS.2.2 dX5_literals_40
  · have h := h.2 c_2
    refine lv_aload_n hx hb dX5_literals_11 rfl (lv_at hl 0 rfl) ?_
    refine lv_bipush (v := (-2 : Int32)) hx hb dX5_literals_12 (by decide) ?_
    refine kp_i (wr := ([] : va_W)) (va_runV (As := [.int (-2 : Int32)]) (rest := []) ⟨hx, hb, hml, hown, hts⟩ (c_X5_fail l G ad sd hd md rd be beD _ er inp otp tc fc on ze ou wd lo up hc sa sv ab tr rt kn ct bu bl tu tl bd bm d0 d1 d2 d3 d4 d5 (-2 : Int32) h) (cwV 1 hts gX5_literals_X5_fail rfl rfl rfl (by decide +kernel) ⟨Nat.le_of_ble_eq_true rfl, Nat.le_of_ble_eq_true rfl⟩) (kpVp hK hP hD hZ hS hA (pm_all _) (q0 := 0) (ci := 5) rfl rfl) rfl rfl hl.1 rfl (lv_room (Nat.le_of_ble_eq_true rfl)) dX5_literals_14 ⟨Nat.zero_le _, Nat.zero_le _⟩) hP hD hS hA (pm_all _) (fun r7 w9 H locs h hP hD hS => ?_)
    obtain ⟨u8, rfl⟩ : ∃ z, z = w9 := ⟨_, rfl⟩
    have hP : va_P G.1 vwCl (wP G ad sd hd md rd be u8 ++ (wS G sd inp otp tc fc on ze ou wd lo up ++ (wH G hd hc sa sv ++ (wD G md ab ++ (wR G rd tr rt ++ (wB G be beD kn ct bu bl tu tl bd bm d0 d1 d2 d3 d4 d5)))))) H := hP.perm (pm_all _).symm
    have hD : va_D A (wP G ad sd hd md rd be u8 ++ (wS G sd inp otp tc fc on ze ou wd lo up ++ (wH G hd hc sa sv ++ (wD G md ab ++ (wR G rd tr rt ++ (wB G be beD kn ct bu bl tu tl bd bm d0 d1 d2 d3 d4 d5)))))) := hD.perm (pm_all _).symm
    try dsimp only at h
    exact W.iret hx hb hr (fun t ht hW => ⟨⟨_, u8, rfl, h, by rw [ht]; exact hP, hD⟩, hS.F ht⟩) hS.2.2 dX5_literals_17
def wp_X5_evaluate (a1 : Int32) (er : Nat → Int32) (inp : Int32) (tc : Int32) (ou : Nat → Int32) (wd : Nat → Int64) (K : Int32 → (Nat → Int32) → Prop) : Prop :=
 ((a1 < 0 → wp_X5_fail (-2 : Int32) er (fun (r2 : Int32) (u3 : Nat → Int32) => K r2 u3)) ∧
 (¬ (a1 < 0) → ((a1 < (jshl (1 : Int32) inp) → wp_X4_outputWord a1 tc ou wd (fun (r6 : Int32) => K r6 er)) ∧
 (¬ (a1 < (jshl (1 : Int32) inp)) → wp_X5_fail (-2 : Int32) er (fun (r8 : Int32) (u9 : Nat → Int32) => K r8 u9)))))
abbrev rm_X5_evaluate : Room := { frames := 1, cells := 0, slots := 0, locals := 23 }
set_option maxHeartbeats 4000000 in
set_option maxRecDepth 100000 in
theorem c_X5_evaluate (l : Launch) (G : GG) (ad : Nat → Nat) (sd : Nat → Nat) (hd : Nat → Nat) (md : Nat → Nat) (rd : Nat → Nat) (be : Nat → Nat) (beD : Nat → Nat → Nat) (sz : Nat) (er : Nat → Int32) (inp : Int32) (otp : Int32) (tc : Int32) (fc : Int32) (on : Nat → Int32) (ze : Nat → Int32) (ou : Nat → Int32) (wd : Nat → Int64) (lo : Nat → Int32) (up : Nat → Int32) (hc : Int32) (sa : Nat → Nat → Nat) (sv : Nat → SS) (ab : Nat → Int32) (tr : Nat → Int32) (rt : Nat → Int32) (kn : Int32) (ct : Int32) (bu : Nat → Int32) (bl : Nat → Int32) (tu : Nat → Int32) (tl : Nat → Int32) (bd : Nat → Int32) (bm : Nat → Int32) (d0 : Nat → Int32) (d1 : Nat → Int32) (d2 : Nat → Int32) (d3 : Nat → Int32) (d4 : Nat → Int32) (d5 : Nat → Int32) (a1 : Int32) {K : Int32 → (Nat → Int32) → Prop} (h : wp_X5_evaluate a1 er inp tc ou wd K) : CI l yX5_evaluate wsX5_evaluate rm_X5_evaluate G [.ref (ad 0), .int a1] (wP G ad sd hd md rd be er ++ (wS G sd inp otp tc fc on ze ou wd lo up ++ (wH G hd hc sa sv ++ (wD G md ab ++ (wR G rd tr rt ++ (wB G be beD kn ct bu bl tu tl bd bm d0 d1 d2 d3 d4 d5)))))) sz (fun u : (Nat → Int32) => wP G ad sd hd md rd be u ++ (wS G sd inp otp tc fc on ze ou wd lo up ++ (wH G hd hc sa sv ++ (wD G md ab ++ (wR G rd tr rt ++ (wB G be beD kn ct bu bl tu tl bd bm d0 d1 d2 d3 d4 d5)))))) (fun r u => K r u) := by
  refine Met.ofW (cc := cX5_evaluate) (maxL := 2) (ret := (some .int)) (by decide) rfl ?_
  intro p e s m args below meth c s₁ B hml hv
  obtain ⟨rfl, hsz, hP, hK, hD0, hZ⟩ := hv
  have hx := B.exec
  have hb := B.bytes
  have hr := B.returns
  have hts := atoms_spec (ws := wsX5_evaluate) B.pre
  have hown : s.vm.findClass RX5 = some m.cls := findClass_of_methodNamed B.named
  have hlocks := B.notSynchronized
  subst hsz
  have hD := hD0.self (sz := s.heap.size)
  generalize hAe : va_A (wP G ad sd hd md rd be er ++ (wS G sd inp otp tc fc on ze ou wd lo up ++ (wH G hd hc sa sv ++ (wD G md ab ++ (wR G rd tr rt ++ (wB G be beD kn ct bu bl tu tl bd bm d0 d1 d2 d3 d4 d5)))))) s.heap.size = A at hD hZ ⊢
  have hA : ∀ q : Nat, s.heap.size ≤ q → A q := fun q h => by rw [← hAe]; exact Or.inr h
  have hS : va_S A s.heap s.heap [] := va_S.rf
  have hl := lv_entry ([.ref (ad 0), .int a1]) (n := 2) (Nat.le_of_ble_eq_true rfl)
  rw [lg_entry_eq]
  generalize (lg_sl ([.ref (ad 0), .int a1]) ++ List.replicate (2 - (lg_sl ([.ref (ad 0), .int a1])).length) Slot.unset).toArray = ls at hl ⊢
  have hl : lv_has ls 2 [(0, .ref (ad 0)), (1, .int a1)] := hl
  unfold wp_X5_evaluate at h
  have hinX4 : ∀ w ∈ wsX40, w ∈ wsX5_evaluate := by decide +kernel
  have hinX5 : ∀ w ∈ wsX50, w ∈ wsX5_evaluate := by decide +kernel
  refine lv_iload_n hx hb dX5_evaluate_0 rfl (lv_at hl 1 rfl) ?_
  refine lv_if_lt (tgt := 17) hx hb dX5_evaluate_1 (by decide) (fun c_1 => ?_) (fun c_1 => ?_)
  · have h := h.1 c_1
    refine lv_aload_n hx hb dX5_evaluate_17 rfl (lv_at hl 0 rfl) ?_
    refine lv_bipush (v := (-2 : Int32)) hx hb dX5_evaluate_18 (by decide) ?_
    refine kp_i (wr := ([] : va_W)) (va_runV (As := [.int (-2 : Int32)]) (rest := []) ⟨hx, hb, hml, hown, hts⟩ (c_X5_fail l G ad sd hd md rd be beD _ er inp otp tc fc on ze ou wd lo up hc sa sv ab tr rt kn ct bu bl tu tl bd bm d0 d1 d2 d3 d4 d5 (-2 : Int32) h) (cwV 1 hts gX5_evaluate_X5_fail rfl rfl rfl (by decide +kernel) ⟨Nat.le_of_ble_eq_true rfl, Nat.le_of_ble_eq_true rfl⟩) (kpVp hK hP hD hZ hS hA (pm_all _) (q0 := 0) (ci := 5) rfl rfl) rfl rfl hl.1 rfl (lv_room (Nat.le_of_ble_eq_true rfl)) dX5_evaluate_20 ⟨Nat.zero_le _, Nat.zero_le _⟩) hP hD hS hA (pm_all _) (fun r2 w4 H locs h hP hD hS => ?_)
    obtain ⟨u3, rfl⟩ : ∃ z, z = w4 := ⟨_, rfl⟩
    have hP : va_P G.1 vwCl (wP G ad sd hd md rd be u3 ++ (wS G sd inp otp tc fc on ze ou wd lo up ++ (wH G hd hc sa sv ++ (wD G md ab ++ (wR G rd tr rt ++ (wB G be beD kn ct bu bl tu tl bd bm d0 d1 d2 d3 d4 d5)))))) H := hP.perm (pm_all _).symm
    have hD : va_D A (wP G ad sd hd md rd be u3 ++ (wS G sd inp otp tc fc on ze ou wd lo up ++ (wH G hd hc sa sv ++ (wD G md ab ++ (wR G rd tr rt ++ (wB G be beD kn ct bu bl tu tl bd bm d0 d1 d2 d3 d4 d5)))))) := hD.perm (pm_all _).symm
    try dsimp only at h
    exact W.iret hx hb hr (fun t ht hW => ⟨⟨_, u3, rfl, h, by rw [ht]; exact hP, hD⟩, hS.F ht⟩) hS.2.2 dX5_evaluate_23
  · have h := h.2 c_1
    refine lv_iload_n hx hb dX5_evaluate_4 rfl (lv_at hl 1 rfl) ?_
    refine lv_iconst (v := (1 : Int32)) hx hb dX5_evaluate_5 (by decide) ?_
    refine lv_aload_n hx hb dX5_evaluate_6 rfl (lv_at hl 0 rfl) ?_
    refine va_get (D := G.1) (ci := 5) (v := .ref (sd 0)) (C := RX5) (T := TX5) (N := 6) hx hb hts hinX5 hown hK.1 hP.l 0 rfl rfl 0 (by decide) (hts (.fieldLink RX5 12 "PlaFolder" "state" "LPlaFolder$State;") (by decide +kernel)) (fun _ h9 => h9) rfl dX5_evaluate_7 ?_
    refine va_getN (D := G.1) (ci := 4) (v := .int inp) (C := RX4) (T := TX4) (N := 10) (host := "PlaFolder") hx hb hts hinX4 hown hK.1 hP.r.l 0 rfl rfl 0 (by decide) (hK.2.F 0 (q := ("PlaFolder", 94, "PlaFolder$State", "inputs", "I", "PlaFolder")) rfl) (fun _ h9 => h9) rfl dX5_evaluate_10 ?_
    refine lv_ishl hx hb dX5_evaluate_13 ?_
    refine lv_icmp_lt (tgt := 24) hx hb dX5_evaluate_14 (by decide) (fun c_5 => ?_) (fun c_5 => ?_)
    · have h := h.1 c_5
      refine lv_aload_n hx hb dX5_evaluate_24 rfl (lv_at hl 0 rfl) ?_
      refine va_get (D := G.1) (ci := 5) (v := .ref (sd 0)) (C := RX5) (T := TX5) (N := 6) hx hb hts hinX5 hown hK.1 hP.l 0 rfl rfl 0 (by decide) (hts (.fieldLink RX5 12 "PlaFolder" "state" "LPlaFolder$State;") (by decide +kernel)) (fun _ h9 => h9) rfl dX5_evaluate_25 ?_
      refine lv_iload_n hx hb dX5_evaluate_28 rfl (lv_at hl 1 rfl) ?_
      refine kp_i (wr := wP G ad sd hd md rd be er ++ (wH G hd hc sa sv ++ (wD G md ab ++ (wR G rd tr rt ++ (wB G be beD kn ct bu bl tu tl bd bm d0 d1 d2 d3 d4 d5))))) (va_runVN (As := [.int a1]) (rest := []) ⟨hx, hb, hml, hown, hts⟩ (c_X4_outputWord l G sd _ inp otp tc fc on ze ou wd lo up a1 h) ⟨va_cnB 1 hts gX5_evaluate_X4_outputWord_n97 rfl rfl rfl (hK.2.M 20 (q := ("PlaFolder", 97, ⟨"PlaFolder$State", "outputWord", "(I)I"⟩, "PlaFolder")) rfl) (hts (.initialized RX4) (by decide +kernel)) (by decide +kernel) ⟨Nat.le_of_ble_eq_true rfl, Nat.le_of_ble_eq_true rfl⟩, hts (.instanceMethod yX4_outputWord) (by decide +kernel), hts (.selects RX4 yX4_outputWord yX4_outputWord) (by decide +kernel)⟩ (kpVp hK hP hD hZ hS hA (pm6_02345_1 (wP G ad sd hd md rd be er) (wS G sd inp otp tc fc on ze ou wd lo up) (wH G hd hc sa sv) (wD G md ab) (wR G rd tr rt) (wB G be beD kn ct bu bl tu tl bd bm d0 d1 d2 d3 d4 d5)) (q0 := 0) (ci := 4) rfl rfl) rfl rfl hl.1 rfl (lv_room (Nat.le_of_ble_eq_true rfl)) dX5_evaluate_29 ⟨Nat.zero_le _, Nat.zero_le _⟩) hP hD hS hA (pm6_02345_1 (wP G ad sd hd md rd be er) (wS G sd inp otp tc fc on ze ou wd lo up) (wH G hd hc sa sv) (wD G md ab) (wR G rd tr rt) (wB G be beD kn ct bu bl tu tl bd bm d0 d1 d2 d3 d4 d5)) (fun r6 w7 H locs h hP hD hS => ?_)
      have hP : va_P G.1 vwCl (wP G ad sd hd md rd be er ++ (wS G sd inp otp tc fc on ze ou wd lo up ++ (wH G hd hc sa sv ++ (wD G md ab ++ (wR G rd tr rt ++ (wB G be beD kn ct bu bl tu tl bd bm d0 d1 d2 d3 d4 d5)))))) H := hP.perm (pm6_02345_1 (wP G ad sd hd md rd be er) (wS G sd inp otp tc fc on ze ou wd lo up) (wH G hd hc sa sv) (wD G md ab) (wR G rd tr rt) (wB G be beD kn ct bu bl tu tl bd bm d0 d1 d2 d3 d4 d5)).symm
      have hD : va_D A (wP G ad sd hd md rd be er ++ (wS G sd inp otp tc fc on ze ou wd lo up ++ (wH G hd hc sa sv ++ (wD G md ab ++ (wR G rd tr rt ++ (wB G be beD kn ct bu bl tu tl bd bm d0 d1 d2 d3 d4 d5)))))) := hD.perm (pm6_02345_1 (wP G ad sd hd md rd be er) (wS G sd inp otp tc fc on ze ou wd lo up) (wH G hd hc sa sv) (wD G md ab) (wR G rd tr rt) (wB G be beD kn ct bu bl tu tl bd bm d0 d1 d2 d3 d4 d5)).symm
      try dsimp only at h
      exact W.iret hx hb hr (fun t ht hW => ⟨⟨_, er, rfl, h, by rw [ht]; exact hP, hD⟩, hS.F ht⟩) hS.2.2 dX5_evaluate_32
    · have h := h.2 c_5
      refine lv_aload_n hx hb dX5_evaluate_17 rfl (lv_at hl 0 rfl) ?_
      refine lv_bipush (v := (-2 : Int32)) hx hb dX5_evaluate_18 (by decide) ?_
      refine kp_i (wr := ([] : va_W)) (va_runV (As := [.int (-2 : Int32)]) (rest := []) ⟨hx, hb, hml, hown, hts⟩ (c_X5_fail l G ad sd hd md rd be beD _ er inp otp tc fc on ze ou wd lo up hc sa sv ab tr rt kn ct bu bl tu tl bd bm d0 d1 d2 d3 d4 d5 (-2 : Int32) h) (cwV 1 hts gX5_evaluate_X5_fail rfl rfl rfl (by decide +kernel) ⟨Nat.le_of_ble_eq_true rfl, Nat.le_of_ble_eq_true rfl⟩) (kpVp hK hP hD hZ hS hA (pm_all _) (q0 := 0) (ci := 5) rfl rfl) rfl rfl hl.1 rfl (lv_room (Nat.le_of_ble_eq_true rfl)) dX5_evaluate_20 ⟨Nat.zero_le _, Nat.zero_le _⟩) hP hD hS hA (pm_all _) (fun r8 w10 H locs h hP hD hS => ?_)
      obtain ⟨u9, rfl⟩ : ∃ z, z = w10 := ⟨_, rfl⟩
      have hP : va_P G.1 vwCl (wP G ad sd hd md rd be u9 ++ (wS G sd inp otp tc fc on ze ou wd lo up ++ (wH G hd hc sa sv ++ (wD G md ab ++ (wR G rd tr rt ++ (wB G be beD kn ct bu bl tu tl bd bm d0 d1 d2 d3 d4 d5)))))) H := hP.perm (pm_all _).symm
      have hD : va_D A (wP G ad sd hd md rd be u9 ++ (wS G sd inp otp tc fc on ze ou wd lo up ++ (wH G hd hc sa sv ++ (wD G md ab ++ (wR G rd tr rt ++ (wB G be beD kn ct bu bl tu tl bd bm d0 d1 d2 d3 d4 d5)))))) := hD.perm (pm_all _).symm
      try dsimp only at h
      exact W.iret hx hb hr (fun t ht hW => ⟨⟨_, u9, rfl, h, by rw [ht]; exact hP, hD⟩, hS.F ht⟩) hS.2.2 dX5_evaluate_23
def wp_X5_onCount (a1 : Int32) (er : Nat → Int32) (otp : Int32) (tc : Int32) (ou : Nat → Int32) (wd : Nat → Int64) (K : Int32 → (Nat → Int32) → Prop) : Prop :=
 ((a1 < 0 → wp_X5_fail (-2 : Int32) er (fun (r2 : Int32) (u3 : Nat → Int32) => K r2 u3)) ∧
 (¬ (a1 < 0) → ((a1 < otp → wp_X4_wordsOfOutput a1 (-1 : Int32) tc ou wd (fun (r6 : Int64) => wp_J13_bitCount_95d88 r6 (fun (r7 : Int32) => K r7 er))) ∧
 (¬ (a1 < otp) → wp_X5_fail (-2 : Int32) er (fun (r10 : Int32) (u11 : Nat → Int32) => K r10 u11)))))
abbrev rm_X5_onCount : Room := { frames := 2, cells := 0, slots := 0, locals := 46 }
set_option maxHeartbeats 4000000 in
set_option maxRecDepth 100000 in
theorem c_X5_onCount (l : Launch) (G : GG) (ad : Nat → Nat) (sd : Nat → Nat) (hd : Nat → Nat) (md : Nat → Nat) (rd : Nat → Nat) (be : Nat → Nat) (beD : Nat → Nat → Nat) (sz : Nat) (er : Nat → Int32) (inp : Int32) (otp : Int32) (tc : Int32) (fc : Int32) (on : Nat → Int32) (ze : Nat → Int32) (ou : Nat → Int32) (wd : Nat → Int64) (lo : Nat → Int32) (up : Nat → Int32) (hc : Int32) (sa : Nat → Nat → Nat) (sv : Nat → SS) (ab : Nat → Int32) (tr : Nat → Int32) (rt : Nat → Int32) (kn : Int32) (ct : Int32) (bu : Nat → Int32) (bl : Nat → Int32) (tu : Nat → Int32) (tl : Nat → Int32) (bd : Nat → Int32) (bm : Nat → Int32) (d0 : Nat → Int32) (d1 : Nat → Int32) (d2 : Nat → Int32) (d3 : Nat → Int32) (d4 : Nat → Int32) (d5 : Nat → Int32) (a1 : Int32) {K : Int32 → (Nat → Int32) → Prop} (h : wp_X5_onCount a1 er otp tc ou wd K) : CI l yX5_onCount wsX5_onCount rm_X5_onCount G [.ref (ad 0), .int a1] (wP G ad sd hd md rd be er ++ (wS G sd inp otp tc fc on ze ou wd lo up ++ (wH G hd hc sa sv ++ (wD G md ab ++ (wR G rd tr rt ++ (wB G be beD kn ct bu bl tu tl bd bm d0 d1 d2 d3 d4 d5)))))) sz (fun u : (Nat → Int32) => wP G ad sd hd md rd be u ++ (wS G sd inp otp tc fc on ze ou wd lo up ++ (wH G hd hc sa sv ++ (wD G md ab ++ (wR G rd tr rt ++ (wB G be beD kn ct bu bl tu tl bd bm d0 d1 d2 d3 d4 d5)))))) (fun r u => K r u) := by
  refine Met.ofW (cc := cX5_onCount) (maxL := 2) (ret := (some .int)) (by decide) rfl ?_
  intro p e s m args below meth c s₁ B hml hv
  obtain ⟨rfl, hsz, hP, hK, hD0, hZ⟩ := hv
  have hx := B.exec
  have hb := B.bytes
  have hr := B.returns
  have hts := atoms_spec (ws := wsX5_onCount) B.pre
  have hown : s.vm.findClass RX5 = some m.cls := findClass_of_methodNamed B.named
  have hlocks := B.notSynchronized
  subst hsz
  have hD := hD0.self (sz := s.heap.size)
  generalize hAe : va_A (wP G ad sd hd md rd be er ++ (wS G sd inp otp tc fc on ze ou wd lo up ++ (wH G hd hc sa sv ++ (wD G md ab ++ (wR G rd tr rt ++ (wB G be beD kn ct bu bl tu tl bd bm d0 d1 d2 d3 d4 d5)))))) s.heap.size = A at hD hZ ⊢
  have hA : ∀ q : Nat, s.heap.size ≤ q → A q := fun q h => by rw [← hAe]; exact Or.inr h
  have hS : va_S A s.heap s.heap [] := va_S.rf
  have hl := lv_entry ([.ref (ad 0), .int a1]) (n := 2) (Nat.le_of_ble_eq_true rfl)
  rw [lg_entry_eq]
  generalize (lg_sl ([.ref (ad 0), .int a1]) ++ List.replicate (2 - (lg_sl ([.ref (ad 0), .int a1])).length) Slot.unset).toArray = ls at hl ⊢
  have hl : lv_has ls 2 [(0, .ref (ad 0)), (1, .int a1)] := hl
  unfold wp_X5_onCount at h
  have hinX4 : ∀ w ∈ wsX40, w ∈ wsX5_onCount := by decide +kernel
  have hinX5 : ∀ w ∈ wsX50, w ∈ wsX5_onCount := by decide +kernel
  refine lv_iload_n hx hb dX5_onCount_0 rfl (lv_at hl 1 rfl) ?_
  refine lv_if_lt (tgt := 15) hx hb dX5_onCount_1 (by decide) (fun c_1 => ?_) (fun c_1 => ?_)
  · have h := h.1 c_1
    refine lv_aload_n hx hb dX5_onCount_15 rfl (lv_at hl 0 rfl) ?_
    refine lv_bipush (v := (-2 : Int32)) hx hb dX5_onCount_16 (by decide) ?_
    refine kp_i (wr := ([] : va_W)) (va_runV (As := [.int (-2 : Int32)]) (rest := []) ⟨hx, hb, hml, hown, hts⟩ (c_X5_fail l G ad sd hd md rd be beD _ er inp otp tc fc on ze ou wd lo up hc sa sv ab tr rt kn ct bu bl tu tl bd bm d0 d1 d2 d3 d4 d5 (-2 : Int32) h) (cwV 1 hts gX5_onCount_X5_fail rfl rfl rfl (by decide +kernel) ⟨Nat.le_of_ble_eq_true rfl, Nat.le_of_ble_eq_true rfl⟩) (kpVp hK hP hD hZ hS hA (pm_all _) (q0 := 0) (ci := 5) rfl rfl) rfl rfl hl.1 rfl (lv_room (Nat.le_of_ble_eq_true rfl)) dX5_onCount_18 ⟨Nat.zero_le _, Nat.zero_le _⟩) hP hD hS hA (pm_all _) (fun r2 w4 H locs h hP hD hS => ?_)
    obtain ⟨u3, rfl⟩ : ∃ z, z = w4 := ⟨_, rfl⟩
    have hP : va_P G.1 vwCl (wP G ad sd hd md rd be u3 ++ (wS G sd inp otp tc fc on ze ou wd lo up ++ (wH G hd hc sa sv ++ (wD G md ab ++ (wR G rd tr rt ++ (wB G be beD kn ct bu bl tu tl bd bm d0 d1 d2 d3 d4 d5)))))) H := hP.perm (pm_all _).symm
    have hD : va_D A (wP G ad sd hd md rd be u3 ++ (wS G sd inp otp tc fc on ze ou wd lo up ++ (wH G hd hc sa sv ++ (wD G md ab ++ (wR G rd tr rt ++ (wB G be beD kn ct bu bl tu tl bd bm d0 d1 d2 d3 d4 d5)))))) := hD.perm (pm_all _).symm
    try dsimp only at h
    exact W.iret hx hb hr (fun t ht hW => ⟨⟨_, u3, rfl, h, by rw [ht]; exact hP, hD⟩, hS.F ht⟩) hS.2.2 dX5_onCount_21
  · have h := h.2 c_1
    refine lv_iload_n hx hb dX5_onCount_4 rfl (lv_at hl 1 rfl) ?_
    refine lv_aload_n hx hb dX5_onCount_5 rfl (lv_at hl 0 rfl) ?_
    refine va_get (D := G.1) (ci := 5) (v := .ref (sd 0)) (C := RX5) (T := TX5) (N := 6) hx hb hts hinX5 hown hK.1 hP.l 0 rfl rfl 0 (by decide) (hts (.fieldLink RX5 12 "PlaFolder" "state" "LPlaFolder$State;") (by decide +kernel)) (fun _ h9 => h9) rfl dX5_onCount_6 ?_
    refine va_getN (D := G.1) (ci := 4) (v := .int otp) (C := RX4) (T := TX4) (N := 10) (host := "PlaFolder") hx hb hts hinX4 hown hK.1 hP.r.l 0 rfl rfl 1 (by decide) (hK.2.F 1 (q := ("PlaFolder", 100, "PlaFolder$State", "outputs", "I", "PlaFolder")) rfl) (fun _ h9 => h9) rfl dX5_onCount_9 ?_
    refine lv_icmp_lt (tgt := 22) hx hb dX5_onCount_12 (by decide) (fun c_5 => ?_) (fun c_5 => ?_)
    · have h := h.1 c_5
      refine lv_aload_n hx hb dX5_onCount_22 rfl (lv_at hl 0 rfl) ?_
      refine va_get (D := G.1) (ci := 5) (v := .ref (sd 0)) (C := RX5) (T := TX5) (N := 6) hx hb hts hinX5 hown hK.1 hP.l 0 rfl rfl 0 (by decide) (hts (.fieldLink RX5 12 "PlaFolder" "state" "LPlaFolder$State;") (by decide +kernel)) (fun _ h9 => h9) rfl dX5_onCount_23 ?_
      refine lv_iload_n hx hb dX5_onCount_26 rfl (lv_at hl 1 rfl) ?_
      refine lv_iconst (v := (-1 : Int32)) hx hb dX5_onCount_27 (by decide) ?_
      refine kp_l (wr := wP G ad sd hd md rd be er ++ (wH G hd hc sa sv ++ (wD G md ab ++ (wR G rd tr rt ++ (wB G be beD kn ct bu bl tu tl bd bm d0 d1 d2 d3 d4 d5))))) (va_runVN (As := [.int a1, .int (-1 : Int32)]) (rest := []) ⟨hx, hb, hml, hown, hts⟩ (c_X4_wordsOfOutput l G sd _ inp otp tc fc on ze ou wd lo up a1 (-1 : Int32) h) ⟨va_cnB 2 hts gX5_onCount_X4_wordsOfOutput_n103 rfl rfl rfl (hK.2.M 21 (q := ("PlaFolder", 103, ⟨"PlaFolder$State", "wordsOfOutput", "(II)J"⟩, "PlaFolder")) rfl) (hts (.initialized RX4) (by decide +kernel)) (by decide +kernel) ⟨Nat.le_of_ble_eq_true rfl, Nat.le_of_ble_eq_true rfl⟩, hts (.instanceMethod yX4_wordsOfOutput) (by decide +kernel), hts (.selects RX4 yX4_wordsOfOutput yX4_wordsOfOutput) (by decide +kernel)⟩ (kpVp hK hP hD hZ hS hA (pm6_02345_1 (wP G ad sd hd md rd be er) (wS G sd inp otp tc fc on ze ou wd lo up) (wH G hd hc sa sv) (wD G md ab) (wR G rd tr rt) (wB G be beD kn ct bu bl tu tl bd bm d0 d1 d2 d3 d4 d5)) (q0 := 0) (ci := 4) rfl rfl) rfl rfl hl.1 rfl (lv_room (Nat.le_of_ble_eq_true rfl)) dX5_onCount_28 ⟨Nat.zero_le _, Nat.zero_le _⟩) hP hD hS hA (pm6_02345_1 (wP G ad sd hd md rd be er) (wS G sd inp otp tc fc on ze ou wd lo up) (wH G hd hc sa sv) (wD G md ab) (wR G rd tr rt) (wB G be beD kn ct bu bl tu tl bd bm d0 d1 d2 d3 d4 d5)) (fun r6 w9 H locs h hP hD hS => ?_)
      have hP : va_P G.1 vwCl (wP G ad sd hd md rd be er ++ (wS G sd inp otp tc fc on ze ou wd lo up ++ (wH G hd hc sa sv ++ (wD G md ab ++ (wR G rd tr rt ++ (wB G be beD kn ct bu bl tu tl bd bm d0 d1 d2 d3 d4 d5)))))) H := hP.perm (pm6_02345_1 (wP G ad sd hd md rd be er) (wS G sd inp otp tc fc on ze ou wd lo up) (wH G hd hc sa sv) (wD G md ab) (wR G rd tr rt) (wB G be beD kn ct bu bl tu tl bd bm d0 d1 d2 d3 d4 d5)).symm
      have hD : va_D A (wP G ad sd hd md rd be er ++ (wS G sd inp otp tc fc on ze ou wd lo up ++ (wH G hd hc sa sv ++ (wD G md ab ++ (wR G rd tr rt ++ (wB G be beD kn ct bu bl tu tl bd bm d0 d1 d2 d3 d4 d5)))))) := hD.perm (pm6_02345_1 (wP G ad sd hd md rd be er) (wS G sd inp otp tc fc on ze ou wd lo up) (wH G hd hc sa sv) (wD G md ab) (wR G rd tr rt) (wB G be beD kn ct bu bl tu tl bd bm d0 d1 d2 d3 d4 d5)).symm
      try dsimp only at h
      refine kp_i (wr := wP G ad sd hd md rd be er ++ (wS G sd inp otp tc fc on ze ou wd lo up ++ (wH G hd hc sa sv ++ (wD G md ab ++ (wR G rd tr rt ++ (wB G be beD kn ct bu bl tu tl bd bm d0 d1 d2 d3 d4 d5)))))) (va_runS (As := [.long r6]) (rest := []) ⟨hx, hb, hml, hown, hts⟩ (c_J13_bitCount_95d88 l G  _  r6 h) (va_cwS 1 hts gX5_onCount_J13_bitCount_95d88 rfl rfl rfl (by decide +kernel) ⟨Nat.le_of_ble_eq_true rfl, Nat.le_of_ble_eq_true rfl⟩) (kpSp hK hP hD hZ hS hA (pm_nil _)) rfl rfl hl.1 rfl (lv_room (Nat.le_of_ble_eq_true rfl)) dX5_onCount_31 ⟨Nat.zero_le _, Nat.zero_le _⟩) hP hD hS hA (pm_nil _) (fun r7 w8 H locs h hP hD hS => ?_)
      have hP : va_P G.1 vwCl (wP G ad sd hd md rd be er ++ (wS G sd inp otp tc fc on ze ou wd lo up ++ (wH G hd hc sa sv ++ (wD G md ab ++ (wR G rd tr rt ++ (wB G be beD kn ct bu bl tu tl bd bm d0 d1 d2 d3 d4 d5)))))) H := hP.perm (pm_nil _).symm
      have hD : va_D A (wP G ad sd hd md rd be er ++ (wS G sd inp otp tc fc on ze ou wd lo up ++ (wH G hd hc sa sv ++ (wD G md ab ++ (wR G rd tr rt ++ (wB G be beD kn ct bu bl tu tl bd bm d0 d1 d2 d3 d4 d5)))))) := hD.perm (pm_nil _).symm
      try dsimp only at h
      exact W.iret hx hb hr (fun t ht hW => ⟨⟨_, er, rfl, h, by rw [ht]; exact hP, hD⟩, hS.F ht⟩) hS.2.2 dX5_onCount_34
    · have h := h.2 c_5
      refine lv_aload_n hx hb dX5_onCount_15 rfl (lv_at hl 0 rfl) ?_
      refine lv_bipush (v := (-2 : Int32)) hx hb dX5_onCount_16 (by decide) ?_
      refine kp_i (wr := ([] : va_W)) (va_runV (As := [.int (-2 : Int32)]) (rest := []) ⟨hx, hb, hml, hown, hts⟩ (c_X5_fail l G ad sd hd md rd be beD _ er inp otp tc fc on ze ou wd lo up hc sa sv ab tr rt kn ct bu bl tu tl bd bm d0 d1 d2 d3 d4 d5 (-2 : Int32) h) (cwV 1 hts gX5_onCount_X5_fail rfl rfl rfl (by decide +kernel) ⟨Nat.le_of_ble_eq_true rfl, Nat.le_of_ble_eq_true rfl⟩) (kpVp hK hP hD hZ hS hA (pm_all _) (q0 := 0) (ci := 5) rfl rfl) rfl rfl hl.1 rfl (lv_room (Nat.le_of_ble_eq_true rfl)) dX5_onCount_18 ⟨Nat.zero_le _, Nat.zero_le _⟩) hP hD hS hA (pm_all _) (fun r10 w12 H locs h hP hD hS => ?_)
      obtain ⟨u11, rfl⟩ : ∃ z, z = w12 := ⟨_, rfl⟩
      have hP : va_P G.1 vwCl (wP G ad sd hd md rd be u11 ++ (wS G sd inp otp tc fc on ze ou wd lo up ++ (wH G hd hc sa sv ++ (wD G md ab ++ (wR G rd tr rt ++ (wB G be beD kn ct bu bl tu tl bd bm d0 d1 d2 d3 d4 d5)))))) H := hP.perm (pm_all _).symm
      have hD : va_D A (wP G ad sd hd md rd be u11 ++ (wS G sd inp otp tc fc on ze ou wd lo up ++ (wH G hd hc sa sv ++ (wD G md ab ++ (wR G rd tr rt ++ (wB G be beD kn ct bu bl tu tl bd bm d0 d1 d2 d3 d4 d5)))))) := hD.perm (pm_all _).symm
      try dsimp only at h
      exact W.iret hx hb hr (fun t ht hW => ⟨⟨_, u11, rfl, h, by rw [ht]; exact hP, hD⟩, hS.F ht⟩) hS.2.2 dX5_onCount_21
def wp_X5_isRedundant (a1 : Int32) (er : Nat → Int32) (otp : Int32) (tc : Int32) (ou : Nat → Int32) (wd : Nat → Int64) (K : Int32 → (Nat → Int32) → Prop) : Prop :=
 wp_X4_hasTerm a1 tc (fun (r1 : Int32) => ((¬ r1 = 0 → wp_X4_isSpare a1 otp tc ou wd (fun (r3 : Int32) => wp_X5_flag r3 (fun (r4 : Int32) => K r4 er))) ∧
 (r1 = 0 → wp_X5_fail (-2 : Int32) er (fun (r7 : Int32) (u8 : Nat → Int32) => K r7 u8))))
abbrev rm_X5_isRedundant : Room := { frames := 3, cells := 0, slots := 0, locals := 68 }
set_option maxHeartbeats 4000000 in
set_option maxRecDepth 100000 in
theorem c_X5_isRedundant (l : Launch) (G : GG) (ad : Nat → Nat) (sd : Nat → Nat) (hd : Nat → Nat) (md : Nat → Nat) (rd : Nat → Nat) (be : Nat → Nat) (beD : Nat → Nat → Nat) (sz : Nat) (er : Nat → Int32) (inp : Int32) (otp : Int32) (tc : Int32) (fc : Int32) (on : Nat → Int32) (ze : Nat → Int32) (ou : Nat → Int32) (wd : Nat → Int64) (lo : Nat → Int32) (up : Nat → Int32) (hc : Int32) (sa : Nat → Nat → Nat) (sv : Nat → SS) (ab : Nat → Int32) (tr : Nat → Int32) (rt : Nat → Int32) (kn : Int32) (ct : Int32) (bu : Nat → Int32) (bl : Nat → Int32) (tu : Nat → Int32) (tl : Nat → Int32) (bd : Nat → Int32) (bm : Nat → Int32) (d0 : Nat → Int32) (d1 : Nat → Int32) (d2 : Nat → Int32) (d3 : Nat → Int32) (d4 : Nat → Int32) (d5 : Nat → Int32) (a1 : Int32) {K : Int32 → (Nat → Int32) → Prop} (h : wp_X5_isRedundant a1 er otp tc ou wd K) : CI l yX5_isRedundant wsX5_isRedundant rm_X5_isRedundant G [.ref (ad 0), .int a1] (wP G ad sd hd md rd be er ++ (wS G sd inp otp tc fc on ze ou wd lo up ++ (wH G hd hc sa sv ++ (wD G md ab ++ (wR G rd tr rt ++ (wB G be beD kn ct bu bl tu tl bd bm d0 d1 d2 d3 d4 d5)))))) sz (fun u : (Nat → Int32) => wP G ad sd hd md rd be u ++ (wS G sd inp otp tc fc on ze ou wd lo up ++ (wH G hd hc sa sv ++ (wD G md ab ++ (wR G rd tr rt ++ (wB G be beD kn ct bu bl tu tl bd bm d0 d1 d2 d3 d4 d5)))))) (fun r u => K r u) := by
  refine Met.ofW (cc := cX5_isRedundant) (maxL := 2) (ret := (some .int)) (by decide) rfl ?_
  intro p e s m args below meth c s₁ B hml hv
  obtain ⟨rfl, hsz, hP, hK, hD0, hZ⟩ := hv
  have hx := B.exec
  have hb := B.bytes
  have hr := B.returns
  have hts := atoms_spec (ws := wsX5_isRedundant) B.pre
  have hown : s.vm.findClass RX5 = some m.cls := findClass_of_methodNamed B.named
  have hlocks := B.notSynchronized
  subst hsz
  have hD := hD0.self (sz := s.heap.size)
  generalize hAe : va_A (wP G ad sd hd md rd be er ++ (wS G sd inp otp tc fc on ze ou wd lo up ++ (wH G hd hc sa sv ++ (wD G md ab ++ (wR G rd tr rt ++ (wB G be beD kn ct bu bl tu tl bd bm d0 d1 d2 d3 d4 d5)))))) s.heap.size = A at hD hZ ⊢
  have hA : ∀ q : Nat, s.heap.size ≤ q → A q := fun q h => by rw [← hAe]; exact Or.inr h
  have hS : va_S A s.heap s.heap [] := va_S.rf
  have hl := lv_entry ([.ref (ad 0), .int a1]) (n := 2) (Nat.le_of_ble_eq_true rfl)
  rw [lg_entry_eq]
  generalize (lg_sl ([.ref (ad 0), .int a1]) ++ List.replicate (2 - (lg_sl ([.ref (ad 0), .int a1])).length) Slot.unset).toArray = ls at hl ⊢
  have hl : lv_has ls 2 [(0, .ref (ad 0)), (1, .int a1)] := hl
  unfold wp_X5_isRedundant at h
  have hinX5 : ∀ w ∈ wsX50, w ∈ wsX5_isRedundant := by decide +kernel
  refine lv_aload_n hx hb dX5_isRedundant_0 rfl (lv_at hl 0 rfl) ?_
  refine va_get (D := G.1) (ci := 5) (v := .ref (sd 0)) (C := RX5) (T := TX5) (N := 6) hx hb hts hinX5 hown hK.1 hP.l 0 rfl rfl 0 (by decide) (hts (.fieldLink RX5 12 "PlaFolder" "state" "LPlaFolder$State;") (by decide +kernel)) (fun _ h9 => h9) rfl dX5_isRedundant_1 ?_
  refine lv_iload_n hx hb dX5_isRedundant_4 rfl (lv_at hl 1 rfl) ?_
  refine kp_i (wr := wP G ad sd hd md rd be er ++ (wH G hd hc sa sv ++ (wD G md ab ++ (wR G rd tr rt ++ (wB G be beD kn ct bu bl tu tl bd bm d0 d1 d2 d3 d4 d5))))) (va_runVN (As := [.int a1]) (rest := []) ⟨hx, hb, hml, hown, hts⟩ (c_X4_hasTerm l G sd _ inp otp tc fc on ze ou wd lo up a1 h) ⟨va_cnB 1 hts gX5_isRedundant_X4_hasTerm_n75 rfl rfl rfl (hK.2.M 18 (q := ("PlaFolder", 75, ⟨"PlaFolder$State", "hasTerm", "(I)Z"⟩, "PlaFolder")) rfl) (hts (.initialized RX4) (by decide +kernel)) (by decide +kernel) ⟨Nat.le_of_ble_eq_true rfl, Nat.le_of_ble_eq_true rfl⟩, hts (.instanceMethod yX4_hasTerm) (by decide +kernel), hts (.selects RX4 yX4_hasTerm yX4_hasTerm) (by decide +kernel)⟩ (kpVp hK hP hD hZ hS hA (pm6_02345_1 (wP G ad sd hd md rd be er) (wS G sd inp otp tc fc on ze ou wd lo up) (wH G hd hc sa sv) (wD G md ab) (wR G rd tr rt) (wB G be beD kn ct bu bl tu tl bd bm d0 d1 d2 d3 d4 d5)) (q0 := 0) (ci := 4) rfl rfl) rfl rfl hl.1 rfl (lv_room (Nat.le_of_ble_eq_true rfl)) dX5_isRedundant_5 ⟨Nat.zero_le _, Nat.zero_le _⟩) hP hD hS hA (pm6_02345_1 (wP G ad sd hd md rd be er) (wS G sd inp otp tc fc on ze ou wd lo up) (wH G hd hc sa sv) (wD G md ab) (wR G rd tr rt) (wB G be beD kn ct bu bl tu tl bd bm d0 d1 d2 d3 d4 d5)) (fun r1 w10 H locs h hP hD hS => ?_)
  have hP : va_P G.1 vwCl (wP G ad sd hd md rd be er ++ (wS G sd inp otp tc fc on ze ou wd lo up ++ (wH G hd hc sa sv ++ (wD G md ab ++ (wR G rd tr rt ++ (wB G be beD kn ct bu bl tu tl bd bm d0 d1 d2 d3 d4 d5)))))) H := hP.perm (pm6_02345_1 (wP G ad sd hd md rd be er) (wS G sd inp otp tc fc on ze ou wd lo up) (wH G hd hc sa sv) (wD G md ab) (wR G rd tr rt) (wB G be beD kn ct bu bl tu tl bd bm d0 d1 d2 d3 d4 d5)).symm
  have hD : va_D A (wP G ad sd hd md rd be er ++ (wS G sd inp otp tc fc on ze ou wd lo up ++ (wH G hd hc sa sv ++ (wD G md ab ++ (wR G rd tr rt ++ (wB G be beD kn ct bu bl tu tl bd bm d0 d1 d2 d3 d4 d5)))))) := hD.perm (pm6_02345_1 (wP G ad sd hd md rd be er) (wS G sd inp otp tc fc on ze ou wd lo up) (wH G hd hc sa sv) (wD G md ab) (wR G rd tr rt) (wB G be beD kn ct bu bl tu tl bd bm d0 d1 d2 d3 d4 d5)).symm
  try dsimp only at h
  refine lv_if_ne (tgt := 18) hx hb dX5_isRedundant_8 (by decide) (fun c_2 => ?_) (fun c_2 => ?_)
  · have h := h.1 c_2
    refine lv_aload_n hx hb dX5_isRedundant_18 rfl (lv_at hl 0 rfl) ?_
    refine va_get (D := G.1) (ci := 5) (v := .ref (sd 0)) (C := RX5) (T := TX5) (N := 6) hx hb hts hinX5 hown hK.1 hP.l 0 rfl rfl 0 (by decide) (hts (.fieldLink RX5 12 "PlaFolder" "state" "LPlaFolder$State;") (by decide +kernel)) (fun _ h9 => h9) rfl dX5_isRedundant_19 ?_
    refine lv_iload_n hx hb dX5_isRedundant_22 rfl (lv_at hl 1 rfl) ?_
    refine kp_i (wr := wP G ad sd hd md rd be er ++ (wH G hd hc sa sv ++ (wD G md ab ++ (wR G rd tr rt ++ (wB G be beD kn ct bu bl tu tl bd bm d0 d1 d2 d3 d4 d5))))) (va_runVN (As := [.int a1]) (rest := []) ⟨hx, hb, hml, hown, hts⟩ (c_X4_isSpare l G sd _ inp otp tc fc on ze ou wd lo up a1 h) ⟨va_cnB 1 hts gX5_isRedundant_X4_isSpare_n112 rfl rfl rfl (hK.2.M 22 (q := ("PlaFolder", 112, ⟨"PlaFolder$State", "isSpare", "(I)Z"⟩, "PlaFolder")) rfl) (hts (.initialized RX4) (by decide +kernel)) (by decide +kernel) ⟨Nat.le_of_ble_eq_true rfl, Nat.le_of_ble_eq_true rfl⟩, hts (.instanceMethod yX4_isSpare) (by decide +kernel), hts (.selects RX4 yX4_isSpare yX4_isSpare) (by decide +kernel)⟩ (kpVp hK hP hD hZ hS hA (pm6_02345_1 (wP G ad sd hd md rd be er) (wS G sd inp otp tc fc on ze ou wd lo up) (wH G hd hc sa sv) (wD G md ab) (wR G rd tr rt) (wB G be beD kn ct bu bl tu tl bd bm d0 d1 d2 d3 d4 d5)) (q0 := 0) (ci := 4) rfl rfl) rfl rfl hl.1 rfl (lv_room (Nat.le_of_ble_eq_true rfl)) dX5_isRedundant_23 ⟨Nat.zero_le _, Nat.zero_le _⟩) hP hD hS hA (pm6_02345_1 (wP G ad sd hd md rd be er) (wS G sd inp otp tc fc on ze ou wd lo up) (wH G hd hc sa sv) (wD G md ab) (wR G rd tr rt) (wB G be beD kn ct bu bl tu tl bd bm d0 d1 d2 d3 d4 d5)) (fun r3 w6 H locs h hP hD hS => ?_)
    have hP : va_P G.1 vwCl (wP G ad sd hd md rd be er ++ (wS G sd inp otp tc fc on ze ou wd lo up ++ (wH G hd hc sa sv ++ (wD G md ab ++ (wR G rd tr rt ++ (wB G be beD kn ct bu bl tu tl bd bm d0 d1 d2 d3 d4 d5)))))) H := hP.perm (pm6_02345_1 (wP G ad sd hd md rd be er) (wS G sd inp otp tc fc on ze ou wd lo up) (wH G hd hc sa sv) (wD G md ab) (wR G rd tr rt) (wB G be beD kn ct bu bl tu tl bd bm d0 d1 d2 d3 d4 d5)).symm
    have hD : va_D A (wP G ad sd hd md rd be er ++ (wS G sd inp otp tc fc on ze ou wd lo up ++ (wH G hd hc sa sv ++ (wD G md ab ++ (wR G rd tr rt ++ (wB G be beD kn ct bu bl tu tl bd bm d0 d1 d2 d3 d4 d5)))))) := hD.perm (pm6_02345_1 (wP G ad sd hd md rd be er) (wS G sd inp otp tc fc on ze ou wd lo up) (wH G hd hc sa sv) (wD G md ab) (wR G rd tr rt) (wB G be beD kn ct bu bl tu tl bd bm d0 d1 d2 d3 d4 d5)).symm
    try dsimp only at h
    refine kp_i (wr := wP G ad sd hd md rd be er ++ (wS G sd inp otp tc fc on ze ou wd lo up ++ (wH G hd hc sa sv ++ (wD G md ab ++ (wR G rd tr rt ++ (wB G be beD kn ct bu bl tu tl bd bm d0 d1 d2 d3 d4 d5)))))) (va_runS (As := [.int r3]) (rest := []) ⟨hx, hb, hml, hown, hts⟩ (c_X5_flag l G  _  r3 h) (va_cwS 1 hts gX5_isRedundant_X5_flag rfl rfl rfl (by decide +kernel) ⟨Nat.le_of_ble_eq_true rfl, Nat.le_of_ble_eq_true rfl⟩) (kpSp hK hP hD hZ hS hA (pm_nil _)) rfl rfl hl.1 rfl (lv_room (Nat.le_of_ble_eq_true rfl)) dX5_isRedundant_26 ⟨Nat.zero_le _, Nat.zero_le _⟩) hP hD hS hA (pm_nil _) (fun r4 w5 H locs h hP hD hS => ?_)
    have hP : va_P G.1 vwCl (wP G ad sd hd md rd be er ++ (wS G sd inp otp tc fc on ze ou wd lo up ++ (wH G hd hc sa sv ++ (wD G md ab ++ (wR G rd tr rt ++ (wB G be beD kn ct bu bl tu tl bd bm d0 d1 d2 d3 d4 d5)))))) H := hP.perm (pm_nil _).symm
    have hD : va_D A (wP G ad sd hd md rd be er ++ (wS G sd inp otp tc fc on ze ou wd lo up ++ (wH G hd hc sa sv ++ (wD G md ab ++ (wR G rd tr rt ++ (wB G be beD kn ct bu bl tu tl bd bm d0 d1 d2 d3 d4 d5)))))) := hD.perm (pm_nil _).symm
    try dsimp only at h
    exact W.iret hx hb hr (fun t ht hW => ⟨⟨_, er, rfl, h, by rw [ht]; exact hP, hD⟩, hS.F ht⟩) hS.2.2 dX5_isRedundant_29
  · have h := h.2 c_2
    refine lv_aload_n hx hb dX5_isRedundant_11 rfl (lv_at hl 0 rfl) ?_
    refine lv_bipush (v := (-2 : Int32)) hx hb dX5_isRedundant_12 (by decide) ?_
    refine kp_i (wr := ([] : va_W)) (va_runV (As := [.int (-2 : Int32)]) (rest := []) ⟨hx, hb, hml, hown, hts⟩ (c_X5_fail l G ad sd hd md rd be beD _ er inp otp tc fc on ze ou wd lo up hc sa sv ab tr rt kn ct bu bl tu tl bd bm d0 d1 d2 d3 d4 d5 (-2 : Int32) h) (cwV 1 hts gX5_isRedundant_X5_fail rfl rfl rfl (by decide +kernel) ⟨Nat.le_of_ble_eq_true rfl, Nat.le_of_ble_eq_true rfl⟩) (kpVp hK hP hD hZ hS hA (pm_all _) (q0 := 0) (ci := 5) rfl rfl) rfl rfl hl.1 rfl (lv_room (Nat.le_of_ble_eq_true rfl)) dX5_isRedundant_14 ⟨Nat.zero_le _, Nat.zero_le _⟩) hP hD hS hA (pm_all _) (fun r7 w9 H locs h hP hD hS => ?_)
    obtain ⟨u8, rfl⟩ : ∃ z, z = w9 := ⟨_, rfl⟩
    have hP : va_P G.1 vwCl (wP G ad sd hd md rd be u8 ++ (wS G sd inp otp tc fc on ze ou wd lo up ++ (wH G hd hc sa sv ++ (wD G md ab ++ (wR G rd tr rt ++ (wB G be beD kn ct bu bl tu tl bd bm d0 d1 d2 d3 d4 d5)))))) H := hP.perm (pm_all _).symm
    have hD : va_D A (wP G ad sd hd md rd be u8 ++ (wS G sd inp otp tc fc on ze ou wd lo up ++ (wH G hd hc sa sv ++ (wD G md ab ++ (wR G rd tr rt ++ (wB G be beD kn ct bu bl tu tl bd bm d0 d1 d2 d3 d4 d5)))))) := hD.perm (pm_all _).symm
    try dsimp only at h
    exact W.iret hx hb hr (fun t ht hW => ⟨⟨_, u8, rfl, h, by rw [ht]; exact hP, hD⟩, hS.F ht⟩) hS.2.2 dX5_isRedundant_17
def wp_X5_removeRedundant (inp : Int32) (otp : Int32) (tc : Int32) (fc : Int32) (on : Nat → Int32) (ze : Nat → Int32) (ou : Nat → Int32) (wd : Nat → Int64) (lo : Nat → Int32) (up : Nat → Int32) (hc : Int32) (sa : Nat → Nat → Nat) (sv : Nat → SS) (ab : Nat → Int32) (tr : Nat → Int32) (rt : Nat → Int32) (kn : Int32) (K : Int32 → Int32 → Int32 → (Nat → Int32) → (Nat → Int32) → (Nat → Int32) → (Nat → Int64) → (Nat → Int32) → (Nat → Int32) → Int32 → (Nat → Nat → Nat) → (Nat → SS) → (Nat → Int32) → (Nat → Int32) → (Nat → Int32) → Int32 → Prop) : Prop :=
 wp_X2_push hc sa sv inp otp tc fc on ze ou wd lo up (fun (u2 : Int32) (u3 : Nat → Nat → Nat) (u4 : Nat → SS) => (Lp9 (tc - (1 : Int32)) tc fc on ze ou wd lo up (fun (x5 : Int32) (z6 : Int32) (z7 : Int32) (z8 : Nat → Int32) (z9 : Nat → Int32) (z10 : Nat → Int32) (z11 : Nat → Int64) (z12 : Nat → Int32) (z13 : Nat → Int32) (J17 : Int32 → Int32 → Int32 → (Nat → Int32) → (Nat → Int32) → (Nat → Int32) → (Nat → Int64) → (Nat → Int32) → (Nat → Int32) → Prop) => ((x5 < 0 → (Jn4 (fun (z22 : Nat → Int32) (z23 : Nat → Int32) (z24 : Nat → Int32) (z25 : Int32) => K (tc - z6) z6 z7 z8 z9 z10 z11 z12 z13 u2 u3 u4 z22 z23 z24 z25)
 (fun (J26 : (Nat → Int32) → (Nat → Int32) → (Nat → Int32) → Int32 → Prop) => ((tc ≤ z6 → J26 ab tr rt kn) ∧
 (¬ (tc ≤ z6) → wp_X5_termsChanged z6 z8 z9 z10 z12 ab tr rt kn (fun (u29 : Nat → Int32) (u30 : Nat → Int32) (u31 : Nat → Int32) (u32 : Int32) => J26 u29 u30 u31 u32)))))) ∧
 (¬ (x5 < 0) → wp_X4_isSpare x5 otp z6 z10 z11 (fun (r35 : Int32) => ((r35 = 0 → J17 (x5 + (-1 : Int32)) z6 z7 z8 z9 z10 z11 z12 z13) ∧
 (¬ (r35 = 0) → wp_X4_dropTerm x5 z6 z7 z8 z9 z10 z11 z12 z13 (fun (u41 : Int32) (u42 : Int32) (u43 : Nat → Int32) (u44 : Nat → Int32) (u45 : Nat → Int32) (u46 : Nat → Int64) (u47 : Nat → Int32) (u48 : Nat → Int32) => J17 (x5 + (-1 : Int32)) u41 u42 u43 u44 u45 u46 u47 u48)))))))))
abbrev rm_X5_removeRedundant : Room := { frames := 6, cells := 0, slots := 0, locals := 131 }
set_option maxHeartbeats 4000000 in
set_option maxRecDepth 100000 in
theorem c_X5_removeRedundant (l : Launch) (G : GG) (ad : Nat → Nat) (sd : Nat → Nat) (hd : Nat → Nat) (md : Nat → Nat) (rd : Nat → Nat) (be : Nat → Nat) (beD : Nat → Nat → Nat) (sz : Nat) (er : Nat → Int32) (inp : Int32) (otp : Int32) (tc : Int32) (fc : Int32) (on : Nat → Int32) (ze : Nat → Int32) (ou : Nat → Int32) (wd : Nat → Int64) (lo : Nat → Int32) (up : Nat → Int32) (hc : Int32) (sa : Nat → Nat → Nat) (sv : Nat → SS) (ab : Nat → Int32) (tr : Nat → Int32) (rt : Nat → Int32) (kn : Int32) (ct : Int32) (bu : Nat → Int32) (bl : Nat → Int32) (tu : Nat → Int32) (tl : Nat → Int32) (bd : Nat → Int32) (bm : Nat → Int32) (d0 : Nat → Int32) (d1 : Nat → Int32) (d2 : Nat → Int32) (d3 : Nat → Int32) (d4 : Nat → Int32) (d5 : Nat → Int32) {K : Int32 → Int32 → Int32 → (Nat → Int32) → (Nat → Int32) → (Nat → Int32) → (Nat → Int64) → (Nat → Int32) → (Nat → Int32) → Int32 → (Nat → Nat → Nat) → (Nat → SS) → (Nat → Int32) → (Nat → Int32) → (Nat → Int32) → Int32 → Prop} (h : wp_X5_removeRedundant inp otp tc fc on ze ou wd lo up hc sa sv ab tr rt kn K) : CI l yX5_removeRedundant wsX5_removeRedundant rm_X5_removeRedundant G [.ref (ad 0)] (wP G ad sd hd md rd be er ++ (wS G sd inp otp tc fc on ze ou wd lo up ++ (wH G hd hc sa sv ++ (wD G md ab ++ (wR G rd tr rt ++ (wB G be beD kn ct bu bl tu tl bd bm d0 d1 d2 d3 d4 d5)))))) sz (fun u : Int32 × Int32 × (Nat → Int32) × (Nat → Int32) × (Nat → Int32) × (Nat → Int64) × (Nat → Int32) × (Nat → Int32) × Int32 × (Nat → Nat → Nat) × (Nat → SS) × (Nat → Int32) × (Nat → Int32) × (Nat → Int32) × Int32 => wP G ad sd hd md rd be er ++ (wS G sd inp otp u.1 u.2.1 u.2.2.1 u.2.2.2.1 u.2.2.2.2.1 u.2.2.2.2.2.1 u.2.2.2.2.2.2.1 u.2.2.2.2.2.2.2.1 ++ (wH G hd u.2.2.2.2.2.2.2.2.1 u.2.2.2.2.2.2.2.2.2.1 u.2.2.2.2.2.2.2.2.2.2.1 ++ (wD G md u.2.2.2.2.2.2.2.2.2.2.2.1 ++ (wR G rd u.2.2.2.2.2.2.2.2.2.2.2.2.1 u.2.2.2.2.2.2.2.2.2.2.2.2.2.1 ++ (wB G be beD u.2.2.2.2.2.2.2.2.2.2.2.2.2.2 ct bu bl tu tl bd bm d0 d1 d2 d3 d4 d5)))))) (fun r u => K r u.1 u.2.1 u.2.2.1 u.2.2.2.1 u.2.2.2.2.1 u.2.2.2.2.2.1 u.2.2.2.2.2.2.1 u.2.2.2.2.2.2.2.1 u.2.2.2.2.2.2.2.2.1 u.2.2.2.2.2.2.2.2.2.1 u.2.2.2.2.2.2.2.2.2.2.1 u.2.2.2.2.2.2.2.2.2.2.2.1 u.2.2.2.2.2.2.2.2.2.2.2.2.1 u.2.2.2.2.2.2.2.2.2.2.2.2.2.1 u.2.2.2.2.2.2.2.2.2.2.2.2.2.2) := by
  refine Met.ofW (cc := cX5_removeRedundant) (maxL := 3) (ret := (some .int)) (by decide) rfl ?_
  intro p e s m args below meth c s₁ B hml hv
  obtain ⟨rfl, hsz, hP, hK, hD0, hZ⟩ := hv
  have hx := B.exec
  have hb := B.bytes
  have hr := B.returns
  have hts := atoms_spec (ws := wsX5_removeRedundant) B.pre
  have hown : s.vm.findClass RX5 = some m.cls := findClass_of_methodNamed B.named
  have hlocks := B.notSynchronized
  subst hsz
  have hD := hD0.self (sz := s.heap.size)
  generalize hAe : va_A (wP G ad sd hd md rd be er ++ (wS G sd inp otp tc fc on ze ou wd lo up ++ (wH G hd hc sa sv ++ (wD G md ab ++ (wR G rd tr rt ++ (wB G be beD kn ct bu bl tu tl bd bm d0 d1 d2 d3 d4 d5)))))) s.heap.size = A at hD hZ ⊢
  have hA : ∀ q : Nat, s.heap.size ≤ q → A q := fun q h => by rw [← hAe]; exact Or.inr h
  have hS : va_S A s.heap s.heap [] := va_S.rf
  have hl := lv_entry ([.ref (ad 0)]) (n := 3) (Nat.le_of_ble_eq_true rfl)
  rw [lg_entry_eq]
  generalize (lg_sl ([.ref (ad 0)]) ++ List.replicate (3 - (lg_sl ([.ref (ad 0)])).length) Slot.unset).toArray = ls at hl ⊢
  have hl : lv_has ls 3 [(0, .ref (ad 0))] := hl
  unfold wp_X5_removeRedundant at h
  have hinX4 : ∀ w ∈ wsX40, w ∈ wsX5_removeRedundant := by decide +kernel
  have hinX5 : ∀ w ∈ wsX50, w ∈ wsX5_removeRedundant := by decide +kernel
  refine lv_aload_n hx hb dX5_removeRedundant_0 rfl (lv_at hl 0 rfl) ?_
  refine va_get (D := G.1) (ci := 5) (v := .ref (hd 0)) (C := RX5) (T := TX5) (N := 6) hx hb hts hinX5 hown hK.1 hP.l 0 rfl rfl 1 (by decide) (hts (.fieldLink RX5 19 "PlaFolder" "history" "LPlaFolder$History;") (by decide +kernel)) (fun _ h9 => h9) rfl dX5_removeRedundant_1 ?_
  refine lv_aload_n hx hb dX5_removeRedundant_4 rfl (lv_at hl 0 rfl) ?_
  refine va_get (D := G.1) (ci := 5) (v := .ref (sd 0)) (C := RX5) (T := TX5) (N := 6) hx hb hts hinX5 hown hK.1 hP.l 0 rfl rfl 0 (by decide) (hts (.fieldLink RX5 12 "PlaFolder" "state" "LPlaFolder$State;") (by decide +kernel)) (fun _ h9 => h9) rfl dX5_removeRedundant_5 ?_
  refine kp_v (wr := wP G ad sd hd md rd be er ++ (wD G md ab ++ (wR G rd tr rt ++ (wB G be beD kn ct bu bl tu tl bd bm d0 d1 d2 d3 d4 d5)))) (va_runVN (As := [.ref (sd 0)]) (rest := []) ⟨hx, hb, hml, hown, hts⟩ (c_X2_push l G hd sd _ hc sa sv inp otp tc fc on ze ou wd lo up  h) ⟨va_cnB 1 hts gX5_removeRedundant_X2_push_n52 rfl rfl rfl (hK.2.M 7 (q := ("PlaFolder", 52, ⟨"PlaFolder$History", "push", "(LPlaFolder$State;)V"⟩, "PlaFolder")) rfl) (hts (.initialized RX2) (by decide +kernel)) (by decide +kernel) ⟨Nat.le_of_ble_eq_true rfl, Nat.le_of_ble_eq_true rfl⟩, hts (.instanceMethod yX2_push) (by decide +kernel), hts (.selects RX2 yX2_push yX2_push) (by decide +kernel)⟩ (kpVp hK hP hD hZ hS hA (pm6_0345_21 (wP G ad sd hd md rd be er) (wS G sd inp otp tc fc on ze ou wd lo up) (wH G hd hc sa sv) (wD G md ab) (wR G rd tr rt) (wB G be beD kn ct bu bl tu tl bd bm d0 d1 d2 d3 d4 d5)) (q0 := 0) (ci := 2) rfl rfl) rfl rfl hl.1 rfl (lv_room (Nat.le_of_ble_eq_true rfl)) dX5_removeRedundant_8 ⟨Nat.zero_le _, Nat.zero_le _⟩) hP hD hS hA (pm6_0345_21 (wP G ad sd hd md rd be er) (wS G sd inp otp tc fc on ze ou wd lo up) (wH G hd hc sa sv) (wD G md ab) (wR G rd tr rt) (wB G be beD kn ct bu bl tu tl bd bm d0 d1 d2 d3 d4 d5)) (fun w54 H locs h hP hD hS => ?_)
  obtain ⟨u2, u3, u4⟩ := w54
  have hP : va_P G.1 vwCl (wP G ad sd hd md rd be er ++ (wS G sd inp otp tc fc on ze ou wd lo up ++ (wH G hd u2 u3 u4 ++ (wD G md ab ++ (wR G rd tr rt ++ (wB G be beD kn ct bu bl tu tl bd bm d0 d1 d2 d3 d4 d5)))))) H := hP.perm (pm6_0345_21 (wP G ad sd hd md rd be er) (wS G sd inp otp tc fc on ze ou wd lo up) (wH G hd u2 u3 u4) (wD G md ab) (wR G rd tr rt) (wB G be beD kn ct bu bl tu tl bd bm d0 d1 d2 d3 d4 d5)).symm
  have hD : va_D A (wP G ad sd hd md rd be er ++ (wS G sd inp otp tc fc on ze ou wd lo up ++ (wH G hd u2 u3 u4 ++ (wD G md ab ++ (wR G rd tr rt ++ (wB G be beD kn ct bu bl tu tl bd bm d0 d1 d2 d3 d4 d5)))))) := hD.perm (pm6_0345_21 (wP G ad sd hd md rd be er) (wS G sd inp otp tc fc on ze ou wd lo up) (wH G hd u2 u3 u4) (wD G md ab) (wR G rd tr rt) (wB G be beD kn ct bu bl tu tl bd bm d0 d1 d2 d3 d4 d5)).symm
  try dsimp only at h
  refine lv_aload_n hx hb dX5_removeRedundant_11 rfl (lv_at hl 0 rfl) ?_
  refine va_get (D := G.1) (ci := 5) (v := .ref (sd 0)) (C := RX5) (T := TX5) (N := 6) hx hb hts hinX5 hown hK.1 hP.l 0 rfl rfl 0 (by decide) (hts (.fieldLink RX5 12 "PlaFolder" "state" "LPlaFolder$State;") (by decide +kernel)) (fun _ h9 => h9) rfl dX5_removeRedundant_12 ?_
  refine va_getN (D := G.1) (ci := 4) (v := .int tc) (C := RX4) (T := TX4) (N := 10) (host := "PlaFolder") hx hb hts hinX4 hown hK.1 hP.r.l 0 rfl rfl 2 (by decide) (hK.2.F 2 (q := ("PlaFolder", 56, "PlaFolder$State", "termCount", "I", "PlaFolder")) rfl) (fun _ h9 => h9) rfl dX5_removeRedundant_15 ?_
  refine lv_istore_n (lv' := [(1, .int tc), (0, .ref (ad 0))]) hx hb dX5_removeRedundant_18 rfl hl (by decide) rfl (fun ls hl => ?_)
  refine lv_iload_n hx hb dX5_removeRedundant_19 rfl (lv_at hl 0 rfl) ?_
  refine lv_iconst (v := (1 : Int32)) hx hb dX5_removeRedundant_20 (by decide) ?_
  refine lv_isub hx hb dX5_removeRedundant_21 ?_
  refine lv_istore_n (lv' := [(2, .int (tc - (1 : Int32))), (1, .int tc), (0, .ref (ad 0))]) hx hb dX5_removeRedundant_22 rfl hl (by decide) rfl (fun ls hl => ?_)
  obtain ⟨I14, n15, h0, hst16⟩ := h
  refine loopW (σ := Int32 × Int32 × Int32 × (Nat → Int32) × (Nat → Int32) × (Nat → Int32) × (Nat → Int64) × (Nat → Int32) × (Nat → Int32)) (P := fun q H locs ls => va_P G.1 vwCl (wP G ad sd hd md rd be er ++ (wS G sd inp otp q.2.1 q.2.2.1 q.2.2.2.1 q.2.2.2.2.1 q.2.2.2.2.2.1 q.2.2.2.2.2.2.1 q.2.2.2.2.2.2.2.1 q.2.2.2.2.2.2.2.2 ++ (wH G hd u2 u3 u4 ++ (wD G md ab ++ (wR G rd tr rt ++ (wB G be beD kn ct bu bl tu tl bd bm d0 d1 d2 d3 d4 d5)))))) H ∧ va_D A (wP G ad sd hd md rd be er ++ (wS G sd inp otp q.2.1 q.2.2.1 q.2.2.2.1 q.2.2.2.2.1 q.2.2.2.2.2.1 q.2.2.2.2.2.2.1 q.2.2.2.2.2.2.2.1 q.2.2.2.2.2.2.2.2 ++ (wH G hd u2 u3 u4 ++ (wD G md ab ++ (wR G rd tr rt ++ (wB G be beD kn ct bu bl tu tl bd bm d0 d1 d2 d3 d4 d5)))))) ∧ va_S A s.heap H locs ∧ lv_has ls 3 [(0, .ref (ad 0)), (1, .int tc), (2, .int q.1)]) (I := fun n q => I14 n q.1 q.2.1 q.2.2.1 q.2.2.2.1 q.2.2.2.2.1 q.2.2.2.2.2.1 q.2.2.2.2.2.2.1 q.2.2.2.2.2.2.2.1 q.2.2.2.2.2.2.2.2) n15 ((tc - (1 : Int32)), tc, fc, on, ze, ou, wd, lo, up) h0 _ _ _ ⟨hP, hD, hS, lv_sub hl [2, 1, 0] rfl⟩ ?_
  rintro n19 ⟨x5, z6, z7, z8, z9, z10, z11, z12, z13⟩ hI ih18 H locs ls ⟨hP, hD, hS, hl⟩
  have hP : va_P G.1 vwCl (wP G ad sd hd md rd be er ++ (wS G sd inp otp z6 z7 z8 z9 z10 z11 z12 z13 ++ (wH G hd u2 u3 u4 ++ (wD G md ab ++ (wR G rd tr rt ++ (wB G be beD kn ct bu bl tu tl bd bm d0 d1 d2 d3 d4 d5)))))) H := hP
  have hD : va_D A (wP G ad sd hd md rd be er ++ (wS G sd inp otp z6 z7 z8 z9 z10 z11 z12 z13 ++ (wH G hd u2 u3 u4 ++ (wD G md ab ++ (wR G rd tr rt ++ (wB G be beD kn ct bu bl tu tl bd bm d0 d1 d2 d3 d4 d5)))))) := hD
  have hl : lv_has ls 3 [(0, .ref (ad 0)), (1, .int tc), (2, .int x5)] := hl
  have h := hst16 n19 x5 z6 z7 z8 z9 z10 z11 z12 z13 hI
  refine lv_iload_n hx hb dX5_removeRedundant_23 rfl (lv_at hl 2 rfl) ?_
  refine lv_if_lt (tgt := 52) hx hb dX5_removeRedundant_24 (by decide) (fun c_20 => ?_) (fun c_20 => ?_)
  · have h := h.1 c_20
    refine lv_aload_n hx hb dX5_removeRedundant_52 rfl (lv_at hl 0 rfl) ?_
    refine va_get (D := G.1) (ci := 5) (v := .ref (sd 0)) (C := RX5) (T := TX5) (N := 6) hx hb hts hinX5 hown hK.1 hP.l 0 rfl rfl 0 (by decide) (hts (.fieldLink RX5 12 "PlaFolder" "state" "LPlaFolder$State;") (by decide +kernel)) (fun _ h9 => h9) rfl dX5_removeRedundant_53 ?_
    refine va_getN (D := G.1) (ci := 4) (v := .int z6) (C := RX4) (T := TX4) (N := 10) (host := "PlaFolder") hx hb hts hinX4 hown hK.1 hP.r.l 0 rfl rfl 2 (by decide) (hK.2.F 2 (q := ("PlaFolder", 56, "PlaFolder$State", "termCount", "I", "PlaFolder")) rfl) (fun _ h9 => h9) rfl dX5_removeRedundant_56 ?_
    refine lv_iload_n hx hb dX5_removeRedundant_59 rfl (lv_at hl 1 rfl) ?_
    obtain ⟨J26, hJ34, h⟩ := h
    refine joinW (σ := (Nat → Int32) × (Nat → Int32) × (Nat → Int32) × Int32) (J := fun q => J26 q.1 q.2.1 q.2.2.1 q.2.2.2) (pc := 67) (st := fun q => []) (P := fun q H locs ls => va_P G.1 vwCl (wP G ad sd hd md rd be er ++ (wS G sd inp otp z6 z7 z8 z9 z10 z11 z12 z13 ++ (wH G hd u2 u3 u4 ++ (wD G md q.1 ++ (wR G rd q.2.1 q.2.2.1 ++ (wB G be beD q.2.2.2 ct bu bl tu tl bd bm d0 d1 d2 d3 d4 d5)))))) H ∧ va_D A (wP G ad sd hd md rd be er ++ (wS G sd inp otp z6 z7 z8 z9 z10 z11 z12 z13 ++ (wH G hd u2 u3 u4 ++ (wD G md q.1 ++ (wR G rd q.2.1 q.2.2.1 ++ (wB G be beD q.2.2.2 ct bu bl tu tl bd bm d0 d1 d2 d3 d4 d5)))))) ∧ va_S A s.heap H locs ∧ lv_has ls 3 [(0, .ref (ad 0)), (1, .int tc)]) ?_ (fun join27 => ?_)
    · rintro ⟨z22, z23, z24, z25⟩ h H locs ls ⟨hP, hD, hS, hl⟩
      have hP : va_P G.1 vwCl (wP G ad sd hd md rd be er ++ (wS G sd inp otp z6 z7 z8 z9 z10 z11 z12 z13 ++ (wH G hd u2 u3 u4 ++ (wD G md z22 ++ (wR G rd z23 z24 ++ (wB G be beD z25 ct bu bl tu tl bd bm d0 d1 d2 d3 d4 d5)))))) H := hP
      have hD : va_D A (wP G ad sd hd md rd be er ++ (wS G sd inp otp z6 z7 z8 z9 z10 z11 z12 z13 ++ (wH G hd u2 u3 u4 ++ (wD G md z22 ++ (wR G rd z23 z24 ++ (wB G be beD z25 ct bu bl tu tl bd bm d0 d1 d2 d3 d4 d5)))))) := hD
      have hl : lv_has ls 3 [(0, .ref (ad 0)), (1, .int tc)] := hl
      have h := hJ34 z22 z23 z24 z25 h
      refine W.eq (g2 := F0 m 67 ls ([])) rfl ?_
      refine lv_iload_n hx hb dX5_removeRedundant_67 rfl (lv_at hl 1 rfl) ?_
      refine lv_aload_n hx hb dX5_removeRedundant_68 rfl (lv_at hl 0 rfl) ?_
      refine va_get (D := G.1) (ci := 5) (v := .ref (sd 0)) (C := RX5) (T := TX5) (N := 6) hx hb hts hinX5 hown hK.1 hP.l 0 rfl rfl 0 (by decide) (hts (.fieldLink RX5 12 "PlaFolder" "state" "LPlaFolder$State;") (by decide +kernel)) (fun _ h9 => h9) rfl dX5_removeRedundant_69 ?_
      refine va_getN (D := G.1) (ci := 4) (v := .int z6) (C := RX4) (T := TX4) (N := 10) (host := "PlaFolder") hx hb hts hinX4 hown hK.1 hP.r.l 0 rfl rfl 2 (by decide) (hK.2.F 2 (q := ("PlaFolder", 56, "PlaFolder$State", "termCount", "I", "PlaFolder")) rfl) (fun _ h9 => h9) rfl dX5_removeRedundant_72 ?_
      refine lv_isub hx hb dX5_removeRedundant_75 ?_
      exact W.iret hx hb hr (fun t ht hW => ⟨⟨_, (z6, z7, z8, z9, z10, z11, z12, z13, u2, u3, u4, z22, z23, z24, z25), rfl, h, by rw [ht]; exact hP, hD⟩, hS.F ht⟩) hS.2.2 dX5_removeRedundant_76
    · refine lv_icmp_ge (tgt := 67) hx hb dX5_removeRedundant_60 (by decide) (fun c_21 => ?_) (fun c_21 => ?_)
      · have h := h.1 c_21
        exact join27 (ab, tr, rt, kn) h _ _ _ ⟨hP, hD, hS, lv_sub hl [0, 1] rfl⟩
      · have h := h.2 c_21
        refine lv_aload_n hx hb dX5_removeRedundant_63 rfl (lv_at hl 0 rfl) ?_
        refine kp_v (wr := ([] : va_W)) (va_runV (As := []) (rest := []) ⟨hx, hb, hml, hown, hts⟩ (c_X5_termsChanged l G ad sd hd md rd be beD _ er inp otp z6 z7 z8 z9 z10 z11 z12 z13 u2 u3 u4 ab tr rt kn ct bu bl tu tl bd bm d0 d1 d2 d3 d4 d5  h) (cwV 0 hts gX5_removeRedundant_X5_termsChanged rfl rfl rfl (by decide +kernel) ⟨Nat.le_of_ble_eq_true rfl, Nat.le_of_ble_eq_true rfl⟩) (kpVp hK hP hD hZ hS hA (pm_all _) (q0 := 0) (ci := 5) rfl rfl) rfl rfl hl.1 rfl (lv_room (Nat.le_of_ble_eq_true rfl)) dX5_removeRedundant_64 ⟨Nat.zero_le _, Nat.zero_le _⟩) hP hD hS hA (pm_all _) (fun w33 H locs h hP hD hS => ?_)
        obtain ⟨u29, u30, u31, u32⟩ := w33
        have hP : va_P G.1 vwCl (wP G ad sd hd md rd be er ++ (wS G sd inp otp z6 z7 z8 z9 z10 z11 z12 z13 ++ (wH G hd u2 u3 u4 ++ (wD G md u29 ++ (wR G rd u30 u31 ++ (wB G be beD u32 ct bu bl tu tl bd bm d0 d1 d2 d3 d4 d5)))))) H := hP.perm (pm_all _).symm
        have hD : va_D A (wP G ad sd hd md rd be er ++ (wS G sd inp otp z6 z7 z8 z9 z10 z11 z12 z13 ++ (wH G hd u2 u3 u4 ++ (wD G md u29 ++ (wR G rd u30 u31 ++ (wB G be beD u32 ct bu bl tu tl bd bm d0 d1 d2 d3 d4 d5)))))) := hD.perm (pm_all _).symm
        try dsimp only at h
        exact join27 (u29, u30, u31, u32) h _ _ _ ⟨hP, hD, hS, lv_sub hl [0, 1] rfl⟩
  · have h := h.2 c_20
    refine lv_aload_n hx hb dX5_removeRedundant_27 rfl (lv_at hl 0 rfl) ?_
    refine va_get (D := G.1) (ci := 5) (v := .ref (sd 0)) (C := RX5) (T := TX5) (N := 6) hx hb hts hinX5 hown hK.1 hP.l 0 rfl rfl 0 (by decide) (hts (.fieldLink RX5 12 "PlaFolder" "state" "LPlaFolder$State;") (by decide +kernel)) (fun _ h9 => h9) rfl dX5_removeRedundant_28 ?_
    refine lv_iload_n hx hb dX5_removeRedundant_31 rfl (lv_at hl 2 rfl) ?_
    refine kp_i (wr := wP G ad sd hd md rd be er ++ (wH G hd u2 u3 u4 ++ (wD G md ab ++ (wR G rd tr rt ++ (wB G be beD kn ct bu bl tu tl bd bm d0 d1 d2 d3 d4 d5))))) (va_runVN (As := [.int x5]) (rest := []) ⟨hx, hb, hml, hown, hts⟩ (c_X4_isSpare l G sd _ inp otp z6 z7 z8 z9 z10 z11 z12 z13 x5 h) ⟨va_cnB 1 hts gX5_removeRedundant_X4_isSpare_n112 rfl rfl rfl (hK.2.M 22 (q := ("PlaFolder", 112, ⟨"PlaFolder$State", "isSpare", "(I)Z"⟩, "PlaFolder")) rfl) (hts (.initialized RX4) (by decide +kernel)) (by decide +kernel) ⟨Nat.le_of_ble_eq_true rfl, Nat.le_of_ble_eq_true rfl⟩, hts (.instanceMethod yX4_isSpare) (by decide +kernel), hts (.selects RX4 yX4_isSpare yX4_isSpare) (by decide +kernel)⟩ (kpVp hK hP hD hZ hS hA (pm6_02345_1 (wP G ad sd hd md rd be er) (wS G sd inp otp z6 z7 z8 z9 z10 z11 z12 z13) (wH G hd u2 u3 u4) (wD G md ab) (wR G rd tr rt) (wB G be beD kn ct bu bl tu tl bd bm d0 d1 d2 d3 d4 d5)) (q0 := 0) (ci := 4) rfl rfl) rfl rfl hl.1 rfl (lv_room (Nat.le_of_ble_eq_true rfl)) dX5_removeRedundant_32 ⟨Nat.zero_le _, Nat.zero_le _⟩) hP hD hS hA (pm6_02345_1 (wP G ad sd hd md rd be er) (wS G sd inp otp z6 z7 z8 z9 z10 z11 z12 z13) (wH G hd u2 u3 u4) (wD G md ab) (wR G rd tr rt) (wB G be beD kn ct bu bl tu tl bd bm d0 d1 d2 d3 d4 d5)) (fun r35 w53 H locs h hP hD hS => ?_)
    have hP : va_P G.1 vwCl (wP G ad sd hd md rd be er ++ (wS G sd inp otp z6 z7 z8 z9 z10 z11 z12 z13 ++ (wH G hd u2 u3 u4 ++ (wD G md ab ++ (wR G rd tr rt ++ (wB G be beD kn ct bu bl tu tl bd bm d0 d1 d2 d3 d4 d5)))))) H := hP.perm (pm6_02345_1 (wP G ad sd hd md rd be er) (wS G sd inp otp z6 z7 z8 z9 z10 z11 z12 z13) (wH G hd u2 u3 u4) (wD G md ab) (wR G rd tr rt) (wB G be beD kn ct bu bl tu tl bd bm d0 d1 d2 d3 d4 d5)).symm
    have hD : va_D A (wP G ad sd hd md rd be er ++ (wS G sd inp otp z6 z7 z8 z9 z10 z11 z12 z13 ++ (wH G hd u2 u3 u4 ++ (wD G md ab ++ (wR G rd tr rt ++ (wB G be beD kn ct bu bl tu tl bd bm d0 d1 d2 d3 d4 d5)))))) := hD.perm (pm6_02345_1 (wP G ad sd hd md rd be er) (wS G sd inp otp z6 z7 z8 z9 z10 z11 z12 z13) (wH G hd u2 u3 u4) (wD G md ab) (wR G rd tr rt) (wB G be beD kn ct bu bl tu tl bd bm d0 d1 d2 d3 d4 d5)).symm
    try dsimp only at h
    refine lv_if_eq (tgt := 46) hx hb dX5_removeRedundant_35 (by decide) (fun c_36 => ?_) (fun c_36 => ?_)
    · have h := h.1 c_36
      refine lv_iinc (v := (x5 + (-1 : Int32))) (lv' := [(2, .int (x5 + (-1 : Int32))), (0, .ref (ad 0)), (1, .int tc)]) hx hb dX5_removeRedundant_46 hl (k := 2) rfl rfl (by decide) rfl (fun ls hl => ?_)
      refine lv_goto (tgt := 23) hx hb dX5_removeRedundant_49 (by decide) ?_
      obtain ⟨n38, hn37, hI39⟩ := h
      exact ih18 n38 ((x5 + (-1 : Int32)), z6, z7, z8, z9, z10, z11, z12, z13) hn37 hI39 _ _ _ ⟨hP, hD, hS, lv_sub hl [1, 2, 0] rfl⟩
    · have h := h.2 c_36
      refine lv_aload_n hx hb dX5_removeRedundant_38 rfl (lv_at hl 0 rfl) ?_
      refine va_get (D := G.1) (ci := 5) (v := .ref (sd 0)) (C := RX5) (T := TX5) (N := 6) hx hb hts hinX5 hown hK.1 hP.l 0 rfl rfl 0 (by decide) (hts (.fieldLink RX5 12 "PlaFolder" "state" "LPlaFolder$State;") (by decide +kernel)) (fun _ h9 => h9) rfl dX5_removeRedundant_39 ?_
      refine lv_iload_n hx hb dX5_removeRedundant_42 rfl (lv_at hl 2 rfl) ?_
      refine kp_v (wr := wP G ad sd hd md rd be er ++ (wH G hd u2 u3 u4 ++ (wD G md ab ++ (wR G rd tr rt ++ (wB G be beD kn ct bu bl tu tl bd bm d0 d1 d2 d3 d4 d5))))) (va_runVN (As := [.int x5]) (rest := []) ⟨hx, hb, hml, hown, hts⟩ (c_X4_dropTerm l G sd _ inp otp z6 z7 z8 z9 z10 z11 z12 z13 x5 h) ⟨va_cnB 1 hts gX5_removeRedundant_X4_dropTerm_n79 rfl rfl rfl (hK.2.M 19 (q := ("PlaFolder", 79, ⟨"PlaFolder$State", "dropTerm", "(I)V"⟩, "PlaFolder")) rfl) (hts (.initialized RX4) (by decide +kernel)) (by decide +kernel) ⟨Nat.le_of_ble_eq_true rfl, Nat.le_of_ble_eq_true rfl⟩, hts (.instanceMethod yX4_dropTerm) (by decide +kernel), hts (.selects RX4 yX4_dropTerm yX4_dropTerm) (by decide +kernel)⟩ (kpVp hK hP hD hZ hS hA (pm6_02345_1 (wP G ad sd hd md rd be er) (wS G sd inp otp z6 z7 z8 z9 z10 z11 z12 z13) (wH G hd u2 u3 u4) (wD G md ab) (wR G rd tr rt) (wB G be beD kn ct bu bl tu tl bd bm d0 d1 d2 d3 d4 d5)) (q0 := 0) (ci := 4) rfl rfl) rfl rfl hl.1 rfl (lv_room (Nat.le_of_ble_eq_true rfl)) dX5_removeRedundant_43 ⟨Nat.zero_le _, Nat.zero_le _⟩) hP hD hS hA (pm6_02345_1 (wP G ad sd hd md rd be er) (wS G sd inp otp z6 z7 z8 z9 z10 z11 z12 z13) (wH G hd u2 u3 u4) (wD G md ab) (wR G rd tr rt) (wB G be beD kn ct bu bl tu tl bd bm d0 d1 d2 d3 d4 d5)) (fun w52 H locs h hP hD hS => ?_)
      obtain ⟨u41, u42, u43, u44, u45, u46, u47, u48⟩ := w52
      have hP : va_P G.1 vwCl (wP G ad sd hd md rd be er ++ (wS G sd inp otp u41 u42 u43 u44 u45 u46 u47 u48 ++ (wH G hd u2 u3 u4 ++ (wD G md ab ++ (wR G rd tr rt ++ (wB G be beD kn ct bu bl tu tl bd bm d0 d1 d2 d3 d4 d5)))))) H := hP.perm (pm6_02345_1 (wP G ad sd hd md rd be er) (wS G sd inp otp u41 u42 u43 u44 u45 u46 u47 u48) (wH G hd u2 u3 u4) (wD G md ab) (wR G rd tr rt) (wB G be beD kn ct bu bl tu tl bd bm d0 d1 d2 d3 d4 d5)).symm
      have hD : va_D A (wP G ad sd hd md rd be er ++ (wS G sd inp otp u41 u42 u43 u44 u45 u46 u47 u48 ++ (wH G hd u2 u3 u4 ++ (wD G md ab ++ (wR G rd tr rt ++ (wB G be beD kn ct bu bl tu tl bd bm d0 d1 d2 d3 d4 d5)))))) := hD.perm (pm6_02345_1 (wP G ad sd hd md rd be er) (wS G sd inp otp u41 u42 u43 u44 u45 u46 u47 u48) (wH G hd u2 u3 u4) (wD G md ab) (wR G rd tr rt) (wB G be beD kn ct bu bl tu tl bd bm d0 d1 d2 d3 d4 d5)).symm
      try dsimp only at h
      refine lv_iinc (v := (x5 + (-1 : Int32))) (lv' := [(2, .int (x5 + (-1 : Int32))), (0, .ref (ad 0)), (1, .int tc)]) hx hb dX5_removeRedundant_46 hl (k := 2) rfl rfl (by decide) rfl (fun ls hl => ?_)
      refine lv_goto (tgt := 23) hx hb dX5_removeRedundant_49 (by decide) ?_
      obtain ⟨n50, hn49, hI51⟩ := h
      exact ih18 n50 ((x5 + (-1 : Int32)), u41, u42, u43, u44, u45, u46, u47, u48) hn49 hI51 _ _ _ ⟨hP, hD, hS, lv_sub hl [1, 2, 0] rfl⟩
