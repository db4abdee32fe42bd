def wp_X0_foldableColumns (bd : Nat → Int32) (bm : Nat → Int32) (inp : Int32) (otp : Int32) (tc : Int32) (on : Nat → Int32) (ze : Nat → Int32) (ou : Nat → Int32) (K : Int32 → (Nat → Int32) → (Nat → Int32) → Prop) : Prop :=
 (Lp4 (0 : Int32) (0 : Int32) bd bm (fun (x1 : Int32) (x2 : Int32) (z3 : Nat → Int32) (z4 : Nat → Int32) (J8 : Int32 → Int32 → (Nat → Int32) → (Nat → Int32) → Prop) => (((nI 10) ≤ x2 → K x1 z3 z4) ∧
 (¬ ((nI 10) ≤ x2) → wp_X4_termsOfColumn x2 tc on ze ou (fun (r12 : Int32) => (vp_in x2 10 ∧ wp_X0_matesOf x2 inp otp tc on ze ou (fun (r14 : Int32) => (vp_in x2 10 ∧ (vp_in x2 10 ∧ ((((upd z4 x2.toNatClampNeg r14) x2.toNatClampNeg) = 0 → J8 x1 (x2 + (1 : Int32)) (upd z3 x2.toNatClampNeg r12) (upd z4 x2.toNatClampNeg r14)) ∧
 (¬ (((upd z4 x2.toNatClampNeg r14) x2.toNatClampNeg) = 0) → J8 (x1 ||| (jshl (1 : Int32) x2)) (x2 + (1 : Int32)) (upd z3 x2.toNatClampNeg r12) (upd z4 x2.toNatClampNeg r14))))))))))))
abbrev rm_X0_foldableColumns : Room := { frames := 4, cells := 0, slots := 0, locals := 91 }
set_option maxHeartbeats 4000000 in
set_option maxRecDepth 100000 in
theorem c_X0_foldableColumns (l : Launch) (G : GG) (be : Nat → Nat) (beD : Nat → Nat → Nat) (sd : Nat → Nat) (sz : Nat) (kn : Int32) (ct : Int32) (bu : Nat → Int32) (bl : Nat → Int32) (tu : Nat → Int32) (tl : Nat → Int32) (bd : Nat → Int32) (bm : Nat → Int32) (d0 : Nat → Int32) (d1 : Nat → Int32) (d2 : Nat → Int32) (d3 : Nat → Int32) (d4 : Nat → Int32) (d5 : Nat → Int32) (inp : Int32) (otp : Int32) (tc : Int32) (fc : Int32) (on : Nat → Int32) (ze : Nat → Int32) (ou : Nat → Int32) (wd : Nat → Int64) (lo : Nat → Int32) (up : Nat → Int32) {K : Int32 → (Nat → Int32) → (Nat → Int32) → Prop} (h : wp_X0_foldableColumns bd bm inp otp tc on ze ou K) : CI l yX0_foldableColumns wsX0_foldableColumns rm_X0_foldableColumns G [.ref (be 0), .ref (sd 0)] (wB G be beD kn ct bu bl tu tl bd bm d0 d1 d2 d3 d4 d5 ++ (wS G sd inp otp tc fc on ze ou wd lo up)) sz (fun u : (Nat → Int32) × (Nat → Int32) => wB G be beD kn ct bu bl tu tl u.1 u.2 d0 d1 d2 d3 d4 d5 ++ (wS G sd inp otp tc fc on ze ou wd lo up)) (fun r u => K r u.1 u.2) := by
  refine Met.ofW (cc := cX0_foldableColumns) (maxL := 4) (ret := (some .int)) (by decide) rfl ?_
  intro p e s m args below meth c s₁ B hml hv
  obtain ⟨rfl, hsz, hP, hK, hD0, hZ⟩ := hv
  have hx := B.exec
  have hb := B.bytes
  have hr := B.returns
  have hts := atoms_spec (ws := wsX0_foldableColumns) B.pre
  have hown : s.vm.findClass RX0 = some m.cls := findClass_of_methodNamed B.named
  have hlocks := B.notSynchronized
  subst hsz
  have hD := hD0.self (sz := s.heap.size)
  generalize hAe : va_A (wB G be beD kn ct bu bl tu tl bd bm d0 d1 d2 d3 d4 d5 ++ (wS G sd inp otp tc fc on ze ou wd lo up)) s.heap.size = A at hD hZ ⊢
  have hA : ∀ q : Nat, s.heap.size ≤ q → A q := fun q h => by rw [← hAe]; exact Or.inr h
  have hS : va_S A s.heap s.heap [] := va_S.rf
  have hl := lv_entry ([.ref (be 0), .ref (sd 0)]) (n := 4) (Nat.le_of_ble_eq_true rfl)
  rw [lg_entry_eq]
  generalize (lg_sl ([.ref (be 0), .ref (sd 0)]) ++ List.replicate (4 - (lg_sl ([.ref (be 0), .ref (sd 0)])).length) Slot.unset).toArray = ls at hl ⊢
  have hl : lv_has ls 4 [(0, .ref (be 0)), (1, .ref (sd 0))] := hl
  unfold wp_X0_foldableColumns at h
  have hinX0 : ∀ w ∈ wsX00, w ∈ wsX0_foldableColumns := by decide +kernel
  refine lv_iconst (v := (0 : Int32)) hx hb dX0_foldableColumns_0 (by decide) ?_
  refine lv_istore_n (lv' := [(2, .int (0 : Int32)), (0, .ref (be 0)), (1, .ref (sd 0))]) hx hb dX0_foldableColumns_1 rfl hl (by decide) rfl (fun ls hl => ?_)
  refine lv_iconst (v := (0 : Int32)) hx hb dX0_foldableColumns_2 (by decide) ?_
  refine lv_istore_n (lv' := [(3, .int (0 : Int32)), (2, .int (0 : Int32)), (0, .ref (be 0)), (1, .ref (sd 0))]) hx hb dX0_foldableColumns_3 rfl hl (by decide) rfl (fun ls hl => ?_)
  obtain ⟨I5, n6, h0, hst7⟩ := h
  refine loopW (σ := Int32 × Int32 × (Nat → Int32) × (Nat → Int32)) (P := fun q H locs ls => va_P G.1 vwCl (wB G be beD kn ct bu bl tu tl q.2.2.1 q.2.2.2 d0 d1 d2 d3 d4 d5 ++ (wS G sd inp otp tc fc on ze ou wd lo up)) H ∧ va_D A (wB G be beD kn ct bu bl tu tl q.2.2.1 q.2.2.2 d0 d1 d2 d3 d4 d5 ++ (wS G sd inp otp tc fc on ze ou wd lo up)) ∧ va_S A s.heap H locs ∧ lv_has ls 4 [(0, .ref (be 0)), (1, .ref (sd 0)), (2, .int q.1), (3, .int q.2.1)]) (I := fun n q => I5 n q.1 q.2.1 q.2.2.1 q.2.2.2) n6 ((0 : Int32), (0 : Int32), bd, bm) h0 _ _ _ ⟨hP, hD, hS, lv_sub hl [2, 3, 1, 0] rfl⟩ ?_
  rintro n10 ⟨x1, x2, z3, z4⟩ hI ih9 H locs ls ⟨hP, hD, hS, hl⟩
  have hP : va_P G.1 vwCl (wB G be beD kn ct bu bl tu tl z3 z4 d0 d1 d2 d3 d4 d5 ++ (wS G sd inp otp tc fc on ze ou wd lo up)) H := hP
  have hD : va_D A (wB G be beD kn ct bu bl tu tl z3 z4 d0 d1 d2 d3 d4 d5 ++ (wS G sd inp otp tc fc on ze ou wd lo up)) := hD
  have hl : lv_has ls 4 [(0, .ref (be 0)), (1, .ref (sd 0)), (2, .int x1), (3, .int x2)] := hl
  have h := hst7 n10 x1 x2 z3 z4 hI
  refine lv_iload_n hx hb dX0_foldableColumns_4 rfl (lv_at hl 3 rfl) ?_
  refine lv_bipush (v := (nI 10)) hx hb dX0_foldableColumns_5 (by decide) ?_
  refine lv_icmp_ge (tgt := 53) hx hb dX0_foldableColumns_7 (by decide) (fun c_11 => ?_) (fun c_11 => ?_)
  · have h := h.1 c_11
    refine lv_iload_n hx hb dX0_foldableColumns_53 rfl (lv_at hl 2 rfl) ?_
    exact W.iret hx hb hr (fun t ht hW => ⟨⟨_, (z3, z4), rfl, h, by rw [ht]; exact hP, hD⟩, hS.F ht⟩) hS.2.2 dX0_foldableColumns_54
  · have h := h.2 c_11
    refine lv_aload_n hx hb dX0_foldableColumns_10 rfl (lv_at hl 0 rfl) ?_
    refine va_get (D := G.1) (ci := 0) (v := .ref (be 5)) (C := RX0) (T := TX0) (N := 9) hx hb hts hinX0 hown hK.1 hP.l 0 rfl rfl 6 (by decide) (hts (.fieldLink RX0 32 "PlaFolder$BestFolding" "used" "[I") (by decide +kernel)) (fun _ h9 => h9) rfl dX0_foldableColumns_11 ?_
    refine lv_iload_n hx hb dX0_foldableColumns_14 rfl (lv_at hl 3 rfl) ?_
    refine lv_aload_n hx hb dX0_foldableColumns_15 rfl (lv_at hl 1 rfl) ?_
    refine lv_iload_n hx hb dX0_foldableColumns_16 rfl (lv_at hl 3 rfl) ?_
    refine kp_i (wr := wB G be beD kn ct bu bl tu tl z3 z4 d0 d1 d2 d3 d4 d5) (va_runVN (As := [.int x2]) (rest := [.int x2, .ref (be 5)]) ⟨hx, hb, hml, hown, hts⟩ (c_X4_termsOfColumn l G sd _ inp otp tc fc on ze ou wd lo up x2 h) ⟨va_cnB 1 hts gX0_foldableColumns_X4_termsOfColumn_n53 rfl rfl rfl (hK.2.M 32 (q := ("PlaFolder$BestFolding", 53, ⟨"PlaFolder$State", "termsOfColumn", "(I)I"⟩, "PlaFolder")) rfl) (hts (.initialized RX4) (by decide +kernel)) (by decide +kernel) ⟨Nat.le_of_ble_eq_true rfl, Nat.le_of_ble_eq_true rfl⟩, hts (.instanceMethod yX4_termsOfColumn) (by decide +kernel), hts (.selects RX4 yX4_termsOfColumn yX4_termsOfColumn) (by decide +kernel)⟩ (kpVp hK hP hD hZ hS hA (pm2_0_1 (wB G be beD kn ct bu bl tu tl z3 z4 d0 d1 d2 d3 d4 d5) (wS G sd inp otp tc fc on ze ou wd lo up)) (q0 := 0) (ci := 4) rfl rfl) rfl rfl hl.1 rfl (lv_room (Nat.le_of_ble_eq_true rfl)) dX0_foldableColumns_17 ⟨Nat.zero_le _, Nat.zero_le _⟩) hP hD hS hA (pm2_0_1 (wB G be beD kn ct bu bl tu tl z3 z4 d0 d1 d2 d3 d4 d5) (wS G sd inp otp tc fc on ze ou wd lo up)) (fun r12 w25 H locs h hP hD hS => ?_)
    have hP : va_P G.1 vwCl (wB G be beD kn ct bu bl tu tl z3 z4 d0 d1 d2 d3 d4 d5 ++ (wS G sd inp otp tc fc on ze ou wd lo up)) H := hP.perm (pm2_0_1 (wB G be beD kn ct bu bl tu tl z3 z4 d0 d1 d2 d3 d4 d5) (wS G sd inp otp tc fc on ze ou wd lo up)).symm
    have hD : va_D A (wB G be beD kn ct bu bl tu tl z3 z4 d0 d1 d2 d3 d4 d5 ++ (wS G sd inp otp tc fc on ze ou wd lo up)) := hD.perm (pm2_0_1 (wB G be beD kn ct bu bl tu tl z3 z4 d0 d1 d2 d3 d4 d5) (wS G sd inp otp tc fc on ze ou wd lo up)).symm
    try dsimp only at h
    obtain ⟨hi13, h⟩ := h
    refine x_iast hx hb hK hP hD hS 5 rfl hi13 rfl dX0_foldableColumns_20 (fun H locs hP hD hS => ?_)
    have hP : va_P G.1 vwCl (wB G be beD kn ct bu bl tu tl (upd z3 x2.toNatClampNeg r12) z4 d0 d1 d2 d3 d4 d5 ++ (wS G sd inp otp tc fc on ze ou wd lo up)) H := hP
    have hD : va_D A (wB G be beD kn ct bu bl tu tl (upd z3 x2.toNatClampNeg r12) z4 d0 d1 d2 d3 d4 d5 ++ (wS G sd inp otp tc fc on ze ou wd lo up)) := hD
    refine lv_aload_n hx hb dX0_foldableColumns_21 rfl (lv_at hl 0 rfl) ?_
    refine va_get (D := G.1) (ci := 0) (v := .ref (be 6)) (C := RX0) (T := TX0) (N := 9) hx hb hts hinX0 hown hK.1 hP.l 0 rfl rfl 7 (by decide) (hts (.fieldLink RX0 35 "PlaFolder$BestFolding" "mates" "[I") (by decide +kernel)) (fun _ h9 => h9) rfl dX0_foldableColumns_22 ?_
    refine lv_iload_n hx hb dX0_foldableColumns_25 rfl (lv_at hl 3 rfl) ?_
    refine lv_aload_n hx hb dX0_foldableColumns_26 rfl (lv_at hl 1 rfl) ?_
    refine lv_iload_n hx hb dX0_foldableColumns_27 rfl (lv_at hl 3 rfl) ?_
    refine kp_i (wr := wB G be beD kn ct bu bl tu tl (upd z3 x2.toNatClampNeg r12) z4 d0 d1 d2 d3 d4 d5) (va_runS (As := [.ref (sd 0), .int x2]) (rest := [.int x2, .ref (be 6)]) ⟨hx, hb, hml, hown, hts⟩ (c_X0_matesOf l G sd _ inp otp tc fc on ze ou wd lo up x2 h) (va_cwS 2 hts gX0_foldableColumns_X0_matesOf rfl rfl rfl (by decide +kernel) ⟨Nat.le_of_ble_eq_true rfl, Nat.le_of_ble_eq_true rfl⟩) (kpSp hK hP hD hZ hS hA (pm2_0_1 (wB G be beD kn ct bu bl tu tl (upd z3 x2.toNatClampNeg r12) z4 d0 d1 d2 d3 d4 d5) (wS G sd inp otp tc fc on ze ou wd lo up))) rfl rfl hl.1 rfl (lv_room (Nat.le_of_ble_eq_true rfl)) dX0_foldableColumns_28 ⟨Nat.zero_le _, Nat.zero_le _⟩) hP hD hS hA (pm2_0_1 (wB G be beD kn ct bu bl tu tl (upd z3 x2.toNatClampNeg r12) z4 d0 d1 d2 d3 d4 d5) (wS G sd inp otp tc fc on ze ou wd lo up)) (fun r14 w24 H locs h hP hD hS => ?_)
    have hP : va_P G.1 vwCl (wB G be beD kn ct bu bl tu tl (upd z3 x2.toNatClampNeg r12) z4 d0 d1 d2 d3 d4 d5 ++ (wS G sd inp otp tc fc on ze ou wd lo up)) H := hP.perm (pm2_0_1 (wB G be beD kn ct bu bl tu tl (upd z3 x2.toNatClampNeg r12) z4 d0 d1 d2 d3 d4 d5) (wS G sd inp otp tc fc on ze ou wd lo up)).symm
    have hD : va_D A (wB G be beD kn ct bu bl tu tl (upd z3 x2.toNatClampNeg r12) z4 d0 d1 d2 d3 d4 d5 ++ (wS G sd inp otp tc fc on ze ou wd lo up)) := hD.perm (pm2_0_1 (wB G be beD kn ct bu bl tu tl (upd z3 x2.toNatClampNeg r12) z4 d0 d1 d2 d3 d4 d5) (wS G sd inp otp tc fc on ze ou wd lo up)).symm
    try dsimp only at h
    obtain ⟨hi15, h⟩ := h
    refine x_iast hx hb hK hP hD hS 6 rfl hi15 rfl dX0_foldableColumns_31 (fun H locs hP hD hS => ?_)
    have hP : va_P G.1 vwCl (wB G be beD kn ct bu bl tu tl (upd z3 x2.toNatClampNeg r12) (upd z4 x2.toNatClampNeg r14) d0 d1 d2 d3 d4 d5 ++ (wS G sd inp otp tc fc on ze ou wd lo up)) H := hP
    have hD : va_D A (wB G be beD kn ct bu bl tu tl (upd z3 x2.toNatClampNeg r12) (upd z4 x2.toNatClampNeg r14) d0 d1 d2 d3 d4 d5 ++ (wS G sd inp otp tc fc on ze ou wd lo up)) := hD
    refine lv_aload_n hx hb dX0_foldableColumns_32 rfl (lv_at hl 0 rfl) ?_
    refine va_get (D := G.1) (ci := 0) (v := .ref (be 6)) (C := RX0) (T := TX0) (N := 9) hx hb hts hinX0 hown hK.1 hP.l 0 rfl rfl 7 (by decide) (hts (.fieldLink RX0 35 "PlaFolder$BestFolding" "mates" "[I") (by decide +kernel)) (fun _ h9 => h9) rfl dX0_foldableColumns_33 ?_
    refine lv_iload_n hx hb dX0_foldableColumns_36 rfl (lv_at hl 3 rfl) ?_
    obtain ⟨hi16, h⟩ := h
    refine x_iald hx hb hK hP.l 6 rfl hi16 rfl dX0_foldableColumns_37 ?_
    refine lv_if_eq (tgt := 47) hx hb dX0_foldableColumns_38 (by decide) (fun c_17 => ?_) (fun c_17 => ?_)
    · have h := h.1 c_17
      refine lv_iinc (v := (x2 + (1 : Int32))) (lv' := [(3, .int (x2 + (1 : Int32))), (0, .ref (be 0)), (1, .ref (sd 0)), (2, .int x1)]) hx hb dX0_foldableColumns_47 hl (k := 3) rfl rfl (by decide) rfl (fun ls hl => ?_)
      refine lv_goto (tgt := 4) hx hb dX0_foldableColumns_50 (by decide) ?_
      obtain ⟨n19, hn18, hI20⟩ := h
      exact ih9 n19 (x1, (x2 + (1 : Int32)), (upd z3 x2.toNatClampNeg r12), (upd z4 x2.toNatClampNeg r14)) hn18 hI20 _ _ _ ⟨hP, hD, hS, lv_sub hl [1, 2, 3, 0] rfl⟩
    · have h := h.2 c_17
      refine lv_iload_n hx hb dX0_foldableColumns_41 rfl (lv_at hl 2 rfl) ?_
      refine lv_iconst (v := (1 : Int32)) hx hb dX0_foldableColumns_42 (by decide) ?_
      refine lv_iload_n hx hb dX0_foldableColumns_43 rfl (lv_at hl 3 rfl) ?_
      refine lv_ishl hx hb dX0_foldableColumns_44 ?_
      refine lv_ior hx hb dX0_foldableColumns_45 ?_
      refine lv_istore_n (lv' := [(2, .int (x1 ||| (jshl (1 : Int32) x2))), (0, .ref (be 0)), (1, .ref (sd 0)), (3, .int x2)]) hx hb dX0_foldableColumns_46 rfl hl (by decide) rfl (fun ls hl => ?_)
      refine lv_iinc (v := (x2 + (1 : Int32))) (lv' := [(3, .int (x2 + (1 : Int32))), (2, .int (x1 ||| (jshl (1 : Int32) x2))), (0, .ref (be 0)), (1, .ref (sd 0))]) hx hb dX0_foldableColumns_47 hl (k := 3) rfl rfl (by decide) rfl (fun ls hl => ?_)
      refine lv_goto (tgt := 4) hx hb dX0_foldableColumns_50 (by decide) ?_
      obtain ⟨n22, hn21, hI23⟩ := h
      exact ih9 n22 ((x1 ||| (jshl (1 : Int32) x2)), (x2 + (1 : Int32)), (upd z3 x2.toNatClampNeg r12), (upd z4 x2.toNatClampNeg r14)) hn21 hI23 _ _ _ ⟨hP, hD, hS, lv_sub hl [2, 3, 1, 0] rfl⟩
def wp_X0_keep_0 (ct : Int32) (bu : Nat → Int32) (bl : Nat → Int32) (tu : Nat → Int32) (tl : Nat → Int32) (K : Int32 → (Nat → Int32) → (Nat → Int32) → Prop) : Prop :=
 K (0 : Int32) (va_cpy tu bu 0 0 0) (va_cpy tl bl 0 0 0)
abbrev rm_X0_keep_0 : Room := { frames := 1, cells := 0, slots := 0, locals := 60 }
set_option maxHeartbeats 4000000 in
set_option maxRecDepth 100000 in
theorem c_X0_keep_0 (l : Launch) (G : GG) (be : Nat → Nat) (beD : Nat → Nat → Nat) (sz : Nat) (kn : Int32) (ct : Int32) (bu : Nat → Int32) (bl : Nat → Int32) (tu : Nat → Int32) (tl : Nat → Int32) (bd : Nat → Int32) (bm : Nat → Int32) (d0 : Nat → Int32) (d1 : Nat → Int32) (d2 : Nat → Int32) (d3 : Nat → Int32) (d4 : Nat → Int32) (d5 : Nat → Int32) {K : Int32 → (Nat → Int32) → (Nat → Int32) → Prop} (h : wp_X0_keep_0 ct bu bl tu tl K) : CV l yX0_keep wsX0_keep rm_X0_keep_0 G [.ref (be 0), .int (0 : Int32)] (wB G be beD kn ct bu bl tu tl bd bm d0 d1 d2 d3 d4 d5) sz (fun u : Int32 × (Nat → Int32) × (Nat → Int32) => wB G be beD kn u.1 u.2.1 u.2.2 tu tl bd bm d0 d1 d2 d3 d4 d5) (fun u => K u.1 u.2.1 u.2.2) := by
  refine Met.ofW (cc := cX0_keep) (maxL := 2) (ret := none) (by decide) rfl ?_
  intro p e s m args below meth c s₁ B hml hv
  obtain ⟨rfl, hsz, hP, hK, hD0, hZ⟩ := hv
  have hx := B.exec
  have hb := B.bytes
  have hr := B.returns
  have hts := atoms_spec (ws := wsX0_keep) B.pre
  have hown : s.vm.findClass RX0 = some m.cls := findClass_of_methodNamed B.named
  have hlocks := B.notSynchronized
  subst hsz
  have hD := hD0.self (sz := s.heap.size)
  generalize hAe : va_A (wB G be beD kn ct bu bl tu tl bd bm d0 d1 d2 d3 d4 d5) s.heap.size = A at hD hZ ⊢
  have hA : ∀ q : Nat, s.heap.size ≤ q → A q := fun q h => by rw [← hAe]; exact Or.inr h
  have hS : va_S A s.heap s.heap [] := va_S.rf
  have hl := lv_entry ([.ref (be 0), .int (0 : Int32)]) (n := 2) (Nat.le_of_ble_eq_true rfl)
  rw [lg_entry_eq]
  generalize (lg_sl ([.ref (be 0), .int (0 : Int32)]) ++ List.replicate (2 - (lg_sl ([.ref (be 0), .int (0 : Int32)])).length) Slot.unset).toArray = ls at hl ⊢
  have hl : lv_has ls 2 [(0, .ref (be 0)), (1, .int (0 : Int32))] := hl
  unfold wp_X0_keep_0 at h
  have hinX0 : ∀ w ∈ wsX00, w ∈ wsX0_keep := by decide +kernel
  refine lv_aload_n hx hb dX0_keep_0 rfl (lv_at hl 0 rfl) ?_
  refine lv_iload_n hx hb dX0_keep_1 rfl (lv_at hl 1 rfl) ?_
  refine va_put (D := G.1) (ci := 0) (v := .int (0 : Int32)) (ty := .int) (C := RX0) (T := TX0) (N := 9) hx hb hts hinX0 tyX0 tyX0_ok nmX0 hown hK.1 hP hD hS 0 rfl rfl 1 (by decide) (hts (.fieldLink RX0 15 "PlaFolder$BestFolding" "count" "I") (by decide +kernel)) (fun _ h9 => h9) rfl (by decide +kernel) rfl rfl (Nat.le_of_ble_eq_true rfl) dX0_keep_2 (fun H locs hP hD hS => ?_)
  have hP : va_P G.1 vwCl (wB G be beD kn (0 : Int32) bu bl tu tl bd bm d0 d1 d2 d3 d4 d5) H := hP
  have hD : va_D A (wB G be beD kn (0 : Int32) bu bl tu tl bd bm d0 d1 d2 d3 d4 d5) := hD
  refine lv_aload_n hx hb dX0_keep_5 rfl (lv_at hl 0 rfl) ?_
  refine va_get (D := G.1) (ci := 0) (v := .ref (be 3)) (C := RX0) (T := TX0) (N := 9) hx hb hts hinX0 hown hK.1 hP 0 rfl rfl 4 (by decide) (hts (.fieldLink RX0 26 "PlaFolder$BestFolding" "triedUpper" "[I") (by decide +kernel)) (fun _ h9 => h9) rfl dX0_keep_6 ?_
  refine lv_iconst (v := (0 : Int32)) hx hb dX0_keep_9 (by decide) ?_
  refine lv_aload_n hx hb dX0_keep_10 rfl (lv_at hl 0 rfl) ?_
  refine va_get (D := G.1) (ci := 0) (v := .ref (be 1)) (C := RX0) (T := TX0) (N := 9) hx hb hts hinX0 hown hK.1 hP 0 rfl rfl 2 (by decide) (hts (.fieldLink RX0 19 "PlaFolder$BestFolding" "upper" "[I") (by decide +kernel)) (fun _ h9 => h9) rfl dX0_keep_11 ?_
  refine lv_iconst (v := (0 : Int32)) hx hb dX0_keep_14 (by decide) ?_
  refine lv_iload_n hx hb dX0_keep_15 rfl (lv_at hl 1 rfl) ?_
  refine va_copyi hx hb (by rw [hml]; exact hl.1.symm) hown (hts (.methodLink RX0 96 arraycopyName) (by decide +kernel)) (hts (.native arraycopyName) (by decide +kernel)) (hts (.static arraycopyName) (by decide +kernel)) (hts (.initialized "java/lang/System") (by decide +kernel)) hK.1 hP hD hS 3 1 0 0 rfl rfl rfl rfl rfl (by decide) (by decide) (by decide) (by decide) (by decide) (fun _ _ => rfl) (Nat.le_of_ble_eq_true rfl) (Nat.le_of_ble_eq_true rfl) dX0_keep_16 (fun H locs hP hD hS => ?_)
  have hP : va_P G.1 vwCl (wB G be beD kn (0 : Int32) (va_cpy tu bu 0 0 0) bl tu tl bd bm d0 d1 d2 d3 d4 d5) H := hP
  have hD : va_D A (wB G be beD kn (0 : Int32) (va_cpy tu bu 0 0 0) bl tu tl bd bm d0 d1 d2 d3 d4 d5) := hD
  refine lv_aload_n hx hb dX0_keep_19 rfl (lv_at hl 0 rfl) ?_
  refine va_get (D := G.1) (ci := 0) (v := .ref (be 4)) (C := RX0) (T := TX0) (N := 9) hx hb hts hinX0 hown hK.1 hP 0 rfl rfl 5 (by decide) (hts (.fieldLink RX0 29 "PlaFolder$BestFolding" "triedLower" "[I") (by decide +kernel)) (fun _ h9 => h9) rfl dX0_keep_20 ?_
  refine lv_iconst (v := (0 : Int32)) hx hb dX0_keep_23 (by decide) ?_
  refine lv_aload_n hx hb dX0_keep_24 rfl (lv_at hl 0 rfl) ?_
  refine va_get (D := G.1) (ci := 0) (v := .ref (be 2)) (C := RX0) (T := TX0) (N := 9) hx hb hts hinX0 hown hK.1 hP 0 rfl rfl 3 (by decide) (hts (.fieldLink RX0 23 "PlaFolder$BestFolding" "lower" "[I") (by decide +kernel)) (fun _ h9 => h9) rfl dX0_keep_25 ?_
  refine lv_iconst (v := (0 : Int32)) hx hb dX0_keep_28 (by decide) ?_
  refine lv_iload_n hx hb dX0_keep_29 rfl (lv_at hl 1 rfl) ?_
  refine va_copyi hx hb (by rw [hml]; exact hl.1.symm) hown (hts (.methodLink RX0 96 arraycopyName) (by decide +kernel)) (hts (.native arraycopyName) (by decide +kernel)) (hts (.static arraycopyName) (by decide +kernel)) (hts (.initialized "java/lang/System") (by decide +kernel)) hK.1 hP hD hS 4 2 0 0 rfl rfl rfl rfl rfl (by decide) (by decide) (by decide) (by decide) (by decide) (fun _ _ => rfl) (Nat.le_of_ble_eq_true rfl) (Nat.le_of_ble_eq_true rfl) dX0_keep_30 (fun H locs hP hD hS => ?_)
  have hP : va_P G.1 vwCl (wB G be beD kn (0 : Int32) (va_cpy tu bu 0 0 0) (va_cpy tl bl 0 0 0) tu tl bd bm d0 d1 d2 d3 d4 d5) H := hP
  have hD : va_D A (wB G be beD kn (0 : Int32) (va_cpy tu bu 0 0 0) (va_cpy tl bl 0 0 0) tu tl bd bm d0 d1 d2 d3 d4 d5) := hD
  exact W.vret hx hb hr (fun t ht hW => ⟨⟨((0 : Int32), (va_cpy tu bu 0 0 0), (va_cpy tl bl 0 0 0)), rfl, h, by rw [ht]; exact hP, hD⟩, hS.F ht⟩) hS.2.2 dX0_keep_33
def wp_X0_keep_1 (ct : Int32) (bu : Nat → Int32) (bl : Nat → Int32) (tu : Nat → Int32) (tl : Nat → Int32) (K : Int32 → (Nat → Int32) → (Nat → Int32) → Prop) : Prop :=
 K (1 : Int32) (va_cpy tu bu 0 0 1) (va_cpy tl bl 0 0 1)
abbrev rm_X0_keep_1 : Room := { frames := 1, cells := 0, slots := 0, locals := 60 }
set_option maxHeartbeats 4000000 in
set_option maxRecDepth 100000 in
theorem c_X0_keep_1 (l : Launch) (G : GG) (be : Nat → Nat) (beD : Nat → Nat → Nat) (sz : Nat) (kn : Int32) (ct : Int32) (bu : Nat → Int32) (bl : Nat → Int32) (tu : Nat → Int32) (tl : Nat → Int32) (bd : Nat → Int32) (bm : Nat → Int32) (d0 : Nat → Int32) (d1 : Nat → Int32) (d2 : Nat → Int32) (d3 : Nat → Int32) (d4 : Nat → Int32) (d5 : Nat → Int32) {K : Int32 → (Nat → Int32) → (Nat → Int32) → Prop} (h : wp_X0_keep_1 ct bu bl tu tl K) : CV l yX0_keep wsX0_keep rm_X0_keep_1 G [.ref (be 0), .int (1 : Int32)] (wB G be beD kn ct bu bl tu tl bd bm d0 d1 d2 d3 d4 d5) sz (fun u : Int32 × (Nat → Int32) × (Nat → Int32) => wB G be beD kn u.1 u.2.1 u.2.2 tu tl bd bm d0 d1 d2 d3 d4 d5) (fun u => K u.1 u.2.1 u.2.2) := by
  refine Met.ofW (cc := cX0_keep) (maxL := 2) (ret := none) (by decide) rfl ?_
  intro p e s m args below meth c s₁ B hml hv
  obtain ⟨rfl, hsz, hP, hK, hD0, hZ⟩ := hv
  have hx := B.exec
  have hb := B.bytes
  have hr := B.returns
  have hts := atoms_spec (ws := wsX0_keep) B.pre
  have hown : s.vm.findClass RX0 = some m.cls := findClass_of_methodNamed B.named
  have hlocks := B.notSynchronized
  subst hsz
  have hD := hD0.self (sz := s.heap.size)
  generalize hAe : va_A (wB G be beD kn ct bu bl tu tl bd bm d0 d1 d2 d3 d4 d5) s.heap.size = A at hD hZ ⊢
  have hA : ∀ q : Nat, s.heap.size ≤ q → A q := fun q h => by rw [← hAe]; exact Or.inr h
  have hS : va_S A s.heap s.heap [] := va_S.rf
  have hl := lv_entry ([.ref (be 0), .int (1 : Int32)]) (n := 2) (Nat.le_of_ble_eq_true rfl)
  rw [lg_entry_eq]
  generalize (lg_sl ([.ref (be 0), .int (1 : Int32)]) ++ List.replicate (2 - (lg_sl ([.ref (be 0), .int (1 : Int32)])).length) Slot.unset).toArray = ls at hl ⊢
  have hl : lv_has ls 2 [(0, .ref (be 0)), (1, .int (1 : Int32))] := hl
  unfold wp_X0_keep_1 at h
  have hinX0 : ∀ w ∈ wsX00, w ∈ wsX0_keep := by decide +kernel
  refine lv_aload_n hx hb dX0_keep_0 rfl (lv_at hl 0 rfl) ?_
  refine lv_iload_n hx hb dX0_keep_1 rfl (lv_at hl 1 rfl) ?_
  refine va_put (D := G.1) (ci := 0) (v := .int (1 : Int32)) (ty := .int) (C := RX0) (T := TX0) (N := 9) hx hb hts hinX0 tyX0 tyX0_ok nmX0 hown hK.1 hP hD hS 0 rfl rfl 1 (by decide) (hts (.fieldLink RX0 15 "PlaFolder$BestFolding" "count" "I") (by decide +kernel)) (fun _ h9 => h9) rfl (by decide +kernel) rfl rfl (Nat.le_of_ble_eq_true rfl) dX0_keep_2 (fun H locs hP hD hS => ?_)
  have hP : va_P G.1 vwCl (wB G be beD kn (1 : Int32) bu bl tu tl bd bm d0 d1 d2 d3 d4 d5) H := hP
  have hD : va_D A (wB G be beD kn (1 : Int32) bu bl tu tl bd bm d0 d1 d2 d3 d4 d5) := hD
  refine lv_aload_n hx hb dX0_keep_5 rfl (lv_at hl 0 rfl) ?_
  refine va_get (D := G.1) (ci := 0) (v := .ref (be 3)) (C := RX0) (T := TX0) (N := 9) hx hb hts hinX0 hown hK.1 hP 0 rfl rfl 4 (by decide) (hts (.fieldLink RX0 26 "PlaFolder$BestFolding" "triedUpper" "[I") (by decide +kernel)) (fun _ h9 => h9) rfl dX0_keep_6 ?_
  refine lv_iconst (v := (0 : Int32)) hx hb dX0_keep_9 (by decide) ?_
  refine lv_aload_n hx hb dX0_keep_10 rfl (lv_at hl 0 rfl) ?_
  refine va_get (D := G.1) (ci := 0) (v := .ref (be 1)) (C := RX0) (T := TX0) (N := 9) hx hb hts hinX0 hown hK.1 hP 0 rfl rfl 2 (by decide) (hts (.fieldLink RX0 19 "PlaFolder$BestFolding" "upper" "[I") (by decide +kernel)) (fun _ h9 => h9) rfl dX0_keep_11 ?_
  refine lv_iconst (v := (0 : Int32)) hx hb dX0_keep_14 (by decide) ?_
  refine lv_iload_n hx hb dX0_keep_15 rfl (lv_at hl 1 rfl) ?_
  refine va_copyi hx hb (by rw [hml]; exact hl.1.symm) hown (hts (.methodLink RX0 96 arraycopyName) (by decide +kernel)) (hts (.native arraycopyName) (by decide +kernel)) (hts (.static arraycopyName) (by decide +kernel)) (hts (.initialized "java/lang/System") (by decide +kernel)) hK.1 hP hD hS 3 1 0 0 rfl rfl rfl rfl rfl (by decide) (by decide) (by decide) (by decide) (by decide) (fun _ _ => rfl) (Nat.le_of_ble_eq_true rfl) (Nat.le_of_ble_eq_true rfl) dX0_keep_16 (fun H locs hP hD hS => ?_)
  have hP : va_P G.1 vwCl (wB G be beD kn (1 : Int32) (va_cpy tu bu 0 0 1) bl tu tl bd bm d0 d1 d2 d3 d4 d5) H := hP
  have hD : va_D A (wB G be beD kn (1 : Int32) (va_cpy tu bu 0 0 1) bl tu tl bd bm d0 d1 d2 d3 d4 d5) := hD
  refine lv_aload_n hx hb dX0_keep_19 rfl (lv_at hl 0 rfl) ?_
  refine va_get (D := G.1) (ci := 0) (v := .ref (be 4)) (C := RX0) (T := TX0) (N := 9) hx hb hts hinX0 hown hK.1 hP 0 rfl rfl 5 (by decide) (hts (.fieldLink RX0 29 "PlaFolder$BestFolding" "triedLower" "[I") (by decide +kernel)) (fun _ h9 => h9) rfl dX0_keep_20 ?_
  refine lv_iconst (v := (0 : Int32)) hx hb dX0_keep_23 (by decide) ?_
  refine lv_aload_n hx hb dX0_keep_24 rfl (lv_at hl 0 rfl) ?_
  refine va_get (D := G.1) (ci := 0) (v := .ref (be 2)) (C := RX0) (T := TX0) (N := 9) hx hb hts hinX0 hown hK.1 hP 0 rfl rfl 3 (by decide) (hts (.fieldLink RX0 23 "PlaFolder$BestFolding" "lower" "[I") (by decide +kernel)) (fun _ h9 => h9) rfl dX0_keep_25 ?_
  refine lv_iconst (v := (0 : Int32)) hx hb dX0_keep_28 (by decide) ?_
  refine lv_iload_n hx hb dX0_keep_29 rfl (lv_at hl 1 rfl) ?_
  refine va_copyi hx hb (by rw [hml]; exact hl.1.symm) hown (hts (.methodLink RX0 96 arraycopyName) (by decide +kernel)) (hts (.native arraycopyName) (by decide +kernel)) (hts (.static arraycopyName) (by decide +kernel)) (hts (.initialized "java/lang/System") (by decide +kernel)) hK.1 hP hD hS 4 2 0 0 rfl rfl rfl rfl rfl (by decide) (by decide) (by decide) (by decide) (by decide) (fun _ _ => rfl) (Nat.le_of_ble_eq_true rfl) (Nat.le_of_ble_eq_true rfl) dX0_keep_30 (fun H locs hP hD hS => ?_)
  have hP : va_P G.1 vwCl (wB G be beD kn (1 : Int32) (va_cpy tu bu 0 0 1) (va_cpy tl bl 0 0 1) tu tl bd bm d0 d1 d2 d3 d4 d5) H := hP
  have hD : va_D A (wB G be beD kn (1 : Int32) (va_cpy tu bu 0 0 1) (va_cpy tl bl 0 0 1) tu tl bd bm d0 d1 d2 d3 d4 d5) := hD
  exact W.vret hx hb hr (fun t ht hW => ⟨⟨((1 : Int32), (va_cpy tu bu 0 0 1), (va_cpy tl bl 0 0 1)), rfl, h, by rw [ht]; exact hP, hD⟩, hS.F ht⟩) hS.2.2 dX0_keep_33
def wp_X0_keep_2 (ct : Int32) (bu : Nat → Int32) (bl : Nat → Int32) (tu : Nat → Int32) (tl : Nat → Int32) (K : Int32 → (Nat → Int32) → (Nat → Int32) → Prop) : Prop :=
 K (nI 2) (va_cpy tu bu 0 0 2) (va_cpy tl bl 0 0 2)
abbrev rm_X0_keep_2 : Room := { frames := 1, cells := 0, slots := 0, locals := 60 }
set_option maxHeartbeats 4000000 in
set_option maxRecDepth 100000 in
theorem c_X0_keep_2 (l : Launch) (G : GG) (be : Nat → Nat) (beD : Nat → Nat → Nat) (sz : Nat) (kn : Int32) (ct : Int32) (bu : Nat → Int32) (bl : Nat → Int32) (tu : Nat → Int32) (tl : Nat → Int32) (bd : Nat → Int32) (bm : Nat → Int32) (d0 : Nat → Int32) (d1 : Nat → Int32) (d2 : Nat → Int32) (d3 : Nat → Int32) (d4 : Nat → Int32) (d5 : Nat → Int32) {K : Int32 → (Nat → Int32) → (Nat → Int32) → Prop} (h : wp_X0_keep_2 ct bu bl tu tl K) : CV l yX0_keep wsX0_keep rm_X0_keep_2 G [.ref (be 0), .int (nI 2)] (wB G be beD kn ct bu bl tu tl bd bm d0 d1 d2 d3 d4 d5) sz (fun u : Int32 × (Nat → Int32) × (Nat → Int32) => wB G be beD kn u.1 u.2.1 u.2.2 tu tl bd bm d0 d1 d2 d3 d4 d5) (fun u => K u.1 u.2.1 u.2.2) := by
  refine Met.ofW (cc := cX0_keep) (maxL := 2) (ret := none) (by decide) rfl ?_
  intro p e s m args below meth c s₁ B hml hv
  obtain ⟨rfl, hsz, hP, hK, hD0, hZ⟩ := hv
  have hx := B.exec
  have hb := B.bytes
  have hr := B.returns
  have hts := atoms_spec (ws := wsX0_keep) B.pre
  have hown : s.vm.findClass RX0 = some m.cls := findClass_of_methodNamed B.named
  have hlocks := B.notSynchronized
  subst hsz
  have hD := hD0.self (sz := s.heap.size)
  generalize hAe : va_A (wB G be beD kn ct bu bl tu tl bd bm d0 d1 d2 d3 d4 d5) s.heap.size = A at hD hZ ⊢
  have hA : ∀ q : Nat, s.heap.size ≤ q → A q := fun q h => by rw [← hAe]; exact Or.inr h
  have hS : va_S A s.heap s.heap [] := va_S.rf
  have hl := lv_entry ([.ref (be 0), .int (nI 2)]) (n := 2) (Nat.le_of_ble_eq_true rfl)
  rw [lg_entry_eq]
  generalize (lg_sl ([.ref (be 0), .int (nI 2)]) ++ List.replicate (2 - (lg_sl ([.ref (be 0), .int (nI 2)])).length) Slot.unset).toArray = ls at hl ⊢
  have hl : lv_has ls 2 [(0, .ref (be 0)), (1, .int (nI 2))] := hl
  unfold wp_X0_keep_2 at h
  have hinX0 : ∀ w ∈ wsX00, w ∈ wsX0_keep := by decide +kernel
  refine lv_aload_n hx hb dX0_keep_0 rfl (lv_at hl 0 rfl) ?_
  refine lv_iload_n hx hb dX0_keep_1 rfl (lv_at hl 1 rfl) ?_
  refine va_put (D := G.1) (ci := 0) (v := .int (nI 2)) (ty := .int) (C := RX0) (T := TX0) (N := 9) hx hb hts hinX0 tyX0 tyX0_ok nmX0 hown hK.1 hP hD hS 0 rfl rfl 1 (by decide) (hts (.fieldLink RX0 15 "PlaFolder$BestFolding" "count" "I") (by decide +kernel)) (fun _ h9 => h9) rfl (by decide +kernel) rfl rfl (Nat.le_of_ble_eq_true rfl) dX0_keep_2 (fun H locs hP hD hS => ?_)
  have hP : va_P G.1 vwCl (wB G be beD kn (nI 2) bu bl tu tl bd bm d0 d1 d2 d3 d4 d5) H := hP
  have hD : va_D A (wB G be beD kn (nI 2) bu bl tu tl bd bm d0 d1 d2 d3 d4 d5) := hD
  refine lv_aload_n hx hb dX0_keep_5 rfl (lv_at hl 0 rfl) ?_
  refine va_get (D := G.1) (ci := 0) (v := .ref (be 3)) (C := RX0) (T := TX0) (N := 9) hx hb hts hinX0 hown hK.1 hP 0 rfl rfl 4 (by decide) (hts (.fieldLink RX0 26 "PlaFolder$BestFolding" "triedUpper" "[I") (by decide +kernel)) (fun _ h9 => h9) rfl dX0_keep_6 ?_
  refine lv_iconst (v := (0 : Int32)) hx hb dX0_keep_9 (by decide) ?_
  refine lv_aload_n hx hb dX0_keep_10 rfl (lv_at hl 0 rfl) ?_
  refine va_get (D := G.1) (ci := 0) (v := .ref (be 1)) (C := RX0) (T := TX0) (N := 9) hx hb hts hinX0 hown hK.1 hP 0 rfl rfl 2 (by decide) (hts (.fieldLink RX0 19 "PlaFolder$BestFolding" "upper" "[I") (by decide +kernel)) (fun _ h9 => h9) rfl dX0_keep_11 ?_
  refine lv_iconst (v := (0 : Int32)) hx hb dX0_keep_14 (by decide) ?_
  refine lv_iload_n hx hb dX0_keep_15 rfl (lv_at hl 1 rfl) ?_
  refine va_copyi hx hb (by rw [hml]; exact hl.1.symm) hown (hts (.methodLink RX0 96 arraycopyName) (by decide +kernel)) (hts (.native arraycopyName) (by decide +kernel)) (hts (.static arraycopyName) (by decide +kernel)) (hts (.initialized "java/lang/System") (by decide +kernel)) hK.1 hP hD hS 3 1 0 0 rfl rfl rfl rfl rfl (by decide) (by decide) (by decide) (by decide) (by decide) (fun _ _ => rfl) (Nat.le_of_ble_eq_true rfl) (Nat.le_of_ble_eq_true rfl) dX0_keep_16 (fun H locs hP hD hS => ?_)
  have hP : va_P G.1 vwCl (wB G be beD kn (nI 2) (va_cpy tu bu 0 0 2) bl tu tl bd bm d0 d1 d2 d3 d4 d5) H := hP
  have hD : va_D A (wB G be beD kn (nI 2) (va_cpy tu bu 0 0 2) bl tu tl bd bm d0 d1 d2 d3 d4 d5) := hD
  refine lv_aload_n hx hb dX0_keep_19 rfl (lv_at hl 0 rfl) ?_
  refine va_get (D := G.1) (ci := 0) (v := .ref (be 4)) (C := RX0) (T := TX0) (N := 9) hx hb hts hinX0 hown hK.1 hP 0 rfl rfl 5 (by decide) (hts (.fieldLink RX0 29 "PlaFolder$BestFolding" "triedLower" "[I") (by decide +kernel)) (fun _ h9 => h9) rfl dX0_keep_20 ?_
  refine lv_iconst (v := (0 : Int32)) hx hb dX0_keep_23 (by decide) ?_
  refine lv_aload_n hx hb dX0_keep_24 rfl (lv_at hl 0 rfl) ?_
  refine va_get (D := G.1) (ci := 0) (v := .ref (be 2)) (C := RX0) (T := TX0) (N := 9) hx hb hts hinX0 hown hK.1 hP 0 rfl rfl 3 (by decide) (hts (.fieldLink RX0 23 "PlaFolder$BestFolding" "lower" "[I") (by decide +kernel)) (fun _ h9 => h9) rfl dX0_keep_25 ?_
  refine lv_iconst (v := (0 : Int32)) hx hb dX0_keep_28 (by decide) ?_
  refine lv_iload_n hx hb dX0_keep_29 rfl (lv_at hl 1 rfl) ?_
  refine va_copyi hx hb (by rw [hml]; exact hl.1.symm) hown (hts (.methodLink RX0 96 arraycopyName) (by decide +kernel)) (hts (.native arraycopyName) (by decide +kernel)) (hts (.static arraycopyName) (by decide +kernel)) (hts (.initialized "java/lang/System") (by decide +kernel)) hK.1 hP hD hS 4 2 0 0 rfl rfl rfl rfl rfl (by decide) (by decide) (by decide) (by decide) (by decide) (fun _ _ => rfl) (Nat.le_of_ble_eq_true rfl) (Nat.le_of_ble_eq_true rfl) dX0_keep_30 (fun H locs hP hD hS => ?_)
  have hP : va_P G.1 vwCl (wB G be beD kn (nI 2) (va_cpy tu bu 0 0 2) (va_cpy tl bl 0 0 2) tu tl bd bm d0 d1 d2 d3 d4 d5) H := hP
  have hD : va_D A (wB G be beD kn (nI 2) (va_cpy tu bu 0 0 2) (va_cpy tl bl 0 0 2) tu tl bd bm d0 d1 d2 d3 d4 d5) := hD
  exact W.vret hx hb hr (fun t ht hW => ⟨⟨((nI 2), (va_cpy tu bu 0 0 2), (va_cpy tl bl 0 0 2)), rfl, h, by rw [ht]; exact hP, hD⟩, hS.F ht⟩) hS.2.2 dX0_keep_33
def wp_X0_keep_3 (ct : Int32) (bu : Nat → Int32) (bl : Nat → Int32) (tu : Nat → Int32) (tl : Nat → Int32) (K : Int32 → (Nat → Int32) → (Nat → Int32) → Prop) : Prop :=
 K (nI 3) (va_cpy tu bu 0 0 3) (va_cpy tl bl 0 0 3)
abbrev rm_X0_keep_3 : Room := { frames := 1, cells := 0, slots := 0, locals := 60 }
set_option maxHeartbeats 4000000 in
set_option maxRecDepth 100000 in
theorem c_X0_keep_3 (l : Launch) (G : GG) (be : Nat → Nat) (beD : Nat → Nat → Nat) (sz : Nat) (kn : Int32) (ct : Int32) (bu : Nat → Int32) (bl : Nat → Int32) (tu : Nat → Int32) (tl : Nat → Int32) (bd : Nat → Int32) (bm : Nat → Int32) (d0 : Nat → Int32) (d1 : Nat → Int32) (d2 : Nat → Int32) (d3 : Nat → Int32) (d4 : Nat → Int32) (d5 : Nat → Int32) {K : Int32 → (Nat → Int32) → (Nat → Int32) → Prop} (h : wp_X0_keep_3 ct bu bl tu tl K) : CV l yX0_keep wsX0_keep rm_X0_keep_3 G [.ref (be 0), .int (nI 3)] (wB G be beD kn ct bu bl tu tl bd bm d0 d1 d2 d3 d4 d5) sz (fun u : Int32 × (Nat → Int32) × (Nat → Int32) => wB G be beD kn u.1 u.2.1 u.2.2 tu tl bd bm d0 d1 d2 d3 d4 d5) (fun u => K u.1 u.2.1 u.2.2) := by
  refine Met.ofW (cc := cX0_keep) (maxL := 2) (ret := none) (by decide) rfl ?_
  intro p e s m args below meth c s₁ B hml hv
  obtain ⟨rfl, hsz, hP, hK, hD0, hZ⟩ := hv
  have hx := B.exec
  have hb := B.bytes
  have hr := B.returns
  have hts := atoms_spec (ws := wsX0_keep) B.pre
  have hown : s.vm.findClass RX0 = some m.cls := findClass_of_methodNamed B.named
  have hlocks := B.notSynchronized
  subst hsz
  have hD := hD0.self (sz := s.heap.size)
  generalize hAe : va_A (wB G be beD kn ct bu bl tu tl bd bm d0 d1 d2 d3 d4 d5) s.heap.size = A at hD hZ ⊢
  have hA : ∀ q : Nat, s.heap.size ≤ q → A q := fun q h => by rw [← hAe]; exact Or.inr h
  have hS : va_S A s.heap s.heap [] := va_S.rf
  have hl := lv_entry ([.ref (be 0), .int (nI 3)]) (n := 2) (Nat.le_of_ble_eq_true rfl)
  rw [lg_entry_eq]
  generalize (lg_sl ([.ref (be 0), .int (nI 3)]) ++ List.replicate (2 - (lg_sl ([.ref (be 0), .int (nI 3)])).length) Slot.unset).toArray = ls at hl ⊢
  have hl : lv_has ls 2 [(0, .ref (be 0)), (1, .int (nI 3))] := hl
  unfold wp_X0_keep_3 at h
  have hinX0 : ∀ w ∈ wsX00, w ∈ wsX0_keep := by decide +kernel
  refine lv_aload_n hx hb dX0_keep_0 rfl (lv_at hl 0 rfl) ?_
  refine lv_iload_n hx hb dX0_keep_1 rfl (lv_at hl 1 rfl) ?_
  refine va_put (D := G.1) (ci := 0) (v := .int (nI 3)) (ty := .int) (C := RX0) (T := TX0) (N := 9) hx hb hts hinX0 tyX0 tyX0_ok nmX0 hown hK.1 hP hD hS 0 rfl rfl 1 (by decide) (hts (.fieldLink RX0 15 "PlaFolder$BestFolding" "count" "I") (by decide +kernel)) (fun _ h9 => h9) rfl (by decide +kernel) rfl rfl (Nat.le_of_ble_eq_true rfl) dX0_keep_2 (fun H locs hP hD hS => ?_)
  have hP : va_P G.1 vwCl (wB G be beD kn (nI 3) bu bl tu tl bd bm d0 d1 d2 d3 d4 d5) H := hP
  have hD : va_D A (wB G be beD kn (nI 3) bu bl tu tl bd bm d0 d1 d2 d3 d4 d5) := hD
  refine lv_aload_n hx hb dX0_keep_5 rfl (lv_at hl 0 rfl) ?_
  refine va_get (D := G.1) (ci := 0) (v := .ref (be 3)) (C := RX0) (T := TX0) (N := 9) hx hb hts hinX0 hown hK.1 hP 0 rfl rfl 4 (by decide) (hts (.fieldLink RX0 26 "PlaFolder$BestFolding" "triedUpper" "[I") (by decide +kernel)) (fun _ h9 => h9) rfl dX0_keep_6 ?_
  refine lv_iconst (v := (0 : Int32)) hx hb dX0_keep_9 (by decide) ?_
  refine lv_aload_n hx hb dX0_keep_10 rfl (lv_at hl 0 rfl) ?_
  refine va_get (D := G.1) (ci := 0) (v := .ref (be 1)) (C := RX0) (T := TX0) (N := 9) hx hb hts hinX0 hown hK.1 hP 0 rfl rfl 2 (by decide) (hts (.fieldLink RX0 19 "PlaFolder$BestFolding" "upper" "[I") (by decide +kernel)) (fun _ h9 => h9) rfl dX0_keep_11 ?_
  refine lv_iconst (v := (0 : Int32)) hx hb dX0_keep_14 (by decide) ?_
  refine lv_iload_n hx hb dX0_keep_15 rfl (lv_at hl 1 rfl) ?_
  refine va_copyi hx hb (by rw [hml]; exact hl.1.symm) hown (hts (.methodLink RX0 96 arraycopyName) (by decide +kernel)) (hts (.native arraycopyName) (by decide +kernel)) (hts (.static arraycopyName) (by decide +kernel)) (hts (.initialized "java/lang/System") (by decide +kernel)) hK.1 hP hD hS 3 1 0 0 rfl rfl rfl rfl rfl (by decide) (by decide) (by decide) (by decide) (by decide) (fun _ _ => rfl) (Nat.le_of_ble_eq_true rfl) (Nat.le_of_ble_eq_true rfl) dX0_keep_16 (fun H locs hP hD hS => ?_)
  have hP : va_P G.1 vwCl (wB G be beD kn (nI 3) (va_cpy tu bu 0 0 3) bl tu tl bd bm d0 d1 d2 d3 d4 d5) H := hP
  have hD : va_D A (wB G be beD kn (nI 3) (va_cpy tu bu 0 0 3) bl tu tl bd bm d0 d1 d2 d3 d4 d5) := hD
  refine lv_aload_n hx hb dX0_keep_19 rfl (lv_at hl 0 rfl) ?_
  refine va_get (D := G.1) (ci := 0) (v := .ref (be 4)) (C := RX0) (T := TX0) (N := 9) hx hb hts hinX0 hown hK.1 hP 0 rfl rfl 5 (by decide) (hts (.fieldLink RX0 29 "PlaFolder$BestFolding" "triedLower" "[I") (by decide +kernel)) (fun _ h9 => h9) rfl dX0_keep_20 ?_
  refine lv_iconst (v := (0 : Int32)) hx hb dX0_keep_23 (by decide) ?_
  refine lv_aload_n hx hb dX0_keep_24 rfl (lv_at hl 0 rfl) ?_
  refine va_get (D := G.1) (ci := 0) (v := .ref (be 2)) (C := RX0) (T := TX0) (N := 9) hx hb hts hinX0 hown hK.1 hP 0 rfl rfl 3 (by decide) (hts (.fieldLink RX0 23 "PlaFolder$BestFolding" "lower" "[I") (by decide +kernel)) (fun _ h9 => h9) rfl dX0_keep_25 ?_
  refine lv_iconst (v := (0 : Int32)) hx hb dX0_keep_28 (by decide) ?_
  refine lv_iload_n hx hb dX0_keep_29 rfl (lv_at hl 1 rfl) ?_
  refine va_copyi hx hb (by rw [hml]; exact hl.1.symm) hown (hts (.methodLink RX0 96 arraycopyName) (by decide +kernel)) (hts (.native arraycopyName) (by decide +kernel)) (hts (.static arraycopyName) (by decide +kernel)) (hts (.initialized "java/lang/System") (by decide +kernel)) hK.1 hP hD hS 4 2 0 0 rfl rfl rfl rfl rfl (by decide) (by decide) (by decide) (by decide) (by decide) (fun _ _ => rfl) (Nat.le_of_ble_eq_true rfl) (Nat.le_of_ble_eq_true rfl) dX0_keep_30 (fun H locs hP hD hS => ?_)
  have hP : va_P G.1 vwCl (wB G be beD kn (nI 3) (va_cpy tu bu 0 0 3) (va_cpy tl bl 0 0 3) tu tl bd bm d0 d1 d2 d3 d4 d5) H := hP
  have hD : va_D A (wB G be beD kn (nI 3) (va_cpy tu bu 0 0 3) (va_cpy tl bl 0 0 3) tu tl bd bm d0 d1 d2 d3 d4 d5) := hD
  exact W.vret hx hb hr (fun t ht hW => ⟨⟨((nI 3), (va_cpy tu bu 0 0 3), (va_cpy tl bl 0 0 3)), rfl, h, by rw [ht]; exact hP, hD⟩, hS.F ht⟩) hS.2.2 dX0_keep_33
def wp_X0_keep_4 (ct : Int32) (bu : Nat → Int32) (bl : Nat → Int32) (tu : Nat → Int32) (tl : Nat → Int32) (K : Int32 → (Nat → Int32) → (Nat → Int32) → Prop) : Prop :=
 K (nI 4) (va_cpy tu bu 0 0 4) (va_cpy tl bl 0 0 4)
abbrev rm_X0_keep_4 : Room := { frames := 1, cells := 0, slots := 0, locals := 60 }
set_option maxHeartbeats 4000000 in
set_option maxRecDepth 100000 in
theorem c_X0_keep_4 (l : Launch) (G : GG) (be : Nat → Nat) (beD : Nat → Nat → Nat) (sz : Nat) (kn : Int32) (ct : Int32) (bu : Nat → Int32) (bl : Nat → Int32) (tu : Nat → Int32) (tl : Nat → Int32) (bd : Nat → Int32) (bm : Nat → Int32) (d0 : Nat → Int32) (d1 : Nat → Int32) (d2 : Nat → Int32) (d3 : Nat → Int32) (d4 : Nat → Int32) (d5 : Nat → Int32) {K : Int32 → (Nat → Int32) → (Nat → Int32) → Prop} (h : wp_X0_keep_4 ct bu bl tu tl K) : CV l yX0_keep wsX0_keep rm_X0_keep_4 G [.ref (be 0), .int (nI 4)] (wB G be beD kn ct bu bl tu tl bd bm d0 d1 d2 d3 d4 d5) sz (fun u : Int32 × (Nat → Int32) × (Nat → Int32) => wB G be beD kn u.1 u.2.1 u.2.2 tu tl bd bm d0 d1 d2 d3 d4 d5) (fun u => K u.1 u.2.1 u.2.2) := by
  refine Met.ofW (cc := cX0_keep) (maxL := 2) (ret := none) (by decide) rfl ?_
  intro p e s m args below meth c s₁ B hml hv
  obtain ⟨rfl, hsz, hP, hK, hD0, hZ⟩ := hv
  have hx := B.exec
  have hb := B.bytes
  have hr := B.returns
  have hts := atoms_spec (ws := wsX0_keep) B.pre
  have hown : s.vm.findClass RX0 = some m.cls := findClass_of_methodNamed B.named
  have hlocks := B.notSynchronized
  subst hsz
  have hD := hD0.self (sz := s.heap.size)
  generalize hAe : va_A (wB G be beD kn ct bu bl tu tl bd bm d0 d1 d2 d3 d4 d5) s.heap.size = A at hD hZ ⊢
  have hA : ∀ q : Nat, s.heap.size ≤ q → A q := fun q h => by rw [← hAe]; exact Or.inr h
  have hS : va_S A s.heap s.heap [] := va_S.rf
  have hl := lv_entry ([.ref (be 0), .int (nI 4)]) (n := 2) (Nat.le_of_ble_eq_true rfl)
  rw [lg_entry_eq]
  generalize (lg_sl ([.ref (be 0), .int (nI 4)]) ++ List.replicate (2 - (lg_sl ([.ref (be 0), .int (nI 4)])).length) Slot.unset).toArray = ls at hl ⊢
  have hl : lv_has ls 2 [(0, .ref (be 0)), (1, .int (nI 4))] := hl
  unfold wp_X0_keep_4 at h
  have hinX0 : ∀ w ∈ wsX00, w ∈ wsX0_keep := by decide +kernel
  refine lv_aload_n hx hb dX0_keep_0 rfl (lv_at hl 0 rfl) ?_
  refine lv_iload_n hx hb dX0_keep_1 rfl (lv_at hl 1 rfl) ?_
  refine va_put (D := G.1) (ci := 0) (v := .int (nI 4)) (ty := .int) (C := RX0) (T := TX0) (N := 9) hx hb hts hinX0 tyX0 tyX0_ok nmX0 hown hK.1 hP hD hS 0 rfl rfl 1 (by decide) (hts (.fieldLink RX0 15 "PlaFolder$BestFolding" "count" "I") (by decide +kernel)) (fun _ h9 => h9) rfl (by decide +kernel) rfl rfl (Nat.le_of_ble_eq_true rfl) dX0_keep_2 (fun H locs hP hD hS => ?_)
  have hP : va_P G.1 vwCl (wB G be beD kn (nI 4) bu bl tu tl bd bm d0 d1 d2 d3 d4 d5) H := hP
  have hD : va_D A (wB G be beD kn (nI 4) bu bl tu tl bd bm d0 d1 d2 d3 d4 d5) := hD
  refine lv_aload_n hx hb dX0_keep_5 rfl (lv_at hl 0 rfl) ?_
  refine va_get (D := G.1) (ci := 0) (v := .ref (be 3)) (C := RX0) (T := TX0) (N := 9) hx hb hts hinX0 hown hK.1 hP 0 rfl rfl 4 (by decide) (hts (.fieldLink RX0 26 "PlaFolder$BestFolding" "triedUpper" "[I") (by decide +kernel)) (fun _ h9 => h9) rfl dX0_keep_6 ?_
  refine lv_iconst (v := (0 : Int32)) hx hb dX0_keep_9 (by decide) ?_
  refine lv_aload_n hx hb dX0_keep_10 rfl (lv_at hl 0 rfl) ?_
  refine va_get (D := G.1) (ci := 0) (v := .ref (be 1)) (C := RX0) (T := TX0) (N := 9) hx hb hts hinX0 hown hK.1 hP 0 rfl rfl 2 (by decide) (hts (.fieldLink RX0 19 "PlaFolder$BestFolding" "upper" "[I") (by decide +kernel)) (fun _ h9 => h9) rfl dX0_keep_11 ?_
  refine lv_iconst (v := (0 : Int32)) hx hb dX0_keep_14 (by decide) ?_
  refine lv_iload_n hx hb dX0_keep_15 rfl (lv_at hl 1 rfl) ?_
  refine va_copyi hx hb (by rw [hml]; exact hl.1.symm) hown (hts (.methodLink RX0 96 arraycopyName) (by decide +kernel)) (hts (.native arraycopyName) (by decide +kernel)) (hts (.static arraycopyName) (by decide +kernel)) (hts (.initialized "java/lang/System") (by decide +kernel)) hK.1 hP hD hS 3 1 0 0 rfl rfl rfl rfl rfl (by decide) (by decide) (by decide) (by decide) (by decide) (fun _ _ => rfl) (Nat.le_of_ble_eq_true rfl) (Nat.le_of_ble_eq_true rfl) dX0_keep_16 (fun H locs hP hD hS => ?_)
  have hP : va_P G.1 vwCl (wB G be beD kn (nI 4) (va_cpy tu bu 0 0 4) bl tu tl bd bm d0 d1 d2 d3 d4 d5) H := hP
  have hD : va_D A (wB G be beD kn (nI 4) (va_cpy tu bu 0 0 4) bl tu tl bd bm d0 d1 d2 d3 d4 d5) := hD
  refine lv_aload_n hx hb dX0_keep_19 rfl (lv_at hl 0 rfl) ?_
  refine va_get (D := G.1) (ci := 0) (v := .ref (be 4)) (C := RX0) (T := TX0) (N := 9) hx hb hts hinX0 hown hK.1 hP 0 rfl rfl 5 (by decide) (hts (.fieldLink RX0 29 "PlaFolder$BestFolding" "triedLower" "[I") (by decide +kernel)) (fun _ h9 => h9) rfl dX0_keep_20 ?_
  refine lv_iconst (v := (0 : Int32)) hx hb dX0_keep_23 (by decide) ?_
  refine lv_aload_n hx hb dX0_keep_24 rfl (lv_at hl 0 rfl) ?_
  refine va_get (D := G.1) (ci := 0) (v := .ref (be 2)) (C := RX0) (T := TX0) (N := 9) hx hb hts hinX0 hown hK.1 hP 0 rfl rfl 3 (by decide) (hts (.fieldLink RX0 23 "PlaFolder$BestFolding" "lower" "[I") (by decide +kernel)) (fun _ h9 => h9) rfl dX0_keep_25 ?_
  refine lv_iconst (v := (0 : Int32)) hx hb dX0_keep_28 (by decide) ?_
  refine lv_iload_n hx hb dX0_keep_29 rfl (lv_at hl 1 rfl) ?_
  refine va_copyi hx hb (by rw [hml]; exact hl.1.symm) hown (hts (.methodLink RX0 96 arraycopyName) (by decide +kernel)) (hts (.native arraycopyName) (by decide +kernel)) (hts (.static arraycopyName) (by decide +kernel)) (hts (.initialized "java/lang/System") (by decide +kernel)) hK.1 hP hD hS 4 2 0 0 rfl rfl rfl rfl rfl (by decide) (by decide) (by decide) (by decide) (by decide) (fun _ _ => rfl) (Nat.le_of_ble_eq_true rfl) (Nat.le_of_ble_eq_true rfl) dX0_keep_30 (fun H locs hP hD hS => ?_)
  have hP : va_P G.1 vwCl (wB G be beD kn (nI 4) (va_cpy tu bu 0 0 4) (va_cpy tl bl 0 0 4) tu tl bd bm d0 d1 d2 d3 d4 d5) H := hP
  have hD : va_D A (wB G be beD kn (nI 4) (va_cpy tu bu 0 0 4) (va_cpy tl bl 0 0 4) tu tl bd bm d0 d1 d2 d3 d4 d5) := hD
  exact W.vret hx hb hr (fun t ht hW => ⟨⟨((nI 4), (va_cpy tu bu 0 0 4), (va_cpy tl bl 0 0 4)), rfl, h, by rw [ht]; exact hP, hD⟩, hS.F ht⟩) hS.2.2 dX0_keep_33
def wp_X0_keep_5 (ct : Int32) (bu : Nat → Int32) (bl : Nat → Int32) (tu : Nat → Int32) (tl : Nat → Int32) (K : Int32 → (Nat → Int32) → (Nat → Int32) → Prop) : Prop :=
 K (nI 5) (va_cpy tu bu 0 0 5) (va_cpy tl bl 0 0 5)
abbrev rm_X0_keep_5 : Room := { frames := 1, cells := 0, slots := 0, locals := 60 }
set_option maxHeartbeats 4000000 in
set_option maxRecDepth 100000 in
theorem c_X0_keep_5 (l : Launch) (G : GG) (be : Nat → Nat) (beD : Nat → Nat → Nat) (sz : Nat) (kn : Int32) (ct : Int32) (bu : Nat → Int32) (bl : Nat → Int32) (tu : Nat → Int32) (tl : Nat → Int32) (bd : Nat → Int32) (bm : Nat → Int32) (d0 : Nat → Int32) (d1 : Nat → Int32) (d2 : Nat → Int32) (d3 : Nat → Int32) (d4 : Nat → Int32) (d5 : Nat → Int32) {K : Int32 → (Nat → Int32) → (Nat → Int32) → Prop} (h : wp_X0_keep_5 ct bu bl tu tl K) : CV l yX0_keep wsX0_keep rm_X0_keep_5 G [.ref (be 0), .int (nI 5)] (wB G be beD kn ct bu bl tu tl bd bm d0 d1 d2 d3 d4 d5) sz (fun u : Int32 × (Nat → Int32) × (Nat → Int32) => wB G be beD kn u.1 u.2.1 u.2.2 tu tl bd bm d0 d1 d2 d3 d4 d5) (fun u => K u.1 u.2.1 u.2.2) := by
  refine Met.ofW (cc := cX0_keep) (maxL := 2) (ret := none) (by decide) rfl ?_
  intro p e s m args below meth c s₁ B hml hv
  obtain ⟨rfl, hsz, hP, hK, hD0, hZ⟩ := hv
  have hx := B.exec
  have hb := B.bytes
  have hr := B.returns
  have hts := atoms_spec (ws := wsX0_keep) B.pre
  have hown : s.vm.findClass RX0 = some m.cls := findClass_of_methodNamed B.named
  have hlocks := B.notSynchronized
  subst hsz
  have hD := hD0.self (sz := s.heap.size)
  generalize hAe : va_A (wB G be beD kn ct bu bl tu tl bd bm d0 d1 d2 d3 d4 d5) s.heap.size = A at hD hZ ⊢
  have hA : ∀ q : Nat, s.heap.size ≤ q → A q := fun q h => by rw [← hAe]; exact Or.inr h
  have hS : va_S A s.heap s.heap [] := va_S.rf
  have hl := lv_entry ([.ref (be 0), .int (nI 5)]) (n := 2) (Nat.le_of_ble_eq_true rfl)
  rw [lg_entry_eq]
  generalize (lg_sl ([.ref (be 0), .int (nI 5)]) ++ List.replicate (2 - (lg_sl ([.ref (be 0), .int (nI 5)])).length) Slot.unset).toArray = ls at hl ⊢
  have hl : lv_has ls 2 [(0, .ref (be 0)), (1, .int (nI 5))] := hl
  unfold wp_X0_keep_5 at h
  have hinX0 : ∀ w ∈ wsX00, w ∈ wsX0_keep := by decide +kernel
  refine lv_aload_n hx hb dX0_keep_0 rfl (lv_at hl 0 rfl) ?_
  refine lv_iload_n hx hb dX0_keep_1 rfl (lv_at hl 1 rfl) ?_
  refine va_put (D := G.1) (ci := 0) (v := .int (nI 5)) (ty := .int) (C := RX0) (T := TX0) (N := 9) hx hb hts hinX0 tyX0 tyX0_ok nmX0 hown hK.1 hP hD hS 0 rfl rfl 1 (by decide) (hts (.fieldLink RX0 15 "PlaFolder$BestFolding" "count" "I") (by decide +kernel)) (fun _ h9 => h9) rfl (by decide +kernel) rfl rfl (Nat.le_of_ble_eq_true rfl) dX0_keep_2 (fun H locs hP hD hS => ?_)
  have hP : va_P G.1 vwCl (wB G be beD kn (nI 5) bu bl tu tl bd bm d0 d1 d2 d3 d4 d5) H := hP
  have hD : va_D A (wB G be beD kn (nI 5) bu bl tu tl bd bm d0 d1 d2 d3 d4 d5) := hD
  refine lv_aload_n hx hb dX0_keep_5 rfl (lv_at hl 0 rfl) ?_
  refine va_get (D := G.1) (ci := 0) (v := .ref (be 3)) (C := RX0) (T := TX0) (N := 9) hx hb hts hinX0 hown hK.1 hP 0 rfl rfl 4 (by decide) (hts (.fieldLink RX0 26 "PlaFolder$BestFolding" "triedUpper" "[I") (by decide +kernel)) (fun _ h9 => h9) rfl dX0_keep_6 ?_
  refine lv_iconst (v := (0 : Int32)) hx hb dX0_keep_9 (by decide) ?_
  refine lv_aload_n hx hb dX0_keep_10 rfl (lv_at hl 0 rfl) ?_
  refine va_get (D := G.1) (ci := 0) (v := .ref (be 1)) (C := RX0) (T := TX0) (N := 9) hx hb hts hinX0 hown hK.1 hP 0 rfl rfl 2 (by decide) (hts (.fieldLink RX0 19 "PlaFolder$BestFolding" "upper" "[I") (by decide +kernel)) (fun _ h9 => h9) rfl dX0_keep_11 ?_
  refine lv_iconst (v := (0 : Int32)) hx hb dX0_keep_14 (by decide) ?_
  refine lv_iload_n hx hb dX0_keep_15 rfl (lv_at hl 1 rfl) ?_
  refine va_copyi hx hb (by rw [hml]; exact hl.1.symm) hown (hts (.methodLink RX0 96 arraycopyName) (by decide +kernel)) (hts (.native arraycopyName) (by decide +kernel)) (hts (.static arraycopyName) (by decide +kernel)) (hts (.initialized "java/lang/System") (by decide +kernel)) hK.1 hP hD hS 3 1 0 0 rfl rfl rfl rfl rfl (by decide) (by decide) (by decide) (by decide) (by decide) (fun _ _ => rfl) (Nat.le_of_ble_eq_true rfl) (Nat.le_of_ble_eq_true rfl) dX0_keep_16 (fun H locs hP hD hS => ?_)
  have hP : va_P G.1 vwCl (wB G be beD kn (nI 5) (va_cpy tu bu 0 0 5) bl tu tl bd bm d0 d1 d2 d3 d4 d5) H := hP
  have hD : va_D A (wB G be beD kn (nI 5) (va_cpy tu bu 0 0 5) bl tu tl bd bm d0 d1 d2 d3 d4 d5) := hD
  refine lv_aload_n hx hb dX0_keep_19 rfl (lv_at hl 0 rfl) ?_
  refine va_get (D := G.1) (ci := 0) (v := .ref (be 4)) (C := RX0) (T := TX0) (N := 9) hx hb hts hinX0 hown hK.1 hP 0 rfl rfl 5 (by decide) (hts (.fieldLink RX0 29 "PlaFolder$BestFolding" "triedLower" "[I") (by decide +kernel)) (fun _ h9 => h9) rfl dX0_keep_20 ?_
  refine lv_iconst (v := (0 : Int32)) hx hb dX0_keep_23 (by decide) ?_
  refine lv_aload_n hx hb dX0_keep_24 rfl (lv_at hl 0 rfl) ?_
  refine va_get (D := G.1) (ci := 0) (v := .ref (be 2)) (C := RX0) (T := TX0) (N := 9) hx hb hts hinX0 hown hK.1 hP 0 rfl rfl 3 (by decide) (hts (.fieldLink RX0 23 "PlaFolder$BestFolding" "lower" "[I") (by decide +kernel)) (fun _ h9 => h9) rfl dX0_keep_25 ?_
  refine lv_iconst (v := (0 : Int32)) hx hb dX0_keep_28 (by decide) ?_
  refine lv_iload_n hx hb dX0_keep_29 rfl (lv_at hl 1 rfl) ?_
  refine va_copyi hx hb (by rw [hml]; exact hl.1.symm) hown (hts (.methodLink RX0 96 arraycopyName) (by decide +kernel)) (hts (.native arraycopyName) (by decide +kernel)) (hts (.static arraycopyName) (by decide +kernel)) (hts (.initialized "java/lang/System") (by decide +kernel)) hK.1 hP hD hS 4 2 0 0 rfl rfl rfl rfl rfl (by decide) (by decide) (by decide) (by decide) (by decide) (fun _ _ => rfl) (Nat.le_of_ble_eq_true rfl) (Nat.le_of_ble_eq_true rfl) dX0_keep_30 (fun H locs hP hD hS => ?_)
  have hP : va_P G.1 vwCl (wB G be beD kn (nI 5) (va_cpy tu bu 0 0 5) (va_cpy tl bl 0 0 5) tu tl bd bm d0 d1 d2 d3 d4 d5) H := hP
  have hD : va_D A (wB G be beD kn (nI 5) (va_cpy tu bu 0 0 5) (va_cpy tl bl 0 0 5) tu tl bd bm d0 d1 d2 d3 d4 d5) := hD
  exact W.vret hx hb hr (fun t ht hW => ⟨⟨((nI 5), (va_cpy tu bu 0 0 5), (va_cpy tl bl 0 0 5)), rfl, h, by rw [ht]; exact hP, hD⟩, hS.F ht⟩) hS.2.2 dX0_keep_33
def wp_X0_tryLowers_5 (a2 : Int32) (a3 : Int32) (K : Prop) : Prop :=
 K
abbrev rm_X0_tryLowers_5 : Room := { frames := 0, cells := 0, slots := 0, locals := 0 }
set_option maxHeartbeats 4000000 in
set_option maxRecDepth 100000 in
theorem c_X0_tryLowers_5 (l : Launch) (G : GG) (be : Nat → Nat) (beD : Nat → Nat → Nat) (sz : Nat) (kn : Int32) (ct : Int32) (bu : Nat → Int32) (bl : Nat → Int32) (tu : Nat → Int32) (tl : Nat → Int32) (bd : Nat → Int32) (bm : Nat → Int32) (d0 : Nat → Int32) (d1 : Nat → Int32) (d2 : Nat → Int32) (d3 : Nat → Int32) (d4 : Nat → Int32) (d5 : Nat → Int32) (a2 : Int32) (a3 : Int32) {K : Prop} (h : wp_X0_tryLowers_5 a2 a3 K) : CV l yX0_tryLowers wsX0_tryLowers rm_X0_tryLowers_5 G [.ref (be 0), .int (nI 5), .int a2, .int a3] (wB G be beD kn ct bu bl tu tl bd bm d0 d1 d2 d3 d4 d5) sz (fun u : Unit => wB G be beD kn ct bu bl tu tl bd bm d0 d1 d2 d3 d4 d5) (fun u => K ) := by
  refine Met.ofW (cc := cX0_tryLowers) (maxL := 6) (ret := none) (by decide) rfl ?_
  intro p e s m args below meth c s₁ B hml hv
  obtain ⟨rfl, hsz, hP, hK, hD0, hZ⟩ := hv
  have hx := B.exec
  have hb := B.bytes
  have hr := B.returns
  have hts := atoms_spec (ws := wsX0_tryLowers) B.pre
  have hown : s.vm.findClass RX0 = some m.cls := findClass_of_methodNamed B.named
  have hlocks := B.notSynchronized
  subst hsz
  have hD := hD0.self (sz := s.heap.size)
  generalize hAe : va_A (wB G be beD kn ct bu bl tu tl bd bm d0 d1 d2 d3 d4 d5) s.heap.size = A at hD hZ ⊢
  have hA : ∀ q : Nat, s.heap.size ≤ q → A q := fun q h => by rw [← hAe]; exact Or.inr h
  have hS : va_S A s.heap s.heap [] := va_S.rf
  have hl := lv_entry ([.ref (be 0), .int (nI 5), .int a2, .int a3]) (n := 6) (Nat.le_of_ble_eq_true rfl)
  rw [lg_entry_eq]
  generalize (lg_sl ([.ref (be 0), .int (nI 5), .int a2, .int a3]) ++ List.replicate (6 - (lg_sl ([.ref (be 0), .int (nI 5), .int a2, .int a3])).length) Slot.unset).toArray = ls at hl ⊢
  have hl : lv_has ls 6 [(0, .ref (be 0)), (1, .int (nI 5)), (2, .int a2), (3, .int a3)] := hl
  unfold wp_X0_tryLowers_5 at h
  refine lv_iload_n hx hb dX0_tryLowers_0 rfl (lv_at hl 1 rfl) ?_
  refine lv_iconst (v := (nI 5)) hx hb dX0_tryLowers_1 (by decide) ?_
  refine lv_icmp_lt (tgt := 6) hx hb dX0_tryLowers_2 (by decide) (fun c_1 => absurd c_1 (by decide)) (fun _ => ?_)
  exact W.vret hx hb hr (fun t ht hW => ⟨⟨(), rfl, h, by rw [ht]; exact hP, hD⟩, hS.F ht⟩) hS.2.2 dX0_tryLowers_5
def wp_X0_extend_5 (a2 : Int32) (a3 : Int32) (ct : Int32) (bu : Nat → Int32) (bl : Nat → Int32) (tu : Nat → Int32) (tl : Nat → Int32) (K : Int32 → (Nat → Int32) → (Nat → Int32) → Prop) : Prop :=
 (Jn3 (fun (z2 : Int32) (z3 : Nat → Int32) (z4 : Nat → Int32) => (Lp1 a2 (fun (x7 : Int32) (J11 : Int32 → Prop) => (((nI 10) ≤ x7 → K z2 z3 z4) ∧
 (¬ ((nI 10) ≤ x7) → wp_X0_mostFolds a3 x7 (fun (r15 : Int32) => ((z2 < ((nI 5) + r15) → wp_X5_contains a3 x7 (fun (r17 : Int32) => ((r17 = 0 → J11 (x7 + (1 : Int32))) ∧
 (¬ (r17 = 0) → wp_X0_tryLowers_5 x7 a3 (J11 (x7 + (1 : Int32))))))) ∧
 (¬ (z2 < ((nI 5) + r15)) → K z2 z3 z4))))))))
 (fun (J5 : Int32 → (Nat → Int32) → (Nat → Int32) → Prop) => (((nI 5) ≤ ct → J5 ct bu bl) ∧
 (¬ ((nI 5) ≤ ct) → wp_X0_keep_5 ct bu bl tu tl (fun (u30 : Int32) (u31 : Nat → Int32) (u32 : Nat → Int32) => J5 u30 u31 u32)))))
abbrev rm_X0_extend_5 : Room := { frames := 3, cells := 0, slots := 0, locals := 83 }
set_option maxHeartbeats 4000000 in
set_option maxRecDepth 100000 in
theorem c_X0_extend_5 (l : Launch) (G : GG) (be : Nat → Nat) (beD : Nat → Nat → Nat) (sz : Nat) (kn : Int32) (ct : Int32) (bu : Nat → Int32) (bl : Nat → Int32) (tu : Nat → Int32) (tl : Nat → Int32) (bd : Nat → Int32) (bm : Nat → Int32) (d0 : Nat → Int32) (d1 : Nat → Int32) (d2 : Nat → Int32) (d3 : Nat → Int32) (d4 : Nat → Int32) (d5 : Nat → Int32) (a2 : Int32) (a3 : Int32) {K : Int32 → (Nat → Int32) → (Nat → Int32) → Prop} (h : wp_X0_extend_5 a2 a3 ct bu bl tu tl K) : CV l yX0_extend wsX0_extend rm_X0_extend_5 G [.ref (be 0), .int (nI 5), .int a2, .int a3] (wB G be beD kn ct bu bl tu tl bd bm d0 d1 d2 d3 d4 d5) sz (fun u : Int32 × (Nat → Int32) × (Nat → Int32) => wB G be beD kn u.1 u.2.1 u.2.2 tu tl bd bm d0 d1 d2 d3 d4 d5) (fun u => K u.1 u.2.1 u.2.2) := by
  refine Met.ofW (cc := cX0_extend) (maxL := 5) (ret := none) (by decide) rfl ?_
  intro p e s m args below meth c s₁ B hml hv
  obtain ⟨rfl, hsz, hP, hK, hD0, hZ⟩ := hv
  have hx := B.exec
  have hb := B.bytes
  have hr := B.returns
  have hts := atoms_spec (ws := wsX0_extend) B.pre
  have hown : s.vm.findClass RX0 = some m.cls := findClass_of_methodNamed B.named
  have hlocks := B.notSynchronized
  subst hsz
  have hD := hD0.self (sz := s.heap.size)
  generalize hAe : va_A (wB G be beD kn ct bu bl tu tl bd bm d0 d1 d2 d3 d4 d5) s.heap.size = A at hD hZ ⊢
  have hA : ∀ q : Nat, s.heap.size ≤ q → A q := fun q h => by rw [← hAe]; exact Or.inr h
  have hS : va_S A s.heap s.heap [] := va_S.rf
  have hl := lv_entry ([.ref (be 0), .int (nI 5), .int a2, .int a3]) (n := 5) (Nat.le_of_ble_eq_true rfl)
  rw [lg_entry_eq]
  generalize (lg_sl ([.ref (be 0), .int (nI 5), .int a2, .int a3]) ++ List.replicate (5 - (lg_sl ([.ref (be 0), .int (nI 5), .int a2, .int a3])).length) Slot.unset).toArray = ls at hl ⊢
  have hl : lv_has ls 5 [(0, .ref (be 0)), (1, .int (nI 5)), (2, .int a2), (3, .int a3)] := hl
  unfold wp_X0_extend_5 at h
  have hinX0 : ∀ w ∈ wsX00, w ∈ wsX0_extend := by decide +kernel
  refine lv_iload_n hx hb dX0_extend_0 rfl (lv_at hl 1 rfl) ?_
  refine lv_aload_n hx hb dX0_extend_1 rfl (lv_at hl 0 rfl) ?_
  refine va_get (D := G.1) (ci := 0) (v := .int ct) (C := RX0) (T := TX0) (N := 9) hx hb hts hinX0 hown hK.1 hP 0 rfl rfl 1 (by decide) (hts (.fieldLink RX0 15 "PlaFolder$BestFolding" "count" "I") (by decide +kernel)) (fun _ h9 => h9) rfl dX0_extend_2 ?_
  obtain ⟨J5, hJ34, h⟩ := h
  refine joinW (σ := Int32 × (Nat → Int32) × (Nat → Int32)) (J := fun q => J5 q.1 q.2.1 q.2.2) (pc := 13) (st := fun q => []) (P := fun q H locs ls => va_P G.1 vwCl (wB G be beD kn q.1 q.2.1 q.2.2 tu tl bd bm d0 d1 d2 d3 d4 d5) H ∧ va_D A (wB G be beD kn q.1 q.2.1 q.2.2 tu tl bd bm d0 d1 d2 d3 d4 d5) ∧ va_S A s.heap H locs ∧ lv_has ls 5 [(0, .ref (be 0)), (1, .int (nI 5)), (2, .int a2), (3, .int a3)]) ?_ (fun join6 => ?_)
  · rintro ⟨z2, z3, z4⟩ h H locs ls ⟨hP, hD, hS, hl⟩
    have hP : va_P G.1 vwCl (wB G be beD kn z2 z3 z4 tu tl bd bm d0 d1 d2 d3 d4 d5) H := hP
    have hD : va_D A (wB G be beD kn z2 z3 z4 tu tl bd bm d0 d1 d2 d3 d4 d5) := hD
    have hl : lv_has ls 5 [(0, .ref (be 0)), (1, .int (nI 5)), (2, .int a2), (3, .int a3)] := hl
    have h := hJ34 z2 z3 z4 h
    refine W.eq (g2 := F0 m 13 ls ([])) rfl ?_
    refine lv_iload_n hx hb dX0_extend_13 rfl (lv_at hl 2 rfl) ?_
    refine lv_istore (lv' := [(4, .int a2), (0, .ref (be 0)), (1, .int (nI 5)), (2, .int a2), (3, .int a3)]) hx hb dX0_extend_14 hl (by decide) rfl (fun ls hl => ?_)
    obtain ⟨I8, n9, h0, hst10⟩ := h
    refine loopW (σ := Int32) (P := fun q H locs ls => va_P G.1 vwCl (wB G be beD kn z2 z3 z4 tu tl bd bm d0 d1 d2 d3 d4 d5) H ∧ va_D A (wB G be beD kn z2 z3 z4 tu tl bd bm d0 d1 d2 d3 d4 d5) ∧ va_S A s.heap H locs ∧ lv_has ls 5 [(0, .ref (be 0)), (1, .int (nI 5)), (3, .int a3), (4, .int q)]) (I := fun n q => I8 n q) n9 a2 h0 _ _ _ ⟨hP, hD, hS, lv_sub hl [1, 2, 4, 0] rfl⟩ ?_
    rintro n13 x7 hI ih12 H locs ls ⟨hP, hD, hS, hl⟩
    have hP : va_P G.1 vwCl (wB G be beD kn z2 z3 z4 tu tl bd bm d0 d1 d2 d3 d4 d5) H := hP
    have hD : va_D A (wB G be beD kn z2 z3 z4 tu tl bd bm d0 d1 d2 d3 d4 d5) := hD
    have hl : lv_has ls 5 [(0, .ref (be 0)), (1, .int (nI 5)), (3, .int a3), (4, .int x7)] := hl
    have h := hst10 n13 x7 hI
    refine lv_iload hx hb dX0_extend_16 (lv_at hl 3 rfl) ?_
    refine lv_bipush (v := (nI 10)) hx hb dX0_extend_18 (by decide) ?_
    refine lv_icmp_ge (tgt := 62) hx hb dX0_extend_20 (by decide) (fun c_14 => ?_) (fun c_14 => ?_)
    · have h := h.1 c_14
      exact W.vret hx hb hr (fun t ht hW => ⟨⟨(z2, z3, z4), rfl, h, by rw [ht]; exact hP, hD⟩, hS.F ht⟩) hS.2.2 dX0_extend_62
    · have h := h.2 c_14
      refine lv_iload_n hx hb dX0_extend_23 rfl (lv_at hl 1 rfl) ?_
      refine lv_iload_n hx hb dX0_extend_24 rfl (lv_at hl 2 rfl) ?_
      refine lv_iload hx hb dX0_extend_25 (lv_at hl 3 rfl) ?_
      refine kp_i (wr := wB G be beD kn z2 z3 z4 tu tl bd bm d0 d1 d2 d3 d4 d5) (va_runS (As := [.int a3, .int x7]) (rest := [.int (nI 5)]) ⟨hx, hb, hml, hown, hts⟩ (c_X0_mostFolds l G  _  a3 x7 h) (va_cwS 2 hts gX0_extend_X0_mostFolds rfl rfl rfl (by decide +kernel) ⟨Nat.le_of_ble_eq_true rfl, Nat.le_of_ble_eq_true rfl⟩) (kpSp hK hP hD hZ hS hA (pm_nil _)) rfl rfl hl.1 rfl (lv_room (Nat.le_of_ble_eq_true rfl)) dX0_extend_27 ⟨Nat.zero_le _, Nat.zero_le _⟩) hP hD hS hA (pm_nil _) (fun r15 w28 H locs h hP hD hS => ?_)
      have hP : va_P G.1 vwCl (wB G be beD kn z2 z3 z4 tu tl bd bm d0 d1 d2 d3 d4 d5) H := hP.perm (pm_nil _).symm
      have hD : va_D A (wB G be beD kn z2 z3 z4 tu tl bd bm d0 d1 d2 d3 d4 d5) := hD.perm (pm_nil _).symm
      try dsimp only at h
      refine lv_iadd hx hb dX0_extend_30 ?_
      refine lv_aload_n hx hb dX0_extend_31 rfl (lv_at hl 0 rfl) ?_
      refine va_get (D := G.1) (ci := 0) (v := .int z2) (C := RX0) (T := TX0) (N := 9) hx hb hts hinX0 hown hK.1 hP 0 rfl rfl 1 (by decide) (hts (.fieldLink RX0 15 "PlaFolder$BestFolding" "count" "I") (by decide +kernel)) (fun _ h9 => h9) rfl dX0_extend_32 ?_
      refine lv_icmp_gt (tgt := 39) hx hb dX0_extend_35 (by decide) (fun c_16 => ?_) (fun c_16 => ?_)
      · have h := h.1 c_16
        refine lv_iload_n hx hb dX0_extend_39 rfl (lv_at hl 2 rfl) ?_
        refine lv_iload hx hb dX0_extend_40 (lv_at hl 3 rfl) ?_
        refine kp_i (wr := wB G be beD kn z2 z3 z4 tu tl bd bm d0 d1 d2 d3 d4 d5) (va_runSN (As := [.int a3, .int x7]) (rest := []) ⟨hx, hb, hml, hown, hts⟩ (c_X5_contains l G  _  a3 x7 h) ⟨va_cnB 2 hts gX0_extend_X5_contains_n79 rfl rfl rfl (hK.2.M 35 (q := ("PlaFolder$BestFolding", 79, ⟨"PlaFolder", "contains", "(II)Z"⟩, "PlaFolder")) rfl) (hts (.initialized RX5) (by decide +kernel)) (by decide +kernel) ⟨Nat.le_of_ble_eq_true rfl, Nat.le_of_ble_eq_true rfl⟩, hts (.static yX5_contains) (by decide +kernel), trivial⟩ (kpSp hK hP hD hZ hS hA (pm_nil _)) rfl rfl hl.1 rfl (lv_room (Nat.le_of_ble_eq_true rfl)) dX0_extend_42 ⟨Nat.zero_le _, Nat.zero_le _⟩) hP hD hS hA (pm_nil _) (fun r17 w27 H locs h hP hD hS => ?_)
        have hP : va_P G.1 vwCl (wB G be beD kn z2 z3 z4 tu tl bd bm d0 d1 d2 d3 d4 d5) H := hP.perm (pm_nil _).symm
        have hD : va_D A (wB G be beD kn z2 z3 z4 tu tl bd bm d0 d1 d2 d3 d4 d5) := hD.perm (pm_nil _).symm
        try dsimp only at h
        refine lv_if_eq (tgt := 56) hx hb dX0_extend_45 (by decide) (fun c_18 => ?_) (fun c_18 => ?_)
        · have h := h.1 c_18
          refine lv_iinc (v := (x7 + (1 : Int32))) (lv' := [(4, .int (x7 + (1 : Int32))), (0, .ref (be 0)), (1, .int (nI 5)), (3, .int a3)]) hx hb dX0_extend_56 hl (k := 3) rfl rfl (by decide) rfl (fun ls hl => ?_)
          refine lv_goto (tgt := 16) hx hb dX0_extend_59 (by decide) ?_
          obtain ⟨n20, hn19, hI21⟩ := h
          exact ih12 n20 (x7 + (1 : Int32)) hn19 hI21 _ _ _ ⟨hP, hD, hS, lv_sub hl [1, 2, 3, 0] rfl⟩
        · have h := h.2 c_18
          refine lv_aload_n hx hb dX0_extend_48 rfl (lv_at hl 0 rfl) ?_
          refine lv_iload_n hx hb dX0_extend_49 rfl (lv_at hl 1 rfl) ?_
          refine lv_iload hx hb dX0_extend_50 (lv_at hl 3 rfl) ?_
          refine lv_iload_n hx hb dX0_extend_52 rfl (lv_at hl 2 rfl) ?_
          refine kp_v (wr := ([] : va_W)) (va_runV (As := [.int (nI 5), .int x7, .int a3]) (rest := []) ⟨hx, hb, hml, hown, hts⟩ (c_X0_tryLowers_5 l G be beD _ kn z2 z3 z4 tu tl bd bm d0 d1 d2 d3 d4 d5 x7 a3 h) (cwV 3 hts gX0_extend_X0_tryLowers rfl rfl rfl (by decide +kernel) ⟨Nat.le_of_ble_eq_true rfl, Nat.le_of_ble_eq_true rfl⟩) (kpVp hK hP hD hZ hS hA (pm_all _) (q0 := 0) (ci := 0) rfl rfl) rfl rfl hl.1 rfl (lv_room (Nat.le_of_ble_eq_true rfl)) dX0_extend_53 ⟨Nat.zero_le _, Nat.zero_le _⟩) hP hD hS hA (pm_all _) (fun w26 H locs h hP hD hS => ?_)
          have hP : va_P G.1 vwCl (wB G be beD kn z2 z3 z4 tu tl bd bm d0 d1 d2 d3 d4 d5) H := hP.perm (pm_all _).symm
          have hD : va_D A (wB G be beD kn z2 z3 z4 tu tl bd bm d0 d1 d2 d3 d4 d5) := hD.perm (pm_all _).symm
          try dsimp only at h
          refine lv_iinc (v := (x7 + (1 : Int32))) (lv' := [(4, .int (x7 + (1 : Int32))), (0, .ref (be 0)), (1, .int (nI 5)), (3, .int a3)]) hx hb dX0_extend_56 hl (k := 3) rfl rfl (by decide) rfl (fun ls hl => ?_)
          refine lv_goto (tgt := 16) hx hb dX0_extend_59 (by decide) ?_
          obtain ⟨n24, hn23, hI25⟩ := h
          exact ih12 n24 (x7 + (1 : Int32)) hn23 hI25 _ _ _ ⟨hP, hD, hS, lv_sub hl [1, 2, 3, 0] rfl⟩
      · have h := h.2 c_16
        exact W.vret hx hb hr (fun t ht hW => ⟨⟨(z2, z3, z4), rfl, h, by rw [ht]; exact hP, hD⟩, hS.F ht⟩) hS.2.2 dX0_extend_38
  · refine lv_icmp_le (tgt := 13) hx hb dX0_extend_5 (by decide) (fun c_1 => ?_) (fun c_1 => ?_)
    · have h := h.1 c_1
      exact join6 (ct, bu, bl) h _ _ _ ⟨hP, hD, hS, lv_sub hl [0, 1, 2, 3] rfl⟩
    · have h := h.2 c_1
      refine lv_aload_n hx hb dX0_extend_8 rfl (lv_at hl 0 rfl) ?_
      refine lv_iload_n hx hb dX0_extend_9 rfl (lv_at hl 1 rfl) ?_
      refine kp_v (wr := ([] : va_W)) (va_runV (As := [.int (nI 5)]) (rest := []) ⟨hx, hb, hml, hown, hts⟩ (c_X0_keep_5 l G be beD _ kn ct bu bl tu tl bd bm d0 d1 d2 d3 d4 d5  h) (cwV 1 hts gX0_extend_X0_keep rfl rfl rfl (by decide +kernel) ⟨Nat.le_of_ble_eq_true rfl, Nat.le_of_ble_eq_true rfl⟩) (kpVp hK hP hD hZ hS hA (pm_all _) (q0 := 0) (ci := 0) rfl rfl) rfl rfl hl.1 rfl (lv_room (Nat.le_of_ble_eq_true rfl)) dX0_extend_10 ⟨Nat.zero_le _, Nat.zero_le _⟩) hP hD hS hA (pm_all _) (fun w33 H locs h hP hD hS => ?_)
      obtain ⟨u30, u31, u32⟩ := w33
      have hP : va_P G.1 vwCl (wB G be beD kn u30 u31 u32 tu tl bd bm d0 d1 d2 d3 d4 d5) H := hP.perm (pm_all _).symm
      have hD : va_D A (wB G be beD kn u30 u31 u32 tu tl bd bm d0 d1 d2 d3 d4 d5) := hD.perm (pm_all _).symm
      try dsimp only at h
      exact join6 (u30, u31, u32) h _ _ _ ⟨hP, hD, hS, lv_sub hl [0, 1, 2, 3] rfl⟩
def wp_X0_tryLowers_4 (a2 : Int32) (a3 : Int32) (ct : Int32) (bu : Nat → Int32) (bl : Nat → Int32) (tu : Nat → Int32) (tl : Nat → Int32) (bd : Nat → Int32) (bm : Nat → Int32) (d4 : Nat → Int32) (d5 : Nat → Int32) (K : Int32 → (Nat → Int32) → (Nat → Int32) → (Nat → Int32) → (Nat → Int32) → (Nat → Int32) → Prop) : Prop :=
 (vp_in a2 10 ∧ (Lp7 (0 : Int32) ct bu bl tu tl d5 (fun (x3 : Int32) (z4 : Int32) (z5 : Nat → Int32) (z6 : Nat → Int32) (z7 : Nat → Int32) (z8 : Nat → Int32) (z9 : Nat → Int32) (J13 : Int32 → Int32 → (Nat → Int32) → (Nat → Int32) → (Nat → Int32) → (Nat → Int32) → (Nat → Int32) → Prop) => (((nI 10) ≤ x3 → K z4 z5 z6 z7 z8 z9) ∧
 (¬ ((nI 10) ≤ x3) → wp_X5_contains ((bm a2.toNatClampNeg) &&& a3) x3 (fun (r17 : Int32) => ((r17 = 0 → J13 (x3 + (1 : Int32)) z4 z5 z6 z7 z8 z9) ∧
 (¬ (r17 = 0) → (vp_in a2 10 ∧ (vp_in x3 10 ∧ wp_X1_allow (bd a2.toNatClampNeg) (bd x3.toNatClampNeg) d4 (fun (r24 : Int32) => ((r24 = 0 → J13 (x3 + (1 : Int32)) z4 z5 z6 z7 z8 z9) ∧
 (¬ (r24 = 0) → wp_X1_copyFrom z9 d4 (fun (u30 : Nat → Int32) => (vp_in a2 10 ∧ (vp_in x3 10 ∧ wp_X1_add (bd a2.toNatClampNeg) (bd x3.toNatClampNeg) u30 (fun (u34 : Nat → Int32) => wp_X0_extend_5 (a2 + (1 : Int32)) (a3 &&& (((jshl (1 : Int32) a2) ||| (jshl (1 : Int32) x3)) ^^^ (-1 : Int32))) z4 z5 z6 (upd z7 4 a2) (upd z8 4 x3) (fun (u36 : Int32) (u37 : Nat → Int32) (u38 : Nat → Int32) => J13 (x3 + (1 : Int32)) u36 u37 u38 (upd z7 4 a2) (upd z8 4 x3) u34))))))))))))))))))
abbrev rm_X0_tryLowers_4 : Room := { frames := 4, cells := 0, slots := 0, locals := 107 }
set_option maxHeartbeats 4000000 in
set_option maxRecDepth 100000 in
theorem c_X0_tryLowers_4 (l : Launch) (G : GG) (be : Nat → Nat) (beD : Nat → Nat → Nat) (sz : Nat) (kn : Int32) (ct : Int32) (bu : Nat → Int32) (bl : Nat → Int32) (tu : Nat → Int32) (tl : Nat → Int32) (bd : Nat → Int32) (bm : Nat → Int32) (d0 : Nat → Int32) (d1 : Nat → Int32) (d2 : Nat → Int32) (d3 : Nat → Int32) (d4 : Nat → Int32) (d5 : Nat → Int32) (a2 : Int32) (a3 : Int32) {K : Int32 → (Nat → Int32) → (Nat → Int32) → (Nat → Int32) → (Nat → Int32) → (Nat → Int32) → Prop} (h : wp_X0_tryLowers_4 a2 a3 ct bu bl tu tl bd bm d4 d5 K) : CV l yX0_tryLowers wsX0_tryLowers rm_X0_tryLowers_4 G [.ref (be 0), .int (nI 4), .int a2, .int a3] (wB G be beD kn ct bu bl tu tl bd bm d0 d1 d2 d3 d4 d5) sz (fun u : Int32 × (Nat → Int32) × (Nat → Int32) × (Nat → Int32) × (Nat → Int32) × (Nat → Int32) => wB G be beD kn u.1 u.2.1 u.2.2.1 u.2.2.2.1 u.2.2.2.2.1 bd bm d0 d1 d2 d3 d4 u.2.2.2.2.2) (fun u => K u.1 u.2.1 u.2.2.1 u.2.2.2.1 u.2.2.2.2.1 u.2.2.2.2.2) := by
  refine Met.ofW (cc := cX0_tryLowers) (maxL := 6) (ret := none) (by decide) rfl ?_
  intro p e s m args below meth c s₁ B hml hv
  obtain ⟨rfl, hsz, hP, hK, hD0, hZ⟩ := hv
  have hx := B.exec
  have hb := B.bytes
  have hr := B.returns
  have hts := atoms_spec (ws := wsX0_tryLowers) B.pre
  have hown : s.vm.findClass RX0 = some m.cls := findClass_of_methodNamed B.named
  have hlocks := B.notSynchronized
  subst hsz
  have hD := hD0.self (sz := s.heap.size)
  generalize hAe : va_A (wB G be beD kn ct bu bl tu tl bd bm d0 d1 d2 d3 d4 d5) s.heap.size = A at hD hZ ⊢
  have hA : ∀ q : Nat, s.heap.size ≤ q → A q := fun q h => by rw [← hAe]; exact Or.inr h
  have hS : va_S A s.heap s.heap [] := va_S.rf
  have hl := lv_entry ([.ref (be 0), .int (nI 4), .int a2, .int a3]) (n := 6) (Nat.le_of_ble_eq_true rfl)
  rw [lg_entry_eq]
  generalize (lg_sl ([.ref (be 0), .int (nI 4), .int a2, .int a3]) ++ List.replicate (6 - (lg_sl ([.ref (be 0), .int (nI 4), .int a2, .int a3])).length) Slot.unset).toArray = ls at hl ⊢
  have hl : lv_has ls 6 [(0, .ref (be 0)), (1, .int (nI 4)), (2, .int a2), (3, .int a3)] := hl
  unfold wp_X0_tryLowers_4 at h
  have hinX0 : ∀ w ∈ wsX00, w ∈ wsX0_tryLowers := by decide +kernel
  refine lv_iload_n hx hb dX0_tryLowers_0 rfl (lv_at hl 1 rfl) ?_
  refine lv_iconst (v := (nI 5)) hx hb dX0_tryLowers_1 (by decide) ?_
  refine lv_icmp_lt (tgt := 6) hx hb dX0_tryLowers_2 (by decide) (fun _ => ?_) (fun c_1 => absurd c_1 (by decide))
  refine lv_aload_n hx hb dX0_tryLowers_6 rfl (lv_at hl 0 rfl) ?_
  refine va_get (D := G.1) (ci := 0) (v := .ref (be 6)) (C := RX0) (T := TX0) (N := 9) hx hb hts hinX0 hown hK.1 hP 0 rfl rfl 7 (by decide) (hts (.fieldLink RX0 35 "PlaFolder$BestFolding" "mates" "[I") (by decide +kernel)) (fun _ h9 => h9) rfl dX0_tryLowers_7 ?_
  refine lv_iload_n hx hb dX0_tryLowers_10 rfl (lv_at hl 2 rfl) ?_
  obtain ⟨hi2, h⟩ := h
  refine x_iald hx hb hK hP 6 rfl hi2 rfl dX0_tryLowers_11 ?_
  refine lv_iload_n hx hb dX0_tryLowers_12 rfl (lv_at hl 3 rfl) ?_
  refine lv_iand hx hb dX0_tryLowers_13 ?_
  refine lv_istore (lv' := [(4, .int ((bm a2.toNatClampNeg) &&& a3)), (0, .ref (be 0)), (1, .int (nI 4)), (2, .int a2), (3, .int a3)]) hx hb dX0_tryLowers_14 hl (by decide) rfl (fun ls hl => ?_)
  refine lv_iconst (v := (0 : Int32)) hx hb dX0_tryLowers_16 (by decide) ?_
  refine lv_istore (lv' := [(5, .int (0 : Int32)), (4, .int ((bm a2.toNatClampNeg) &&& a3)), (0, .ref (be 0)), (1, .int (nI 4)), (2, .int a2), (3, .int a3)]) hx hb dX0_tryLowers_17 hl (by decide) rfl (fun ls hl => ?_)
  obtain ⟨I10, n11, h0, hst12⟩ := h
  refine loopW (σ := Int32 × Int32 × (Nat → Int32) × (Nat → Int32) × (Nat → Int32) × (Nat → Int32) × (Nat → Int32)) (P := fun q H locs ls => va_P G.1 vwCl (wB G be beD kn q.2.1 q.2.2.1 q.2.2.2.1 q.2.2.2.2.1 q.2.2.2.2.2.1 bd bm d0 d1 d2 d3 d4 q.2.2.2.2.2.2) H ∧ va_D A (wB G be beD kn q.2.1 q.2.2.1 q.2.2.2.1 q.2.2.2.2.1 q.2.2.2.2.2.1 bd bm d0 d1 d2 d3 d4 q.2.2.2.2.2.2) ∧ va_S A s.heap H locs ∧ lv_has ls 6 [(0, .ref (be 0)), (1, .int (nI 4)), (2, .int a2), (3, .int a3), (4, .int ((bm a2.toNatClampNeg) &&& a3)), (5, .int q.1)]) (I := fun n q => I10 n q.1 q.2.1 q.2.2.1 q.2.2.2.1 q.2.2.2.2.1 q.2.2.2.2.2.1 q.2.2.2.2.2.2) n11 ((0 : Int32), ct, bu, bl, tu, tl, d5) h0 _ _ _ ⟨hP, hD, hS, lv_sub hl [2, 3, 4, 5, 1, 0] rfl⟩ ?_
  rintro n15 ⟨x3, z4, z5, z6, z7, z8, z9⟩ hI ih14 H locs ls ⟨hP, hD, hS, hl⟩
  have hP : va_P G.1 vwCl (wB G be beD kn z4 z5 z6 z7 z8 bd bm d0 d1 d2 d3 d4 z9) H := hP
  have hD : va_D A (wB G be beD kn z4 z5 z6 z7 z8 bd bm d0 d1 d2 d3 d4 z9) := hD
  have hl : lv_has ls 6 [(0, .ref (be 0)), (1, .int (nI 4)), (2, .int a2), (3, .int a3), (4, .int ((bm a2.toNatClampNeg) &&& a3)), (5, .int x3)] := hl
  have h := hst12 n15 x3 z4 z5 z6 z7 z8 z9 hI
  refine lv_iload hx hb dX0_tryLowers_19 (lv_at hl 5 rfl) ?_
  refine lv_bipush (v := (nI 10)) hx hb dX0_tryLowers_21 (by decide) ?_
  refine lv_icmp_ge (tgt := 145) hx hb dX0_tryLowers_23 (by decide) (fun c_16 => ?_) (fun c_16 => ?_)
  · have h := h.1 c_16
    exact W.vret hx hb hr (fun t ht hW => ⟨⟨(z4, z5, z6, z7, z8, z9), rfl, h, by rw [ht]; exact hP, hD⟩, hS.F ht⟩) hS.2.2 dX0_tryLowers_145
  · have h := h.2 c_16
    refine lv_iload hx hb dX0_tryLowers_26 (lv_at hl 4 rfl) ?_
    refine lv_iload hx hb dX0_tryLowers_28 (lv_at hl 5 rfl) ?_
    refine kp_i (wr := wB G be beD kn z4 z5 z6 z7 z8 bd bm d0 d1 d2 d3 d4 z9) (va_runSN (As := [.int ((bm a2.toNatClampNeg) &&& a3), .int x3]) (rest := []) ⟨hx, hb, hml, hown, hts⟩ (c_X5_contains l G  _  ((bm a2.toNatClampNeg) &&& a3) x3 h) ⟨va_cnB 2 hts gX0_tryLowers_X5_contains_n79 rfl rfl rfl (hK.2.M 35 (q := ("PlaFolder$BestFolding", 79, ⟨"PlaFolder", "contains", "(II)Z"⟩, "PlaFolder")) rfl) (hts (.initialized RX5) (by decide +kernel)) (by decide +kernel) ⟨Nat.le_of_ble_eq_true rfl, Nat.le_of_ble_eq_true rfl⟩, hts (.static yX5_contains) (by decide +kernel), trivial⟩ (kpSp hK hP hD hZ hS hA (pm_nil _)) rfl rfl hl.1 rfl (lv_room (Nat.le_of_ble_eq_true rfl)) dX0_tryLowers_30 ⟨Nat.zero_le _, Nat.zero_le _⟩) hP hD hS hA (pm_nil _) (fun r17 w46 H locs h hP hD hS => ?_)
    have hP : va_P G.1 vwCl (wB G be beD kn z4 z5 z6 z7 z8 bd bm d0 d1 d2 d3 d4 z9) H := hP.perm (pm_nil _).symm
    have hD : va_D A (wB G be beD kn z4 z5 z6 z7 z8 bd bm d0 d1 d2 d3 d4 z9) := hD.perm (pm_nil _).symm
    try dsimp only at h
    refine lv_if_eq (tgt := 139) hx hb dX0_tryLowers_33 (by decide) (fun c_18 => ?_) (fun c_18 => ?_)
    · have h := h.1 c_18
      refine lv_iinc (v := (x3 + (1 : Int32))) (lv' := [(5, .int (x3 + (1 : Int32))), (0, .ref (be 0)), (1, .int (nI 4)), (2, .int a2), (3, .int a3), (4, .int ((bm a2.toNatClampNeg) &&& a3))]) hx hb dX0_tryLowers_139 hl (k := 5) rfl rfl (by decide) rfl (fun ls hl => ?_)
      refine lv_goto (tgt := 19) hx hb dX0_tryLowers_142 (by decide) ?_
      obtain ⟨n20, hn19, hI21⟩ := h
      exact ih14 n20 ((x3 + (1 : Int32)), z4, z5, z6, z7, z8, z9) hn19 hI21 _ _ _ ⟨hP, hD, hS, lv_sub hl [1, 2, 3, 4, 5, 0] rfl⟩
    · have h := h.2 c_18
      refine lv_aload_n hx hb dX0_tryLowers_36 rfl (lv_at hl 0 rfl) ?_
      refine va_get (D := G.1) (ci := 0) (v := .ref (be 7)) (C := RX0) (T := TX0) (N := 9) hx hb hts hinX0 hown hK.1 hP 0 rfl rfl 8 (by decide) (hts (.fieldLink RX0 40 "PlaFolder$BestFolding" "demandsAt" "[LPlaFolder$Demands;") (by decide +kernel)) (fun _ h9 => h9) rfl dX0_tryLowers_37 ?_
      refine lv_iload_n hx hb dX0_tryLowers_40 rfl (lv_at hl 1 rfl) ?_
      refine x_aldq hx hb hK hP 7 2 rfl rfl (vin_c (by decide)) (k := 4) (by decide) (a2 := beD 4 0) rfl dX0_tryLowers_41 ?_
      refine lv_aload_n hx hb dX0_tryLowers_42 rfl (lv_at hl 0 rfl) ?_
      refine va_get (D := G.1) (ci := 0) (v := .ref (be 5)) (C := RX0) (T := TX0) (N := 9) hx hb hts hinX0 hown hK.1 hP 0 rfl rfl 6 (by decide) (hts (.fieldLink RX0 32 "PlaFolder$BestFolding" "used" "[I") (by decide +kernel)) (fun _ h9 => h9) rfl dX0_tryLowers_43 ?_
      refine lv_iload_n hx hb dX0_tryLowers_46 rfl (lv_at hl 2 rfl) ?_
      obtain ⟨hi22, h⟩ := h
      refine x_iald hx hb hK hP 5 rfl hi22 rfl dX0_tryLowers_47 ?_
      refine lv_aload_n hx hb dX0_tryLowers_48 rfl (lv_at hl 0 rfl) ?_
      refine va_get (D := G.1) (ci := 0) (v := .ref (be 5)) (C := RX0) (T := TX0) (N := 9) hx hb hts hinX0 hown hK.1 hP 0 rfl rfl 6 (by decide) (hts (.fieldLink RX0 32 "PlaFolder$BestFolding" "used" "[I") (by decide +kernel)) (fun _ h9 => h9) rfl dX0_tryLowers_49 ?_
      refine lv_iload hx hb dX0_tryLowers_52 (lv_at hl 5 rfl) ?_
      obtain ⟨hi23, h⟩ := h
      refine x_iald hx hb hK hP 5 rfl hi23 rfl dX0_tryLowers_54 ?_
      refine kp_i (wr := wB0 G be beD kn z4 z5 z6 z7 z8 bd bm ++ (wD G (beD 0) d0 ++ (wD G (beD 1) d1 ++ (wD G (beD 2) d2 ++ (wD G (beD 3) d3 ++ (wD G (beD 5) z9)))))) (va_runVN (As := [.int (bd a2.toNatClampNeg), .int (bd x3.toNatClampNeg)]) (rest := []) ⟨hx, hb, hml, hown, hts⟩ (c_X1_allow l G (beD 4) _ d4 (bd a2.toNatClampNeg) (bd x3.toNatClampNeg) h) ⟨va_cnB 2 hts gX0_tryLowers_X1_allow_n85 rfl rfl rfl (hK.2.M 36 (q := ("PlaFolder$BestFolding", 85, ⟨"PlaFolder$Demands", "allow", "(II)Z"⟩, "PlaFolder")) rfl) (hts (.initialized RX1) (by decide +kernel)) (by decide +kernel) ⟨Nat.le_of_ble_eq_true rfl, Nat.le_of_ble_eq_true rfl⟩, hts (.instanceMethod yX1_allow) (by decide +kernel), hts (.selects RX1 yX1_allow yX1_allow) (by decide +kernel)⟩ (kpVp hK hP hD hZ hS hA (pm7_012346_5 (wB0 G be beD kn z4 z5 z6 z7 z8 bd bm) (wD G (beD 0) d0) (wD G (beD 1) d1) (wD G (beD 2) d2) (wD G (beD 3) d3) (wD G (beD 4) d4) (wD G (beD 5) z9)) (q0 := 0) (ci := 1) rfl rfl) rfl rfl hl.1 rfl (lv_room (Nat.le_of_ble_eq_true rfl)) dX0_tryLowers_55 ⟨Nat.zero_le _, Nat.zero_le _⟩) hP hD hS hA (pm7_012346_5 (wB0 G be beD kn z4 z5 z6 z7 z8 bd bm) (wD G (beD 0) d0) (wD G (beD 1) d1) (wD G (beD 2) d2) (wD G (beD 3) d3) (wD G (beD 4) d4) (wD G (beD 5) z9)) (fun r24 w45 H locs h hP hD hS => ?_)
      have hP : va_P G.1 vwCl (wB G be beD kn z4 z5 z6 z7 z8 bd bm d0 d1 d2 d3 d4 z9) H := hP.perm (pm7_012346_5 (wB0 G be beD kn z4 z5 z6 z7 z8 bd bm) (wD G (beD 0) d0) (wD G (beD 1) d1) (wD G (beD 2) d2) (wD G (beD 3) d3) (wD G (beD 4) d4) (wD G (beD 5) z9)).symm
      have hD : va_D A (wB G be beD kn z4 z5 z6 z7 z8 bd bm d0 d1 d2 d3 d4 z9) := hD.perm (pm7_012346_5 (wB0 G be beD kn z4 z5 z6 z7 z8 bd bm) (wD G (beD 0) d0) (wD G (beD 1) d1) (wD G (beD 2) d2) (wD G (beD 3) d3) (wD G (beD 4) d4) (wD G (beD 5) z9)).symm
      try dsimp only at h
      refine lv_if_eq (tgt := 139) hx hb dX0_tryLowers_58 (by decide) (fun c_25 => ?_) (fun c_25 => ?_)
      · have h := h.1 c_25
        refine lv_iinc (v := (x3 + (1 : Int32))) (lv' := [(5, .int (x3 + (1 : Int32))), (0, .ref (be 0)), (1, .int (nI 4)), (2, .int a2), (3, .int a3), (4, .int ((bm a2.toNatClampNeg) &&& a3))]) hx hb dX0_tryLowers_139 hl (k := 5) rfl rfl (by decide) rfl (fun ls hl => ?_)
        refine lv_goto (tgt := 19) hx hb dX0_tryLowers_142 (by decide) ?_
        obtain ⟨n27, hn26, hI28⟩ := h
        exact ih14 n27 ((x3 + (1 : Int32)), z4, z5, z6, z7, z8, z9) hn26 hI28 _ _ _ ⟨hP, hD, hS, lv_sub hl [1, 2, 3, 4, 5, 0] rfl⟩
      · have h := h.2 c_25
        refine lv_aload_n hx hb dX0_tryLowers_61 rfl (lv_at hl 0 rfl) ?_
        refine va_get (D := G.1) (ci := 0) (v := .ref (be 3)) (C := RX0) (T := TX0) (N := 9) hx hb hts hinX0 hown hK.1 hP 0 rfl rfl 4 (by decide) (hts (.fieldLink RX0 26 "PlaFolder$BestFolding" "triedUpper" "[I") (by decide +kernel)) (fun _ h9 => h9) rfl dX0_tryLowers_62 ?_
        refine lv_iload_n hx hb dX0_tryLowers_65 rfl (lv_at hl 1 rfl) ?_
        refine lv_iload_n hx hb dX0_tryLowers_66 rfl (lv_at hl 2 rfl) ?_
        refine x_iast hx hb hK hP hD hS 3 rfl (vin_c (by decide)) (k := 4) (by decide) dX0_tryLowers_67 (fun H locs hP hD hS => ?_)
        have hP : va_P G.1 vwCl (wB G be beD kn z4 z5 z6 (upd z7 4 a2) z8 bd bm d0 d1 d2 d3 d4 z9) H := hP
        have hD : va_D A (wB G be beD kn z4 z5 z6 (upd z7 4 a2) z8 bd bm d0 d1 d2 d3 d4 z9) := hD
        refine lv_aload_n hx hb dX0_tryLowers_68 rfl (lv_at hl 0 rfl) ?_
        refine va_get (D := G.1) (ci := 0) (v := .ref (be 4)) (C := RX0) (T := TX0) (N := 9) hx hb hts hinX0 hown hK.1 hP 0 rfl rfl 5 (by decide) (hts (.fieldLink RX0 29 "PlaFolder$BestFolding" "triedLower" "[I") (by decide +kernel)) (fun _ h9 => h9) rfl dX0_tryLowers_69 ?_
        refine lv_iload_n hx hb dX0_tryLowers_72 rfl (lv_at hl 1 rfl) ?_
        refine lv_iload hx hb dX0_tryLowers_73 (lv_at hl 5 rfl) ?_
        refine x_iast hx hb hK hP hD hS 4 rfl (vin_c (by decide)) (k := 4) (by decide) dX0_tryLowers_75 (fun H locs hP hD hS => ?_)
        have hP : va_P G.1 vwCl (wB G be beD kn z4 z5 z6 (upd z7 4 a2) (upd z8 4 x3) bd bm d0 d1 d2 d3 d4 z9) H := hP
        have hD : va_D A (wB G be beD kn z4 z5 z6 (upd z7 4 a2) (upd z8 4 x3) bd bm d0 d1 d2 d3 d4 z9) := hD
        refine lv_aload_n hx hb dX0_tryLowers_76 rfl (lv_at hl 0 rfl) ?_
        refine va_get (D := G.1) (ci := 0) (v := .ref (be 7)) (C := RX0) (T := TX0) (N := 9) hx hb hts hinX0 hown hK.1 hP 0 rfl rfl 8 (by decide) (hts (.fieldLink RX0 40 "PlaFolder$BestFolding" "demandsAt" "[LPlaFolder$Demands;") (by decide +kernel)) (fun _ h9 => h9) rfl dX0_tryLowers_77 ?_
        refine lv_iload_n hx hb dX0_tryLowers_80 rfl (lv_at hl 1 rfl) ?_
        refine lv_iconst (v := (1 : Int32)) hx hb dX0_tryLowers_81 (by decide) ?_
        refine lv_iadd hx hb dX0_tryLowers_82 ?_
        refine W.eq (g2 := F0 m 83 ls (.int (nI 5) :: .ref (be 7) :: [])) rfl ?_
        refine x_aldq hx hb hK hP 7 2 rfl rfl (vin_c (by decide)) (k := 5) (by decide) (a2 := beD 5 0) rfl dX0_tryLowers_83 ?_
        refine lv_aload_n hx hb dX0_tryLowers_84 rfl (lv_at hl 0 rfl) ?_
        refine va_get (D := G.1) (ci := 0) (v := .ref (be 7)) (C := RX0) (T := TX0) (N := 9) hx hb hts hinX0 hown hK.1 hP 0 rfl rfl 8 (by decide) (hts (.fieldLink RX0 40 "PlaFolder$BestFolding" "demandsAt" "[LPlaFolder$Demands;") (by decide +kernel)) (fun _ h9 => h9) rfl dX0_tryLowers_85 ?_
        refine lv_iload_n hx hb dX0_tryLowers_88 rfl (lv_at hl 1 rfl) ?_
        refine x_aldq hx hb hK hP 7 2 rfl rfl (vin_c (by decide)) (k := 4) (by decide) (a2 := beD 4 0) rfl dX0_tryLowers_89 ?_
        refine kp_v (wr := wB0 G be beD kn z4 z5 z6 (upd z7 4 a2) (upd z8 4 x3) bd bm ++ (wD G (beD 0) d0 ++ (wD G (beD 1) d1 ++ (wD G (beD 2) d2 ++ (wD G (beD 3) d3))))) (va_runVN (As := [.ref (beD 4 0)]) (rest := []) ⟨hx, hb, hml, hown, hts⟩ (c_X1_copyFrom l G (beD 5) (beD 4) _ z9 d4  h) ⟨va_cnB 1 hts gX0_tryLowers_X1_copyFrom_n88 rfl rfl rfl (hK.2.M 37 (q := ("PlaFolder$BestFolding", 88, ⟨"PlaFolder$Demands", "copyFrom", "(LPlaFolder$Demands;)V"⟩, "PlaFolder")) rfl) (hts (.initialized RX1) (by decide +kernel)) (by decide +kernel) ⟨Nat.le_of_ble_eq_true rfl, Nat.le_of_ble_eq_true rfl⟩, hts (.instanceMethod yX1_copyFrom) (by decide +kernel), hts (.selects RX1 yX1_copyFrom yX1_copyFrom) (by decide +kernel)⟩ (kpVp hK hP hD hZ hS hA (pm7_01234_65 (wB0 G be beD kn z4 z5 z6 (upd z7 4 a2) (upd z8 4 x3) bd bm) (wD G (beD 0) d0) (wD G (beD 1) d1) (wD G (beD 2) d2) (wD G (beD 3) d3) (wD G (beD 4) d4) (wD G (beD 5) z9)) (q0 := 0) (ci := 1) rfl rfl) rfl rfl hl.1 rfl (lv_room (Nat.le_of_ble_eq_true rfl)) dX0_tryLowers_90 ⟨Nat.zero_le _, Nat.zero_le _⟩) hP hD hS hA (pm7_01234_65 (wB0 G be beD kn z4 z5 z6 (upd z7 4 a2) (upd z8 4 x3) bd bm) (wD G (beD 0) d0) (wD G (beD 1) d1) (wD G (beD 2) d2) (wD G (beD 3) d3) (wD G (beD 4) d4) (wD G (beD 5) z9)) (fun w44 H locs h hP hD hS => ?_)
        obtain ⟨u30, rfl⟩ : ∃ z, z = w44 := ⟨_, rfl⟩
        have hP : va_P G.1 vwCl (wB G be beD kn z4 z5 z6 (upd z7 4 a2) (upd z8 4 x3) bd bm d0 d1 d2 d3 d4 u30) H := hP.perm (pm7_01234_65 (wB0 G be beD kn z4 z5 z6 (upd z7 4 a2) (upd z8 4 x3) bd bm) (wD G (beD 0) d0) (wD G (beD 1) d1) (wD G (beD 2) d2) (wD G (beD 3) d3) (wD G (beD 4) d4) (wD G (beD 5) u30)).symm
        have hD : va_D A (wB G be beD kn z4 z5 z6 (upd z7 4 a2) (upd z8 4 x3) bd bm d0 d1 d2 d3 d4 u30) := hD.perm (pm7_01234_65 (wB0 G be beD kn z4 z5 z6 (upd z7 4 a2) (upd z8 4 x3) bd bm) (wD G (beD 0) d0) (wD G (beD 1) d1) (wD G (beD 2) d2) (wD G (beD 3) d3) (wD G (beD 4) d4) (wD G (beD 5) u30)).symm
        try dsimp only at h
        refine lv_aload_n hx hb dX0_tryLowers_93 rfl (lv_at hl 0 rfl) ?_
        refine va_get (D := G.1) (ci := 0) (v := .ref (be 7)) (C := RX0) (T := TX0) (N := 9) hx hb hts hinX0 hown hK.1 hP 0 rfl rfl 8 (by decide) (hts (.fieldLink RX0 40 "PlaFolder$BestFolding" "demandsAt" "[LPlaFolder$Demands;") (by decide +kernel)) (fun _ h9 => h9) rfl dX0_tryLowers_94 ?_
        refine lv_iload_n hx hb dX0_tryLowers_97 rfl (lv_at hl 1 rfl) ?_
        refine lv_iconst (v := (1 : Int32)) hx hb dX0_tryLowers_98 (by decide) ?_
        refine lv_iadd hx hb dX0_tryLowers_99 ?_
        refine W.eq (g2 := F0 m 100 ls (.int (nI 5) :: .ref (be 7) :: [])) rfl ?_
        refine x_aldq hx hb hK hP 7 2 rfl rfl (vin_c (by decide)) (k := 5) (by decide) (a2 := beD 5 0) rfl dX0_tryLowers_100 ?_
        refine lv_aload_n hx hb dX0_tryLowers_101 rfl (lv_at hl 0 rfl) ?_
        refine va_get (D := G.1) (ci := 0) (v := .ref (be 5)) (C := RX0) (T := TX0) (N := 9) hx hb hts hinX0 hown hK.1 hP 0 rfl rfl 6 (by decide) (hts (.fieldLink RX0 32 "PlaFolder$BestFolding" "used" "[I") (by decide +kernel)) (fun _ h9 => h9) rfl dX0_tryLowers_102 ?_
        refine lv_iload_n hx hb dX0_tryLowers_105 rfl (lv_at hl 2 rfl) ?_
        obtain ⟨hi31, h⟩ := h
        refine x_iald hx hb hK hP 5 rfl hi31 rfl dX0_tryLowers_106 ?_
        refine lv_aload_n hx hb dX0_tryLowers_107 rfl (lv_at hl 0 rfl) ?_
        refine va_get (D := G.1) (ci := 0) (v := .ref (be 5)) (C := RX0) (T := TX0) (N := 9) hx hb hts hinX0 hown hK.1 hP 0 rfl rfl 6 (by decide) (hts (.fieldLink RX0 32 "PlaFolder$BestFolding" "used" "[I") (by decide +kernel)) (fun _ h9 => h9) rfl dX0_tryLowers_108 ?_
        refine lv_iload hx hb dX0_tryLowers_111 (lv_at hl 5 rfl) ?_
        obtain ⟨hi32, h⟩ := h
        refine x_iald hx hb hK hP 5 rfl hi32 rfl dX0_tryLowers_113 ?_
        refine kp_v (wr := wB0 G be beD kn z4 z5 z6 (upd z7 4 a2) (upd z8 4 x3) bd bm ++ (wD G (beD 0) d0 ++ (wD G (beD 1) d1 ++ (wD G (beD 2) d2 ++ (wD G (beD 3) d3 ++ (wD G (beD 4) d4)))))) (va_runVN (As := [.int (bd a2.toNatClampNeg), .int (bd x3.toNatClampNeg)]) (rest := []) ⟨hx, hb, hml, hown, hts⟩ (c_X1_add l G (beD 5) _ u30 (bd a2.toNatClampNeg) (bd x3.toNatClampNeg) h) ⟨va_cnB 2 hts gX0_tryLowers_X1_add_n92 rfl rfl rfl (hK.2.M 38 (q := ("PlaFolder$BestFolding", 92, ⟨"PlaFolder$Demands", "add", "(II)V"⟩, "PlaFolder")) rfl) (hts (.initialized RX1) (by decide +kernel)) (by decide +kernel) ⟨Nat.le_of_ble_eq_true rfl, Nat.le_of_ble_eq_true rfl⟩, hts (.instanceMethod yX1_add) (by decide +kernel), hts (.selects RX1 yX1_add yX1_add) (by decide +kernel)⟩ (kpVp hK hP hD hZ hS hA (pm7_012345_6 (wB0 G be beD kn z4 z5 z6 (upd z7 4 a2) (upd z8 4 x3) bd bm) (wD G (beD 0) d0) (wD G (beD 1) d1) (wD G (beD 2) d2) (wD G (beD 3) d3) (wD G (beD 4) d4) (wD G (beD 5) u30)) (q0 := 0) (ci := 1) rfl rfl) rfl rfl hl.1 rfl (lv_room (Nat.le_of_ble_eq_true rfl)) dX0_tryLowers_114 ⟨Nat.zero_le _, Nat.zero_le _⟩) hP hD hS hA (pm7_012345_6 (wB0 G be beD kn z4 z5 z6 (upd z7 4 a2) (upd z8 4 x3) bd bm) (wD G (beD 0) d0) (wD G (beD 1) d1) (wD G (beD 2) d2) (wD G (beD 3) d3) (wD G (beD 4) d4) (wD G (beD 5) u30)) (fun w43 H locs h hP hD hS => ?_)
        obtain ⟨u34, rfl⟩ : ∃ z, z = w43 := ⟨_, rfl⟩
        have hP : va_P G.1 vwCl (wB G be beD kn z4 z5 z6 (upd z7 4 a2) (upd z8 4 x3) bd bm d0 d1 d2 d3 d4 u34) H := hP.perm (pm7_012345_6 (wB0 G be beD kn z4 z5 z6 (upd z7 4 a2) (upd z8 4 x3) bd bm) (wD G (beD 0) d0) (wD G (beD 1) d1) (wD G (beD 2) d2) (wD G (beD 3) d3) (wD G (beD 4) d4) (wD G (beD 5) u34)).symm
        have hD : va_D A (wB G be beD kn z4 z5 z6 (upd z7 4 a2) (upd z8 4 x3) bd bm d0 d1 d2 d3 d4 u34) := hD.perm (pm7_012345_6 (wB0 G be beD kn z4 z5 z6 (upd z7 4 a2) (upd z8 4 x3) bd bm) (wD G (beD 0) d0) (wD G (beD 1) d1) (wD G (beD 2) d2) (wD G (beD 3) d3) (wD G (beD 4) d4) (wD G (beD 5) u34)).symm
        try dsimp only at h
        refine lv_aload_n hx hb dX0_tryLowers_117 rfl (lv_at hl 0 rfl) ?_
        refine lv_iload_n hx hb dX0_tryLowers_118 rfl (lv_at hl 1 rfl) ?_
        refine lv_iconst (v := (1 : Int32)) hx hb dX0_tryLowers_119 (by decide) ?_
        refine lv_iadd hx hb dX0_tryLowers_120 ?_
        refine W.eq (g2 := F0 m 121 ls (.int (nI 5) :: .ref (be 0) :: [])) rfl ?_
        refine lv_iload_n hx hb dX0_tryLowers_121 rfl (lv_at hl 2 rfl) ?_
        refine lv_iconst (v := (1 : Int32)) hx hb dX0_tryLowers_122 (by decide) ?_
        refine lv_iadd hx hb dX0_tryLowers_123 ?_
        refine lv_iload_n hx hb dX0_tryLowers_124 rfl (lv_at hl 3 rfl) ?_
        refine lv_iconst (v := (1 : Int32)) hx hb dX0_tryLowers_125 (by decide) ?_
        refine lv_iload_n hx hb dX0_tryLowers_126 rfl (lv_at hl 2 rfl) ?_
        refine lv_ishl hx hb dX0_tryLowers_127 ?_
        refine lv_iconst (v := (1 : Int32)) hx hb dX0_tryLowers_128 (by decide) ?_
        refine lv_iload hx hb dX0_tryLowers_129 (lv_at hl 5 rfl) ?_
        refine lv_ishl hx hb dX0_tryLowers_131 ?_
        refine lv_ior hx hb dX0_tryLowers_132 ?_
        refine lv_iconst (v := (-1 : Int32)) hx hb dX0_tryLowers_133 (by decide) ?_
        refine lv_ixor hx hb dX0_tryLowers_134 ?_
        refine lv_iand hx hb dX0_tryLowers_135 ?_
        refine kp_v (wr := ([] : va_W)) (va_runV (As := [.int (nI 5), .int (a2 + (1 : Int32)), .int (a3 &&& (((jshl (1 : Int32) a2) ||| (jshl (1 : Int32) x3)) ^^^ (-1 : Int32)))]) (rest := []) ⟨hx, hb, hml, hown, hts⟩ (c_X0_extend_5 l G be beD _ kn z4 z5 z6 (upd z7 4 a2) (upd z8 4 x3) bd bm d0 d1 d2 d3 d4 u34 (a2 + (1 : Int32)) (a3 &&& (((jshl (1 : Int32) a2) ||| (jshl (1 : Int32) x3)) ^^^ (-1 : Int32))) h) (cwV 3 hts gX0_tryLowers_X0_extend rfl rfl rfl (by decide +kernel) ⟨Nat.le_of_ble_eq_true rfl, Nat.le_of_ble_eq_true rfl⟩) (kpVp hK hP hD hZ hS hA (pm_all _) (q0 := 0) (ci := 0) rfl rfl) rfl rfl hl.1 rfl (lv_room (Nat.le_of_ble_eq_true rfl)) dX0_tryLowers_136 ⟨Nat.zero_le _, Nat.zero_le _⟩) hP hD hS hA (pm_all _) (fun w42 H locs h hP hD hS => ?_)
        obtain ⟨u36, u37, u38⟩ := w42
        have hP : va_P G.1 vwCl (wB G be beD kn u36 u37 u38 (upd z7 4 a2) (upd z8 4 x3) bd bm d0 d1 d2 d3 d4 u34) H := hP.perm (pm_all _).symm
        have hD : va_D A (wB G be beD kn u36 u37 u38 (upd z7 4 a2) (upd z8 4 x3) bd bm d0 d1 d2 d3 d4 u34) := hD.perm (pm_all _).symm
        try dsimp only at h
        refine lv_iinc (v := (x3 + (1 : Int32))) (lv' := [(5, .int (x3 + (1 : Int32))), (0, .ref (be 0)), (1, .int (nI 4)), (2, .int a2), (3, .int a3), (4, .int ((bm a2.toNatClampNeg) &&& a3))]) hx hb dX0_tryLowers_139 hl (k := 5) rfl rfl (by decide) rfl (fun ls hl => ?_)
        refine lv_goto (tgt := 19) hx hb dX0_tryLowers_142 (by decide) ?_
        obtain ⟨n40, hn39, hI41⟩ := h
        exact ih14 n40 ((x3 + (1 : Int32)), u36, u37, u38, (upd z7 4 a2), (upd z8 4 x3), u34) hn39 hI41 _ _ _ ⟨hP, hD, hS, lv_sub hl [1, 2, 3, 4, 5, 0] rfl⟩
def wp_X0_extend_4 (a2 : Int32) (a3 : Int32) (ct : Int32) (bu : Nat → Int32) (bl : Nat → Int32) (tu : Nat → Int32) (tl : Nat → Int32) (bd : Nat → Int32) (bm : Nat → Int32) (d4 : Nat → Int32) (d5 : Nat → Int32) (K : Int32 → (Nat → Int32) → (Nat → Int32) → (Nat → Int32) → (Nat → Int32) → (Nat → Int32) → Prop) : Prop :=
 (Jn3 (fun (z2 : Int32) (z3 : Nat → Int32) (z4 : Nat → Int32) => (Lp7 a2 z2 z3 z4 tu tl d5 (fun (x7 : Int32) (z8 : Int32) (z9 : Nat → Int32) (z10 : Nat → Int32) (z11 : Nat → Int32) (z12 : Nat → Int32) (z13 : Nat → Int32) (J17 : Int32 → Int32 → (Nat → Int32) → (Nat → Int32) → (Nat → Int32) → (Nat → Int32) → (Nat → Int32) → Prop) => (((nI 10) ≤ x7 → K z8 z9 z10 z11 z12 z13) ∧
 (¬ ((nI 10) ≤ x7) → wp_X0_mostFolds a3 x7 (fun (r21 : Int32) => ((z8 < ((nI 4) + r21) → wp_X5_contains a3 x7 (fun (r23 : Int32) => ((r23 = 0 → J17 (x7 + (1 : Int32)) z8 z9 z10 z11 z12 z13) ∧
 (¬ (r23 = 0) → wp_X0_tryLowers_4 x7 a3 z8 z9 z10 z11 z12 bd bm d4 z13 (fun (u29 : Int32) (u30 : Nat → Int32) (u31 : Nat → Int32) (u32 : Nat → Int32) (u33 : Nat → Int32) (u34 : Nat → Int32) => J17 (x7 + (1 : Int32)) u29 u30 u31 u32 u33 u34))))) ∧
 (¬ (z8 < ((nI 4) + r21)) → K z8 z9 z10 z11 z12 z13))))))))
 (fun (J5 : Int32 → (Nat → Int32) → (Nat → Int32) → Prop) => (((nI 4) ≤ ct → J5 ct bu bl) ∧
 (¬ ((nI 4) ≤ ct) → wp_X0_keep_4 ct bu bl tu tl (fun (u42 : Int32) (u43 : Nat → Int32) (u44 : Nat → Int32) => J5 u42 u43 u44)))))
abbrev rm_X0_extend_4 : Room := { frames := 5, cells := 0, slots := 0, locals := 132 }
set_option maxHeartbeats 4000000 in
set_option maxRecDepth 100000 in
theorem c_X0_extend_4 (l : Launch) (G : GG) (be : Nat → Nat) (beD : Nat → Nat → Nat) (sz : Nat) (kn : Int32) (ct : Int32) (bu : Nat → Int32) (bl : Nat → Int32) (tu : Nat → Int32) (tl : Nat → Int32) (bd : Nat → Int32) (bm : Nat → Int32) (d0 : Nat → Int32) (d1 : Nat → Int32) (d2 : Nat → Int32) (d3 : Nat → Int32) (d4 : Nat → Int32) (d5 : Nat → Int32) (a2 : Int32) (a3 : Int32) {K : Int32 → (Nat → Int32) → (Nat → Int32) → (Nat → Int32) → (Nat → Int32) → (Nat → Int32) → Prop} (h : wp_X0_extend_4 a2 a3 ct bu bl tu tl bd bm d4 d5 K) : CV l yX0_extend wsX0_extend rm_X0_extend_4 G [.ref (be 0), .int (nI 4), .int a2, .int a3] (wB G be beD kn ct bu bl tu tl bd bm d0 d1 d2 d3 d4 d5) sz (fun u : Int32 × (Nat → Int32) × (Nat → Int32) × (Nat → Int32) × (Nat → Int32) × (Nat → Int32) => wB G be beD kn u.1 u.2.1 u.2.2.1 u.2.2.2.1 u.2.2.2.2.1 bd bm d0 d1 d2 d3 d4 u.2.2.2.2.2) (fun u => K u.1 u.2.1 u.2.2.1 u.2.2.2.1 u.2.2.2.2.1 u.2.2.2.2.2) := by
  refine Met.ofW (cc := cX0_extend) (maxL := 5) (ret := none) (by decide) rfl ?_
  intro p e s m args below meth c s₁ B hml hv
  obtain ⟨rfl, hsz, hP, hK, hD0, hZ⟩ := hv
  have hx := B.exec
  have hb := B.bytes
  have hr := B.returns
  have hts := atoms_spec (ws := wsX0_extend) B.pre
  have hown : s.vm.findClass RX0 = some m.cls := findClass_of_methodNamed B.named
  have hlocks := B.notSynchronized
  subst hsz
  have hD := hD0.self (sz := s.heap.size)
  generalize hAe : va_A (wB G be beD kn ct bu bl tu tl bd bm d0 d1 d2 d3 d4 d5) s.heap.size = A at hD hZ ⊢
  have hA : ∀ q : Nat, s.heap.size ≤ q → A q := fun q h => by rw [← hAe]; exact Or.inr h
  have hS : va_S A s.heap s.heap [] := va_S.rf
  have hl := lv_entry ([.ref (be 0), .int (nI 4), .int a2, .int a3]) (n := 5) (Nat.le_of_ble_eq_true rfl)
  rw [lg_entry_eq]
  generalize (lg_sl ([.ref (be 0), .int (nI 4), .int a2, .int a3]) ++ List.replicate (5 - (lg_sl ([.ref (be 0), .int (nI 4), .int a2, .int a3])).length) Slot.unset).toArray = ls at hl ⊢
  have hl : lv_has ls 5 [(0, .ref (be 0)), (1, .int (nI 4)), (2, .int a2), (3, .int a3)] := hl
  unfold wp_X0_extend_4 at h
  have hinX0 : ∀ w ∈ wsX00, w ∈ wsX0_extend := by decide +kernel
  refine lv_iload_n hx hb dX0_extend_0 rfl (lv_at hl 1 rfl) ?_
  refine lv_aload_n hx hb dX0_extend_1 rfl (lv_at hl 0 rfl) ?_
  refine va_get (D := G.1) (ci := 0) (v := .int ct) (C := RX0) (T := TX0) (N := 9) hx hb hts hinX0 hown hK.1 hP 0 rfl rfl 1 (by decide) (hts (.fieldLink RX0 15 "PlaFolder$BestFolding" "count" "I") (by decide +kernel)) (fun _ h9 => h9) rfl dX0_extend_2 ?_
  obtain ⟨J5, hJ46, h⟩ := h
  refine joinW (σ := Int32 × (Nat → Int32) × (Nat → Int32)) (J := fun q => J5 q.1 q.2.1 q.2.2) (pc := 13) (st := fun q => []) (P := fun q H locs ls => va_P G.1 vwCl (wB G be beD kn q.1 q.2.1 q.2.2 tu tl bd bm d0 d1 d2 d3 d4 d5) H ∧ va_D A (wB G be beD kn q.1 q.2.1 q.2.2 tu tl bd bm d0 d1 d2 d3 d4 d5) ∧ va_S A s.heap H locs ∧ lv_has ls 5 [(0, .ref (be 0)), (1, .int (nI 4)), (2, .int a2), (3, .int a3)]) ?_ (fun join6 => ?_)
  · rintro ⟨z2, z3, z4⟩ h H locs ls ⟨hP, hD, hS, hl⟩
    have hP : va_P G.1 vwCl (wB G be beD kn z2 z3 z4 tu tl bd bm d0 d1 d2 d3 d4 d5) H := hP
    have hD : va_D A (wB G be beD kn z2 z3 z4 tu tl bd bm d0 d1 d2 d3 d4 d5) := hD
    have hl : lv_has ls 5 [(0, .ref (be 0)), (1, .int (nI 4)), (2, .int a2), (3, .int a3)] := hl
    have h := hJ46 z2 z3 z4 h
    refine W.eq (g2 := F0 m 13 ls ([])) rfl ?_
    refine lv_iload_n hx hb dX0_extend_13 rfl (lv_at hl 2 rfl) ?_
    refine lv_istore (lv' := [(4, .int a2), (0, .ref (be 0)), (1, .int (nI 4)), (2, .int a2), (3, .int a3)]) hx hb dX0_extend_14 hl (by decide) rfl (fun ls hl => ?_)
    obtain ⟨I14, n15, h0, hst16⟩ := h
    refine loopW (σ := Int32 × Int32 × (Nat → Int32) × (Nat → Int32) × (Nat → Int32) × (Nat → Int32) × (Nat → Int32)) (P := fun q H locs ls => va_P G.1 vwCl (wB G be beD kn q.2.1 q.2.2.1 q.2.2.2.1 q.2.2.2.2.1 q.2.2.2.2.2.1 bd bm d0 d1 d2 d3 d4 q.2.2.2.2.2.2) H ∧ va_D A (wB G be beD kn q.2.1 q.2.2.1 q.2.2.2.1 q.2.2.2.2.1 q.2.2.2.2.2.1 bd bm d0 d1 d2 d3 d4 q.2.2.2.2.2.2) ∧ va_S A s.heap H locs ∧ lv_has ls 5 [(0, .ref (be 0)), (1, .int (nI 4)), (3, .int a3), (4, .int q.1)]) (I := fun n q => I14 n q.1 q.2.1 q.2.2.1 q.2.2.2.1 q.2.2.2.2.1 q.2.2.2.2.2.1 q.2.2.2.2.2.2) n15 (a2, z2, z3, z4, tu, tl, d5) h0 _ _ _ ⟨hP, hD, hS, lv_sub hl [1, 2, 4, 0] rfl⟩ ?_
    rintro n19 ⟨x7, z8, z9, z10, z11, z12, z13⟩ hI ih18 H locs ls ⟨hP, hD, hS, hl⟩
    have hP : va_P G.1 vwCl (wB G be beD kn z8 z9 z10 z11 z12 bd bm d0 d1 d2 d3 d4 z13) H := hP
    have hD : va_D A (wB G be beD kn z8 z9 z10 z11 z12 bd bm d0 d1 d2 d3 d4 z13) := hD
    have hl : lv_has ls 5 [(0, .ref (be 0)), (1, .int (nI 4)), (3, .int a3), (4, .int x7)] := hl
    have h := hst16 n19 x7 z8 z9 z10 z11 z12 z13 hI
    refine lv_iload hx hb dX0_extend_16 (lv_at hl 3 rfl) ?_
    refine lv_bipush (v := (nI 10)) hx hb dX0_extend_18 (by decide) ?_
    refine lv_icmp_ge (tgt := 62) hx hb dX0_extend_20 (by decide) (fun c_20 => ?_) (fun c_20 => ?_)
    · have h := h.1 c_20
      exact W.vret hx hb hr (fun t ht hW => ⟨⟨(z8, z9, z10, z11, z12, z13), rfl, h, by rw [ht]; exact hP, hD⟩, hS.F ht⟩) hS.2.2 dX0_extend_62
    · have h := h.2 c_20
      refine lv_iload_n hx hb dX0_extend_23 rfl (lv_at hl 1 rfl) ?_
      refine lv_iload_n hx hb dX0_extend_24 rfl (lv_at hl 2 rfl) ?_
      refine lv_iload hx hb dX0_extend_25 (lv_at hl 3 rfl) ?_
      refine kp_i (wr := wB G be beD kn z8 z9 z10 z11 z12 bd bm d0 d1 d2 d3 d4 z13) (va_runS (As := [.int a3, .int x7]) (rest := [.int (nI 4)]) ⟨hx, hb, hml, hown, hts⟩ (c_X0_mostFolds l G  _  a3 x7 h) (va_cwS 2 hts gX0_extend_X0_mostFolds rfl rfl rfl (by decide +kernel) ⟨Nat.le_of_ble_eq_true rfl, Nat.le_of_ble_eq_true rfl⟩) (kpSp hK hP hD hZ hS hA (pm_nil _)) rfl rfl hl.1 rfl (lv_room (Nat.le_of_ble_eq_true rfl)) dX0_extend_27 ⟨Nat.zero_le _, Nat.zero_le _⟩) hP hD hS hA (pm_nil _) (fun r21 w40 H locs h hP hD hS => ?_)
      have hP : va_P G.1 vwCl (wB G be beD kn z8 z9 z10 z11 z12 bd bm d0 d1 d2 d3 d4 z13) H := hP.perm (pm_nil _).symm
      have hD : va_D A (wB G be beD kn z8 z9 z10 z11 z12 bd bm d0 d1 d2 d3 d4 z13) := hD.perm (pm_nil _).symm
      try dsimp only at h
      refine lv_iadd hx hb dX0_extend_30 ?_
      refine lv_aload_n hx hb dX0_extend_31 rfl (lv_at hl 0 rfl) ?_
      refine va_get (D := G.1) (ci := 0) (v := .int z8) (C := RX0) (T := TX0) (N := 9) hx hb hts hinX0 hown hK.1 hP 0 rfl rfl 1 (by decide) (hts (.fieldLink RX0 15 "PlaFolder$BestFolding" "count" "I") (by decide +kernel)) (fun _ h9 => h9) rfl dX0_extend_32 ?_
      refine lv_icmp_gt (tgt := 39) hx hb dX0_extend_35 (by decide) (fun c_22 => ?_) (fun c_22 => ?_)
      · have h := h.1 c_22
        refine lv_iload_n hx hb dX0_extend_39 rfl (lv_at hl 2 rfl) ?_
        refine lv_iload hx hb dX0_extend_40 (lv_at hl 3 rfl) ?_
        refine kp_i (wr := wB G be beD kn z8 z9 z10 z11 z12 bd bm d0 d1 d2 d3 d4 z13) (va_runSN (As := [.int a3, .int x7]) (rest := []) ⟨hx, hb, hml, hown, hts⟩ (c_X5_contains l G  _  a3 x7 h) ⟨va_cnB 2 hts gX0_extend_X5_contains_n79 rfl rfl rfl (hK.2.M 35 (q := ("PlaFolder$BestFolding", 79, ⟨"PlaFolder", "contains", "(II)Z"⟩, "PlaFolder")) rfl) (hts (.initialized RX5) (by decide +kernel)) (by decide +kernel) ⟨Nat.le_of_ble_eq_true rfl, Nat.le_of_ble_eq_true rfl⟩, hts (.static yX5_contains) (by decide +kernel), trivial⟩ (kpSp hK hP hD hZ hS hA (pm_nil _)) rfl rfl hl.1 rfl (lv_room (Nat.le_of_ble_eq_true rfl)) dX0_extend_42 ⟨Nat.zero_le _, Nat.zero_le _⟩) hP hD hS hA (pm_nil _) (fun r23 w39 H locs h hP hD hS => ?_)
        have hP : va_P G.1 vwCl (wB G be beD kn z8 z9 z10 z11 z12 bd bm d0 d1 d2 d3 d4 z13) H := hP.perm (pm_nil _).symm
        have hD : va_D A (wB G be beD kn z8 z9 z10 z11 z12 bd bm d0 d1 d2 d3 d4 z13) := hD.perm (pm_nil _).symm
        try dsimp only at h
        refine lv_if_eq (tgt := 56) hx hb dX0_extend_45 (by decide) (fun c_24 => ?_) (fun c_24 => ?_)
        · have h := h.1 c_24
          refine lv_iinc (v := (x7 + (1 : Int32))) (lv' := [(4, .int (x7 + (1 : Int32))), (0, .ref (be 0)), (1, .int (nI 4)), (3, .int a3)]) hx hb dX0_extend_56 hl (k := 3) rfl rfl (by decide) rfl (fun ls hl => ?_)
          refine lv_goto (tgt := 16) hx hb dX0_extend_59 (by decide) ?_
          obtain ⟨n26, hn25, hI27⟩ := h
          exact ih18 n26 ((x7 + (1 : Int32)), z8, z9, z10, z11, z12, z13) hn25 hI27 _ _ _ ⟨hP, hD, hS, lv_sub hl [1, 2, 3, 0] rfl⟩
        · have h := h.2 c_24
          refine lv_aload_n hx hb dX0_extend_48 rfl (lv_at hl 0 rfl) ?_
          refine lv_iload_n hx hb dX0_extend_49 rfl (lv_at hl 1 rfl) ?_
          refine lv_iload hx hb dX0_extend_50 (lv_at hl 3 rfl) ?_
          refine lv_iload_n hx hb dX0_extend_52 rfl (lv_at hl 2 rfl) ?_
          refine kp_v (wr := ([] : va_W)) (va_runV (As := [.int (nI 4), .int x7, .int a3]) (rest := []) ⟨hx, hb, hml, hown, hts⟩ (c_X0_tryLowers_4 l G be beD _ kn z8 z9 z10 z11 z12 bd bm d0 d1 d2 d3 d4 z13 x7 a3 h) (cwV 3 hts gX0_extend_X0_tryLowers rfl rfl rfl (by decide +kernel) ⟨Nat.le_of_ble_eq_true rfl, Nat.le_of_ble_eq_true rfl⟩) (kpVp hK hP hD hZ hS hA (pm_all _) (q0 := 0) (ci := 0) rfl rfl) rfl rfl hl.1 rfl (lv_room (Nat.le_of_ble_eq_true rfl)) dX0_extend_53 ⟨Nat.zero_le _, Nat.zero_le _⟩) hP hD hS hA (pm_all _) (fun w38 H locs h hP hD hS => ?_)
          obtain ⟨u29, u30, u31, u32, u33, u34⟩ := w38
          have hP : va_P G.1 vwCl (wB G be beD kn u29 u30 u31 u32 u33 bd bm d0 d1 d2 d3 d4 u34) H := hP.perm (pm_all _).symm
          have hD : va_D A (wB G be beD kn u29 u30 u31 u32 u33 bd bm d0 d1 d2 d3 d4 u34) := hD.perm (pm_all _).symm
          try dsimp only at h
          refine lv_iinc (v := (x7 + (1 : Int32))) (lv' := [(4, .int (x7 + (1 : Int32))), (0, .ref (be 0)), (1, .int (nI 4)), (3, .int a3)]) hx hb dX0_extend_56 hl (k := 3) rfl rfl (by decide) rfl (fun ls hl => ?_)
          refine lv_goto (tgt := 16) hx hb dX0_extend_59 (by decide) ?_
          obtain ⟨n36, hn35, hI37⟩ := h
          exact ih18 n36 ((x7 + (1 : Int32)), u29, u30, u31, u32, u33, u34) hn35 hI37 _ _ _ ⟨hP, hD, hS, lv_sub hl [1, 2, 3, 0] rfl⟩
      · have h := h.2 c_22
        exact W.vret hx hb hr (fun t ht hW => ⟨⟨(z8, z9, z10, z11, z12, z13), rfl, h, by rw [ht]; exact hP, hD⟩, hS.F ht⟩) hS.2.2 dX0_extend_38
  · refine lv_icmp_le (tgt := 13) hx hb dX0_extend_5 (by decide) (fun c_1 => ?_) (fun c_1 => ?_)
    · have h := h.1 c_1
      exact join6 (ct, bu, bl) h _ _ _ ⟨hP, hD, hS, lv_sub hl [0, 1, 2, 3] rfl⟩
    · have h := h.2 c_1
      refine lv_aload_n hx hb dX0_extend_8 rfl (lv_at hl 0 rfl) ?_
      refine lv_iload_n hx hb dX0_extend_9 rfl (lv_at hl 1 rfl) ?_
      refine kp_v (wr := ([] : va_W)) (va_runV (As := [.int (nI 4)]) (rest := []) ⟨hx, hb, hml, hown, hts⟩ (c_X0_keep_4 l G be beD _ kn ct bu bl tu tl bd bm d0 d1 d2 d3 d4 d5  h) (cwV 1 hts gX0_extend_X0_keep rfl rfl rfl (by decide +kernel) ⟨Nat.le_of_ble_eq_true rfl, Nat.le_of_ble_eq_true rfl⟩) (kpVp hK hP hD hZ hS hA (pm_all _) (q0 := 0) (ci := 0) rfl rfl) rfl rfl hl.1 rfl (lv_room (Nat.le_of_ble_eq_true rfl)) dX0_extend_10 ⟨Nat.zero_le _, Nat.zero_le _⟩) hP hD hS hA (pm_all _) (fun w45 H locs h hP hD hS => ?_)
      obtain ⟨u42, u43, u44⟩ := w45
      have hP : va_P G.1 vwCl (wB G be beD kn u42 u43 u44 tu tl bd bm d0 d1 d2 d3 d4 d5) H := hP.perm (pm_all _).symm
      have hD : va_D A (wB G be beD kn u42 u43 u44 tu tl bd bm d0 d1 d2 d3 d4 d5) := hD.perm (pm_all _).symm
      try dsimp only at h
      exact join6 (u42, u43, u44) h _ _ _ ⟨hP, hD, hS, lv_sub hl [0, 1, 2, 3] rfl⟩
def wp_X0_tryLowers_3 (a2 : Int32) (a3 : Int32) (ct : Int32) (bu : Nat → Int32) (bl : Nat → Int32) (tu : Nat → Int32) (tl : Nat → Int32) (bd : Nat → Int32) (bm : Nat → Int32) (d3 : Nat → Int32) (d4 : Nat → Int32) (d5 : Nat → Int32) (K : Int32 → (Nat → Int32) → (Nat → Int32) → (Nat → Int32) → (Nat → Int32) → (Nat → Int32) → (Nat → Int32) → Prop) : Prop :=
 (vp_in a2 10 ∧ (Lp8 (0 : Int32) ct bu bl tu tl d4 d5 (fun (x3 : Int32) (z4 : Int32) (z5 : Nat → Int32) (z6 : Nat → Int32) (z7 : Nat → Int32) (z8 : Nat → Int32) (z9 : Nat → Int32) (z10 : Nat → Int32) (J14 : Int32 → Int32 → (Nat → Int32) → (Nat → Int32) → (Nat → Int32) → (Nat → Int32) → (Nat → Int32) → (Nat → Int32) → Prop) => (((nI 10) ≤ x3 → K z4 z5 z6 z7 z8 z9 z10) ∧
 (¬ ((nI 10) ≤ x3) → wp_X5_contains ((bm a2.toNatClampNeg) &&& a3) x3 (fun (r18 : Int32) => ((r18 = 0 → J14 (x3 + (1 : Int32)) z4 z5 z6 z7 z8 z9 z10) ∧
 (¬ (r18 = 0) → (vp_in a2 10 ∧ (vp_in x3 10 ∧ wp_X1_allow (bd a2.toNatClampNeg) (bd x3.toNatClampNeg) d3 (fun (r25 : Int32) => ((r25 = 0 → J14 (x3 + (1 : Int32)) z4 z5 z6 z7 z8 z9 z10) ∧
 (¬ (r25 = 0) → wp_X1_copyFrom z9 d3 (fun (u31 : Nat → Int32) => (vp_in a2 10 ∧ (vp_in x3 10 ∧ wp_X1_add (bd a2.toNatClampNeg) (bd x3.toNatClampNeg) u31 (fun (u35 : Nat → Int32) => wp_X0_extend_4 (a2 + (1 : Int32)) (a3 &&& (((jshl (1 : Int32) a2) ||| (jshl (1 : Int32) x3)) ^^^ (-1 : Int32))) z4 z5 z6 (upd z7 3 a2) (upd z8 3 x3) bd bm u35 z10 (fun (u37 : Int32) (u38 : Nat → Int32) (u39 : Nat → Int32) (u40 : Nat → Int32) (u41 : Nat → Int32) (u42 : Nat → Int32) => J14 (x3 + (1 : Int32)) u37 u38 u39 u40 u41 u35 u42))))))))))))))))))
abbrev rm_X0_tryLowers_3 : Room := { frames := 6, cells := 0, slots := 0, locals := 156 }
set_option maxHeartbeats 4000000 in
set_option maxRecDepth 100000 in
theorem c_X0_tryLowers_3 (l : Launch) (G : GG) (be : Nat → Nat) (beD : Nat → Nat → Nat) (sz : Nat) (kn : Int32) (ct : Int32) (bu : Nat → Int32) (bl : Nat → Int32) (tu : Nat → Int32) (tl : Nat → Int32) (bd : Nat → Int32) (bm : Nat → Int32) (d0 : Nat → Int32) (d1 : Nat → Int32) (d2 : Nat → Int32) (d3 : Nat → Int32) (d4 : Nat → Int32) (d5 : Nat → Int32) (a2 : Int32) (a3 : Int32) {K : Int32 → (Nat → Int32) → (Nat → Int32) → (Nat → Int32) → (Nat → Int32) → (Nat → Int32) → (Nat → Int32) → Prop} (h : wp_X0_tryLowers_3 a2 a3 ct bu bl tu tl bd bm d3 d4 d5 K) : CV l yX0_tryLowers wsX0_tryLowers rm_X0_tryLowers_3 G [.ref (be 0), .int (nI 3), .int a2, .int a3] (wB G be beD kn ct bu bl tu tl bd bm d0 d1 d2 d3 d4 d5) sz (fun u : Int32 × (Nat → Int32) × (Nat → Int32) × (Nat → Int32) × (Nat → Int32) × (Nat → Int32) × (Nat → Int32) => wB G be beD kn u.1 u.2.1 u.2.2.1 u.2.2.2.1 u.2.2.2.2.1 bd bm d0 d1 d2 d3 u.2.2.2.2.2.1 u.2.2.2.2.2.2) (fun u => K u.1 u.2.1 u.2.2.1 u.2.2.2.1 u.2.2.2.2.1 u.2.2.2.2.2.1 u.2.2.2.2.2.2) := by
  refine Met.ofW (cc := cX0_tryLowers) (maxL := 6) (ret := none) (by decide) rfl ?_
  intro p e s m args below meth c s₁ B hml hv
  obtain ⟨rfl, hsz, hP, hK, hD0, hZ⟩ := hv
  have hx := B.exec
  have hb := B.bytes
  have hr := B.returns
  have hts := atoms_spec (ws := wsX0_tryLowers) B.pre
  have hown : s.vm.findClass RX0 = some m.cls := findClass_of_methodNamed B.named
  have hlocks := B.notSynchronized
  subst hsz
  have hD := hD0.self (sz := s.heap.size)
  generalize hAe : va_A (wB G be beD kn ct bu bl tu tl bd bm d0 d1 d2 d3 d4 d5) s.heap.size = A at hD hZ ⊢
  have hA : ∀ q : Nat, s.heap.size ≤ q → A q := fun q h => by rw [← hAe]; exact Or.inr h
  have hS : va_S A s.heap s.heap [] := va_S.rf
  have hl := lv_entry ([.ref (be 0), .int (nI 3), .int a2, .int a3]) (n := 6) (Nat.le_of_ble_eq_true rfl)
  rw [lg_entry_eq]
  generalize (lg_sl ([.ref (be 0), .int (nI 3), .int a2, .int a3]) ++ List.replicate (6 - (lg_sl ([.ref (be 0), .int (nI 3), .int a2, .int a3])).length) Slot.unset).toArray = ls at hl ⊢
  have hl : lv_has ls 6 [(0, .ref (be 0)), (1, .int (nI 3)), (2, .int a2), (3, .int a3)] := hl
  unfold wp_X0_tryLowers_3 at h
  have hinX0 : ∀ w ∈ wsX00, w ∈ wsX0_tryLowers := by decide +kernel
  refine lv_iload_n hx hb dX0_tryLowers_0 rfl (lv_at hl 1 rfl) ?_
  refine lv_iconst (v := (nI 5)) hx hb dX0_tryLowers_1 (by decide) ?_
  refine lv_icmp_lt (tgt := 6) hx hb dX0_tryLowers_2 (by decide) (fun _ => ?_) (fun c_1 => absurd c_1 (by decide))
  refine lv_aload_n hx hb dX0_tryLowers_6 rfl (lv_at hl 0 rfl) ?_
  refine va_get (D := G.1) (ci := 0) (v := .ref (be 6)) (C := RX0) (T := TX0) (N := 9) hx hb hts hinX0 hown hK.1 hP 0 rfl rfl 7 (by decide) (hts (.fieldLink RX0 35 "PlaFolder$BestFolding" "mates" "[I") (by decide +kernel)) (fun _ h9 => h9) rfl dX0_tryLowers_7 ?_
  refine lv_iload_n hx hb dX0_tryLowers_10 rfl (lv_at hl 2 rfl) ?_
  obtain ⟨hi2, h⟩ := h
  refine x_iald hx hb hK hP 6 rfl hi2 rfl dX0_tryLowers_11 ?_
  refine lv_iload_n hx hb dX0_tryLowers_12 rfl (lv_at hl 3 rfl) ?_
  refine lv_iand hx hb dX0_tryLowers_13 ?_
  refine lv_istore (lv' := [(4, .int ((bm a2.toNatClampNeg) &&& a3)), (0, .ref (be 0)), (1, .int (nI 3)), (2, .int a2), (3, .int a3)]) hx hb dX0_tryLowers_14 hl (by decide) rfl (fun ls hl => ?_)
  refine lv_iconst (v := (0 : Int32)) hx hb dX0_tryLowers_16 (by decide) ?_
  refine lv_istore (lv' := [(5, .int (0 : Int32)), (4, .int ((bm a2.toNatClampNeg) &&& a3)), (0, .ref (be 0)), (1, .int (nI 3)), (2, .int a2), (3, .int a3)]) hx hb dX0_tryLowers_17 hl (by decide) rfl (fun ls hl => ?_)
  obtain ⟨I11, n12, h0, hst13⟩ := h
  refine loopW (σ := Int32 × Int32 × (Nat → Int32) × (Nat → Int32) × (Nat → Int32) × (Nat → Int32) × (Nat → Int32) × (Nat → Int32)) (P := fun q H locs ls => va_P G.1 vwCl (wB G be beD kn q.2.1 q.2.2.1 q.2.2.2.1 q.2.2.2.2.1 q.2.2.2.2.2.1 bd bm d0 d1 d2 d3 q.2.2.2.2.2.2.1 q.2.2.2.2.2.2.2) H ∧ va_D A (wB G be beD kn q.2.1 q.2.2.1 q.2.2.2.1 q.2.2.2.2.1 q.2.2.2.2.2.1 bd bm d0 d1 d2 d3 q.2.2.2.2.2.2.1 q.2.2.2.2.2.2.2) ∧ va_S A s.heap H locs ∧ lv_has ls 6 [(0, .ref (be 0)), (1, .int (nI 3)), (2, .int a2), (3, .int a3), (4, .int ((bm a2.toNatClampNeg) &&& a3)), (5, .int q.1)]) (I := fun n q => I11 n q.1 q.2.1 q.2.2.1 q.2.2.2.1 q.2.2.2.2.1 q.2.2.2.2.2.1 q.2.2.2.2.2.2.1 q.2.2.2.2.2.2.2) n12 ((0 : Int32), ct, bu, bl, tu, tl, d4, d5) h0 _ _ _ ⟨hP, hD, hS, lv_sub hl [2, 3, 4, 5, 1, 0] rfl⟩ ?_
  rintro n16 ⟨x3, z4, z5, z6, z7, z8, z9, z10⟩ hI ih15 H locs ls ⟨hP, hD, hS, hl⟩
  have hP : va_P G.1 vwCl (wB G be beD kn z4 z5 z6 z7 z8 bd bm d0 d1 d2 d3 z9 z10) H := hP
  have hD : va_D A (wB G be beD kn z4 z5 z6 z7 z8 bd bm d0 d1 d2 d3 z9 z10) := hD
  have hl : lv_has ls 6 [(0, .ref (be 0)), (1, .int (nI 3)), (2, .int a2), (3, .int a3), (4, .int ((bm a2.toNatClampNeg) &&& a3)), (5, .int x3)] := hl
  have h := hst13 n16 x3 z4 z5 z6 z7 z8 z9 z10 hI
  refine lv_iload hx hb dX0_tryLowers_19 (lv_at hl 5 rfl) ?_
  refine lv_bipush (v := (nI 10)) hx hb dX0_tryLowers_21 (by decide) ?_
  refine lv_icmp_ge (tgt := 145) hx hb dX0_tryLowers_23 (by decide) (fun c_17 => ?_) (fun c_17 => ?_)
  · have h := h.1 c_17
    exact W.vret hx hb hr (fun t ht hW => ⟨⟨(z4, z5, z6, z7, z8, z9, z10), rfl, h, by rw [ht]; exact hP, hD⟩, hS.F ht⟩) hS.2.2 dX0_tryLowers_145
  · have h := h.2 c_17
    refine lv_iload hx hb dX0_tryLowers_26 (lv_at hl 4 rfl) ?_
    refine lv_iload hx hb dX0_tryLowers_28 (lv_at hl 5 rfl) ?_
    refine kp_i (wr := wB G be beD kn z4 z5 z6 z7 z8 bd bm d0 d1 d2 d3 z9 z10) (va_runSN (As := [.int ((bm a2.toNatClampNeg) &&& a3), .int x3]) (rest := []) ⟨hx, hb, hml, hown, hts⟩ (c_X5_contains l G  _  ((bm a2.toNatClampNeg) &&& a3) x3 h) ⟨va_cnB 2 hts gX0_tryLowers_X5_contains_n79 rfl rfl rfl (hK.2.M 35 (q := ("PlaFolder$BestFolding", 79, ⟨"PlaFolder", "contains", "(II)Z"⟩, "PlaFolder")) rfl) (hts (.initialized RX5) (by decide +kernel)) (by decide +kernel) ⟨Nat.le_of_ble_eq_true rfl, Nat.le_of_ble_eq_true rfl⟩, hts (.static yX5_contains) (by decide +kernel), trivial⟩ (kpSp hK hP hD hZ hS hA (pm_nil _)) rfl rfl hl.1 rfl (lv_room (Nat.le_of_ble_eq_true rfl)) dX0_tryLowers_30 ⟨Nat.zero_le _, Nat.zero_le _⟩) hP hD hS hA (pm_nil _) (fun r18 w50 H locs h hP hD hS => ?_)
    have hP : va_P G.1 vwCl (wB G be beD kn z4 z5 z6 z7 z8 bd bm d0 d1 d2 d3 z9 z10) H := hP.perm (pm_nil _).symm
    have hD : va_D A (wB G be beD kn z4 z5 z6 z7 z8 bd bm d0 d1 d2 d3 z9 z10) := hD.perm (pm_nil _).symm
    try dsimp only at h
    refine lv_if_eq (tgt := 139) hx hb dX0_tryLowers_33 (by decide) (fun c_19 => ?_) (fun c_19 => ?_)
    · have h := h.1 c_19
      refine lv_iinc (v := (x3 + (1 : Int32))) (lv' := [(5, .int (x3 + (1 : Int32))), (0, .ref (be 0)), (1, .int (nI 3)), (2, .int a2), (3, .int a3), (4, .int ((bm a2.toNatClampNeg) &&& a3))]) hx hb dX0_tryLowers_139 hl (k := 5) rfl rfl (by decide) rfl (fun ls hl => ?_)
      refine lv_goto (tgt := 19) hx hb dX0_tryLowers_142 (by decide) ?_
      obtain ⟨n21, hn20, hI22⟩ := h
      exact ih15 n21 ((x3 + (1 : Int32)), z4, z5, z6, z7, z8, z9, z10) hn20 hI22 _ _ _ ⟨hP, hD, hS, lv_sub hl [1, 2, 3, 4, 5, 0] rfl⟩
    · have h := h.2 c_19
      refine lv_aload_n hx hb dX0_tryLowers_36 rfl (lv_at hl 0 rfl) ?_
      refine va_get (D := G.1) (ci := 0) (v := .ref (be 7)) (C := RX0) (T := TX0) (N := 9) hx hb hts hinX0 hown hK.1 hP 0 rfl rfl 8 (by decide) (hts (.fieldLink RX0 40 "PlaFolder$BestFolding" "demandsAt" "[LPlaFolder$Demands;") (by decide +kernel)) (fun _ h9 => h9) rfl dX0_tryLowers_37 ?_
      refine lv_iload_n hx hb dX0_tryLowers_40 rfl (lv_at hl 1 rfl) ?_
      refine x_aldq hx hb hK hP 7 2 rfl rfl (vin_c (by decide)) (k := 3) (by decide) (a2 := beD 3 0) rfl dX0_tryLowers_41 ?_
      refine lv_aload_n hx hb dX0_tryLowers_42 rfl (lv_at hl 0 rfl) ?_
      refine va_get (D := G.1) (ci := 0) (v := .ref (be 5)) (C := RX0) (T := TX0) (N := 9) hx hb hts hinX0 hown hK.1 hP 0 rfl rfl 6 (by decide) (hts (.fieldLink RX0 32 "PlaFolder$BestFolding" "used" "[I") (by decide +kernel)) (fun _ h9 => h9) rfl dX0_tryLowers_43 ?_
      refine lv_iload_n hx hb dX0_tryLowers_46 rfl (lv_at hl 2 rfl) ?_
      obtain ⟨hi23, h⟩ := h
      refine x_iald hx hb hK hP 5 rfl hi23 rfl dX0_tryLowers_47 ?_
      refine lv_aload_n hx hb dX0_tryLowers_48 rfl (lv_at hl 0 rfl) ?_
      refine va_get (D := G.1) (ci := 0) (v := .ref (be 5)) (C := RX0) (T := TX0) (N := 9) hx hb hts hinX0 hown hK.1 hP 0 rfl rfl 6 (by decide) (hts (.fieldLink RX0 32 "PlaFolder$BestFolding" "used" "[I") (by decide +kernel)) (fun _ h9 => h9) rfl dX0_tryLowers_49 ?_
      refine lv_iload hx hb dX0_tryLowers_52 (lv_at hl 5 rfl) ?_
      obtain ⟨hi24, h⟩ := h
      refine x_iald hx hb hK hP 5 rfl hi24 rfl dX0_tryLowers_54 ?_
      refine kp_i (wr := wB0 G be beD kn z4 z5 z6 z7 z8 bd bm ++ (wD G (beD 0) d0 ++ (wD G (beD 1) d1 ++ (wD G (beD 2) d2 ++ (wD G (beD 4) z9 ++ (wD G (beD 5) z10)))))) (va_runVN (As := [.int (bd a2.toNatClampNeg), .int (bd x3.toNatClampNeg)]) (rest := []) ⟨hx, hb, hml, hown, hts⟩ (c_X1_allow l G (beD 3) _ d3 (bd a2.toNatClampNeg) (bd x3.toNatClampNeg) h) ⟨va_cnB 2 hts gX0_tryLowers_X1_allow_n85 rfl rfl rfl (hK.2.M 36 (q := ("PlaFolder$BestFolding", 85, ⟨"PlaFolder$Demands", "allow", "(II)Z"⟩, "PlaFolder")) rfl) (hts (.initialized RX1) (by decide +kernel)) (by decide +kernel) ⟨Nat.le_of_ble_eq_true rfl, Nat.le_of_ble_eq_true rfl⟩, hts (.instanceMethod yX1_allow) (by decide +kernel), hts (.selects RX1 yX1_allow yX1_allow) (by decide +kernel)⟩ (kpVp hK hP hD hZ hS hA (pm7_012356_4 (wB0 G be beD kn z4 z5 z6 z7 z8 bd bm) (wD G (beD 0) d0) (wD G (beD 1) d1) (wD G (beD 2) d2) (wD G (beD 3) d3) (wD G (beD 4) z9) (wD G (beD 5) z10)) (q0 := 0) (ci := 1) rfl rfl) rfl rfl hl.1 rfl (lv_room (Nat.le_of_ble_eq_true rfl)) dX0_tryLowers_55 ⟨Nat.zero_le _, Nat.zero_le _⟩) hP hD hS hA (pm7_012356_4 (wB0 G be beD kn z4 z5 z6 z7 z8 bd bm) (wD G (beD 0) d0) (wD G (beD 1) d1) (wD G (beD 2) d2) (wD G (beD 3) d3) (wD G (beD 4) z9) (wD G (beD 5) z10)) (fun r25 w49 H locs h hP hD hS => ?_)
      have hP : va_P G.1 vwCl (wB G be beD kn z4 z5 z6 z7 z8 bd bm d0 d1 d2 d3 z9 z10) H := hP.perm (pm7_012356_4 (wB0 G be beD kn z4 z5 z6 z7 z8 bd bm) (wD G (beD 0) d0) (wD G (beD 1) d1) (wD G (beD 2) d2) (wD G (beD 3) d3) (wD G (beD 4) z9) (wD G (beD 5) z10)).symm
      have hD : va_D A (wB G be beD kn z4 z5 z6 z7 z8 bd bm d0 d1 d2 d3 z9 z10) := hD.perm (pm7_012356_4 (wB0 G be beD kn z4 z5 z6 z7 z8 bd bm) (wD G (beD 0) d0) (wD G (beD 1) d1) (wD G (beD 2) d2) (wD G (beD 3) d3) (wD G (beD 4) z9) (wD G (beD 5) z10)).symm
      try dsimp only at h
      refine lv_if_eq (tgt := 139) hx hb dX0_tryLowers_58 (by decide) (fun c_26 => ?_) (fun c_26 => ?_)
      · have h := h.1 c_26
        refine lv_iinc (v := (x3 + (1 : Int32))) (lv' := [(5, .int (x3 + (1 : Int32))), (0, .ref (be 0)), (1, .int (nI 3)), (2, .int a2), (3, .int a3), (4, .int ((bm a2.toNatClampNeg) &&& a3))]) hx hb dX0_tryLowers_139 hl (k := 5) rfl rfl (by decide) rfl (fun ls hl => ?_)
        refine lv_goto (tgt := 19) hx hb dX0_tryLowers_142 (by decide) ?_
        obtain ⟨n28, hn27, hI29⟩ := h
        exact ih15 n28 ((x3 + (1 : Int32)), z4, z5, z6, z7, z8, z9, z10) hn27 hI29 _ _ _ ⟨hP, hD, hS, lv_sub hl [1, 2, 3, 4, 5, 0] rfl⟩
      · have h := h.2 c_26
        refine lv_aload_n hx hb dX0_tryLowers_61 rfl (lv_at hl 0 rfl) ?_
        refine va_get (D := G.1) (ci := 0) (v := .ref (be 3)) (C := RX0) (T := TX0) (N := 9) hx hb hts hinX0 hown hK.1 hP 0 rfl rfl 4 (by decide) (hts (.fieldLink RX0 26 "PlaFolder$BestFolding" "triedUpper" "[I") (by decide +kernel)) (fun _ h9 => h9) rfl dX0_tryLowers_62 ?_
        refine lv_iload_n hx hb dX0_tryLowers_65 rfl (lv_at hl 1 rfl) ?_
        refine lv_iload_n hx hb dX0_tryLowers_66 rfl (lv_at hl 2 rfl) ?_
        refine x_iast hx hb hK hP hD hS 3 rfl (vin_c (by decide)) (k := 3) (by decide) dX0_tryLowers_67 (fun H locs hP hD hS => ?_)
        have hP : va_P G.1 vwCl (wB G be beD kn z4 z5 z6 (upd z7 3 a2) z8 bd bm d0 d1 d2 d3 z9 z10) H := hP
        have hD : va_D A (wB G be beD kn z4 z5 z6 (upd z7 3 a2) z8 bd bm d0 d1 d2 d3 z9 z10) := hD
        refine lv_aload_n hx hb dX0_tryLowers_68 rfl (lv_at hl 0 rfl) ?_
        refine va_get (D := G.1) (ci := 0) (v := .ref (be 4)) (C := RX0) (T := TX0) (N := 9) hx hb hts hinX0 hown hK.1 hP 0 rfl rfl 5 (by decide) (hts (.fieldLink RX0 29 "PlaFolder$BestFolding" "triedLower" "[I") (by decide +kernel)) (fun _ h9 => h9) rfl dX0_tryLowers_69 ?_
        refine lv_iload_n hx hb dX0_tryLowers_72 rfl (lv_at hl 1 rfl) ?_
        refine lv_iload hx hb dX0_tryLowers_73 (lv_at hl 5 rfl) ?_
        refine x_iast hx hb hK hP hD hS 4 rfl (vin_c (by decide)) (k := 3) (by decide) dX0_tryLowers_75 (fun H locs hP hD hS => ?_)
        have hP : va_P G.1 vwCl (wB G be beD kn z4 z5 z6 (upd z7 3 a2) (upd z8 3 x3) bd bm d0 d1 d2 d3 z9 z10) H := hP
        have hD : va_D A (wB G be beD kn z4 z5 z6 (upd z7 3 a2) (upd z8 3 x3) bd bm d0 d1 d2 d3 z9 z10) := hD
        refine lv_aload_n hx hb dX0_tryLowers_76 rfl (lv_at hl 0 rfl) ?_
        refine va_get (D := G.1) (ci := 0) (v := .ref (be 7)) (C := RX0) (T := TX0) (N := 9) hx hb hts hinX0 hown hK.1 hP 0 rfl rfl 8 (by decide) (hts (.fieldLink RX0 40 "PlaFolder$BestFolding" "demandsAt" "[LPlaFolder$Demands;") (by decide +kernel)) (fun _ h9 => h9) rfl dX0_tryLowers_77 ?_
        refine lv_iload_n hx hb dX0_tryLowers_80 rfl (lv_at hl 1 rfl) ?_
        refine lv_iconst (v := (1 : Int32)) hx hb dX0_tryLowers_81 (by decide) ?_
        refine lv_iadd hx hb dX0_tryLowers_82 ?_
        refine W.eq (g2 := F0 m 83 ls (.int (nI 4) :: .ref (be 7) :: [])) rfl ?_
        refine x_aldq hx hb hK hP 7 2 rfl rfl (vin_c (by decide)) (k := 4) (by decide) (a2 := beD 4 0) rfl dX0_tryLowers_83 ?_
        refine lv_aload_n hx hb dX0_tryLowers_84 rfl (lv_at hl 0 rfl) ?_
        refine va_get (D := G.1) (ci := 0) (v := .ref (be 7)) (C := RX0) (T := TX0) (N := 9) hx hb hts hinX0 hown hK.1 hP 0 rfl rfl 8 (by decide) (hts (.fieldLink RX0 40 "PlaFolder$BestFolding" "demandsAt" "[LPlaFolder$Demands;") (by decide +kernel)) (fun _ h9 => h9) rfl dX0_tryLowers_85 ?_
        refine lv_iload_n hx hb dX0_tryLowers_88 rfl (lv_at hl 1 rfl) ?_
        refine x_aldq hx hb hK hP 7 2 rfl rfl (vin_c (by decide)) (k := 3) (by decide) (a2 := beD 3 0) rfl dX0_tryLowers_89 ?_
        refine kp_v (wr := wB0 G be beD kn z4 z5 z6 (upd z7 3 a2) (upd z8 3 x3) bd bm ++ (wD G (beD 0) d0 ++ (wD G (beD 1) d1 ++ (wD G (beD 2) d2 ++ (wD G (beD 5) z10))))) (va_runVN (As := [.ref (beD 3 0)]) (rest := []) ⟨hx, hb, hml, hown, hts⟩ (c_X1_copyFrom l G (beD 4) (beD 3) _ z9 d3  h) ⟨va_cnB 1 hts gX0_tryLowers_X1_copyFrom_n88 rfl rfl rfl (hK.2.M 37 (q := ("PlaFolder$BestFolding", 88, ⟨"PlaFolder$Demands", "copyFrom", "(LPlaFolder$Demands;)V"⟩, "PlaFolder")) rfl) (hts (.initialized RX1) (by decide +kernel)) (by decide +kernel) ⟨Nat.le_of_ble_eq_true rfl, Nat.le_of_ble_eq_true rfl⟩, hts (.instanceMethod yX1_copyFrom) (by decide +kernel), hts (.selects RX1 yX1_copyFrom yX1_copyFrom) (by decide +kernel)⟩ (kpVp hK hP hD hZ hS hA (pm7_01236_54 (wB0 G be beD kn z4 z5 z6 (upd z7 3 a2) (upd z8 3 x3) bd bm) (wD G (beD 0) d0) (wD G (beD 1) d1) (wD G (beD 2) d2) (wD G (beD 3) d3) (wD G (beD 4) z9) (wD G (beD 5) z10)) (q0 := 0) (ci := 1) rfl rfl) rfl rfl hl.1 rfl (lv_room (Nat.le_of_ble_eq_true rfl)) dX0_tryLowers_90 ⟨Nat.zero_le _, Nat.zero_le _⟩) hP hD hS hA (pm7_01236_54 (wB0 G be beD kn z4 z5 z6 (upd z7 3 a2) (upd z8 3 x3) bd bm) (wD G (beD 0) d0) (wD G (beD 1) d1) (wD G (beD 2) d2) (wD G (beD 3) d3) (wD G (beD 4) z9) (wD G (beD 5) z10)) (fun w48 H locs h hP hD hS => ?_)
        obtain ⟨u31, rfl⟩ : ∃ z, z = w48 := ⟨_, rfl⟩
        have hP : va_P G.1 vwCl (wB G be beD kn z4 z5 z6 (upd z7 3 a2) (upd z8 3 x3) bd bm d0 d1 d2 d3 u31 z10) H := hP.perm (pm7_01236_54 (wB0 G be beD kn z4 z5 z6 (upd z7 3 a2) (upd z8 3 x3) bd bm) (wD G (beD 0) d0) (wD G (beD 1) d1) (wD G (beD 2) d2) (wD G (beD 3) d3) (wD G (beD 4) u31) (wD G (beD 5) z10)).symm
        have hD : va_D A (wB G be beD kn z4 z5 z6 (upd z7 3 a2) (upd z8 3 x3) bd bm d0 d1 d2 d3 u31 z10) := hD.perm (pm7_01236_54 (wB0 G be beD kn z4 z5 z6 (upd z7 3 a2) (upd z8 3 x3) bd bm) (wD G (beD 0) d0) (wD G (beD 1) d1) (wD G (beD 2) d2) (wD G (beD 3) d3) (wD G (beD 4) u31) (wD G (beD 5) z10)).symm
        try dsimp only at h
        refine lv_aload_n hx hb dX0_tryLowers_93 rfl (lv_at hl 0 rfl) ?_
        refine va_get (D := G.1) (ci := 0) (v := .ref (be 7)) (C := RX0) (T := TX0) (N := 9) hx hb hts hinX0 hown hK.1 hP 0 rfl rfl 8 (by decide) (hts (.fieldLink RX0 40 "PlaFolder$BestFolding" "demandsAt" "[LPlaFolder$Demands;") (by decide +kernel)) (fun _ h9 => h9) rfl dX0_tryLowers_94 ?_
        refine lv_iload_n hx hb dX0_tryLowers_97 rfl (lv_at hl 1 rfl) ?_
        refine lv_iconst (v := (1 : Int32)) hx hb dX0_tryLowers_98 (by decide) ?_
        refine lv_iadd hx hb dX0_tryLowers_99 ?_
        refine W.eq (g2 := F0 m 100 ls (.int (nI 4) :: .ref (be 7) :: [])) rfl ?_
        refine x_aldq hx hb hK hP 7 2 rfl rfl (vin_c (by decide)) (k := 4) (by decide) (a2 := beD 4 0) rfl dX0_tryLowers_100 ?_
        refine lv_aload_n hx hb dX0_tryLowers_101 rfl (lv_at hl 0 rfl) ?_
        refine va_get (D := G.1) (ci := 0) (v := .ref (be 5)) (C := RX0) (T := TX0) (N := 9) hx hb hts hinX0 hown hK.1 hP 0 rfl rfl 6 (by decide) (hts (.fieldLink RX0 32 "PlaFolder$BestFolding" "used" "[I") (by decide +kernel)) (fun _ h9 => h9) rfl dX0_tryLowers_102 ?_
        refine lv_iload_n hx hb dX0_tryLowers_105 rfl (lv_at hl 2 rfl) ?_
        obtain ⟨hi32, h⟩ := h
        refine x_iald hx hb hK hP 5 rfl hi32 rfl dX0_tryLowers_106 ?_
        refine lv_aload_n hx hb dX0_tryLowers_107 rfl (lv_at hl 0 rfl) ?_
        refine va_get (D := G.1) (ci := 0) (v := .ref (be 5)) (C := RX0) (T := TX0) (N := 9) hx hb hts hinX0 hown hK.1 hP 0 rfl rfl 6 (by decide) (hts (.fieldLink RX0 32 "PlaFolder$BestFolding" "used" "[I") (by decide +kernel)) (fun _ h9 => h9) rfl dX0_tryLowers_108 ?_
        refine lv_iload hx hb dX0_tryLowers_111 (lv_at hl 5 rfl) ?_
        obtain ⟨hi33, h⟩ := h
        refine x_iald hx hb hK hP 5 rfl hi33 rfl dX0_tryLowers_113 ?_
        refine kp_v (wr := wB0 G be beD kn z4 z5 z6 (upd z7 3 a2) (upd z8 3 x3) bd bm ++ (wD G (beD 0) d0 ++ (wD G (beD 1) d1 ++ (wD G (beD 2) d2 ++ (wD G (beD 3) d3 ++ (wD G (beD 5) z10)))))) (va_runVN (As := [.int (bd a2.toNatClampNeg), .int (bd x3.toNatClampNeg)]) (rest := []) ⟨hx, hb, hml, hown, hts⟩ (c_X1_add l G (beD 4) _ u31 (bd a2.toNatClampNeg) (bd x3.toNatClampNeg) h) ⟨va_cnB 2 hts gX0_tryLowers_X1_add_n92 rfl rfl rfl (hK.2.M 38 (q := ("PlaFolder$BestFolding", 92, ⟨"PlaFolder$Demands", "add", "(II)V"⟩, "PlaFolder")) rfl) (hts (.initialized RX1) (by decide +kernel)) (by decide +kernel) ⟨Nat.le_of_ble_eq_true rfl, Nat.le_of_ble_eq_true rfl⟩, hts (.instanceMethod yX1_add) (by decide +kernel), hts (.selects RX1 yX1_add yX1_add) (by decide +kernel)⟩ (kpVp hK hP hD hZ hS hA (pm7_012346_5 (wB0 G be beD kn z4 z5 z6 (upd z7 3 a2) (upd z8 3 x3) bd bm) (wD G (beD 0) d0) (wD G (beD 1) d1) (wD G (beD 2) d2) (wD G (beD 3) d3) (wD G (beD 4) u31) (wD G (beD 5) z10)) (q0 := 0) (ci := 1) rfl rfl) rfl rfl hl.1 rfl (lv_room (Nat.le_of_ble_eq_true rfl)) dX0_tryLowers_114 ⟨Nat.zero_le _, Nat.zero_le _⟩) hP hD hS hA (pm7_012346_5 (wB0 G be beD kn z4 z5 z6 (upd z7 3 a2) (upd z8 3 x3) bd bm) (wD G (beD 0) d0) (wD G (beD 1) d1) (wD G (beD 2) d2) (wD G (beD 3) d3) (wD G (beD 4) u31) (wD G (beD 5) z10)) (fun w47 H locs h hP hD hS => ?_)
        obtain ⟨u35, rfl⟩ : ∃ z, z = w47 := ⟨_, rfl⟩
        have hP : va_P G.1 vwCl (wB G be beD kn z4 z5 z6 (upd z7 3 a2) (upd z8 3 x3) bd bm d0 d1 d2 d3 u35 z10) H := hP.perm (pm7_012346_5 (wB0 G be beD kn z4 z5 z6 (upd z7 3 a2) (upd z8 3 x3) bd bm) (wD G (beD 0) d0) (wD G (beD 1) d1) (wD G (beD 2) d2) (wD G (beD 3) d3) (wD G (beD 4) u35) (wD G (beD 5) z10)).symm
        have hD : va_D A (wB G be beD kn z4 z5 z6 (upd z7 3 a2) (upd z8 3 x3) bd bm d0 d1 d2 d3 u35 z10) := hD.perm (pm7_012346_5 (wB0 G be beD kn z4 z5 z6 (upd z7 3 a2) (upd z8 3 x3) bd bm) (wD G (beD 0) d0) (wD G (beD 1) d1) (wD G (beD 2) d2) (wD G (beD 3) d3) (wD G (beD 4) u35) (wD G (beD 5) z10)).symm
        try dsimp only at h
        refine lv_aload_n hx hb dX0_tryLowers_117 rfl (lv_at hl 0 rfl) ?_
        refine lv_iload_n hx hb dX0_tryLowers_118 rfl (lv_at hl 1 rfl) ?_
        refine lv_iconst (v := (1 : Int32)) hx hb dX0_tryLowers_119 (by decide) ?_
        refine lv_iadd hx hb dX0_tryLowers_120 ?_
        refine W.eq (g2 := F0 m 121 ls (.int (nI 4) :: .ref (be 0) :: [])) rfl ?_
        refine lv_iload_n hx hb dX0_tryLowers_121 rfl (lv_at hl 2 rfl) ?_
        refine lv_iconst (v := (1 : Int32)) hx hb dX0_tryLowers_122 (by decide) ?_
        refine lv_iadd hx hb dX0_tryLowers_123 ?_
        refine lv_iload_n hx hb dX0_tryLowers_124 rfl (lv_at hl 3 rfl) ?_
        refine lv_iconst (v := (1 : Int32)) hx hb dX0_tryLowers_125 (by decide) ?_
        refine lv_iload_n hx hb dX0_tryLowers_126 rfl (lv_at hl 2 rfl) ?_
        refine lv_ishl hx hb dX0_tryLowers_127 ?_
        refine lv_iconst (v := (1 : Int32)) hx hb dX0_tryLowers_128 (by decide) ?_
        refine lv_iload hx hb dX0_tryLowers_129 (lv_at hl 5 rfl) ?_
        refine lv_ishl hx hb dX0_tryLowers_131 ?_
        refine lv_ior hx hb dX0_tryLowers_132 ?_
        refine lv_iconst (v := (-1 : Int32)) hx hb dX0_tryLowers_133 (by decide) ?_
        refine lv_ixor hx hb dX0_tryLowers_134 ?_
        refine lv_iand hx hb dX0_tryLowers_135 ?_
        refine kp_v (wr := ([] : va_W)) (va_runV (As := [.int (nI 4), .int (a2 + (1 : Int32)), .int (a3 &&& (((jshl (1 : Int32) a2) ||| (jshl (1 : Int32) x3)) ^^^ (-1 : Int32)))]) (rest := []) ⟨hx, hb, hml, hown, hts⟩ (c_X0_extend_4 l G be beD _ kn z4 z5 z6 (upd z7 3 a2) (upd z8 3 x3) bd bm d0 d1 d2 d3 u35 z10 (a2 + (1 : Int32)) (a3 &&& (((jshl (1 : Int32) a2) ||| (jshl (1 : Int32) x3)) ^^^ (-1 : Int32))) h) (cwV 3 hts gX0_tryLowers_X0_extend rfl rfl rfl (by decide +kernel) ⟨Nat.le_of_ble_eq_true rfl, Nat.le_of_ble_eq_true rfl⟩) (kpVp hK hP hD hZ hS hA (pm_all _) (q0 := 0) (ci := 0) rfl rfl) rfl rfl hl.1 rfl (lv_room (Nat.le_of_ble_eq_true rfl)) dX0_tryLowers_136 ⟨Nat.zero_le _, Nat.zero_le _⟩) hP hD hS hA (pm_all _) (fun w46 H locs h hP hD hS => ?_)
        obtain ⟨u37, u38, u39, u40, u41, u42⟩ := w46
        have hP : va_P G.1 vwCl (wB G be beD kn u37 u38 u39 u40 u41 bd bm d0 d1 d2 d3 u35 u42) H := hP.perm (pm_all _).symm
        have hD : va_D A (wB G be beD kn u37 u38 u39 u40 u41 bd bm d0 d1 d2 d3 u35 u42) := hD.perm (pm_all _).symm
        try dsimp only at h
        refine lv_iinc (v := (x3 + (1 : Int32))) (lv' := [(5, .int (x3 + (1 : Int32))), (0, .ref (be 0)), (1, .int (nI 3)), (2, .int a2), (3, .int a3), (4, .int ((bm a2.toNatClampNeg) &&& a3))]) hx hb dX0_tryLowers_139 hl (k := 5) rfl rfl (by decide) rfl (fun ls hl => ?_)
        refine lv_goto (tgt := 19) hx hb dX0_tryLowers_142 (by decide) ?_
        obtain ⟨n44, hn43, hI45⟩ := h
        exact ih15 n44 ((x3 + (1 : Int32)), u37, u38, u39, u40, u41, u35, u42) hn43 hI45 _ _ _ ⟨hP, hD, hS, lv_sub hl [1, 2, 3, 4, 5, 0] rfl⟩
def wp_X0_extend_3 (a2 : Int32) (a3 : Int32) (ct : Int32) (bu : Nat → Int32) (bl : Nat → Int32) (tu : Nat → Int32) (tl : Nat → Int32) (bd : Nat → Int32) (bm : Nat → Int32) (d3 : Nat → Int32) (d4 : Nat → Int32) (d5 : Nat → Int32) (K : Int32 → (Nat → Int32) → (Nat → Int32) → (Nat → Int32) → (Nat → Int32) → (Nat → Int32) → (Nat → Int32) → Prop) : Prop :=
 (Jn3 (fun (z2 : Int32) (z3 : Nat → Int32) (z4 : Nat → Int32) => (Lp8 a2 z2 z3 z4 tu tl d4 d5 (fun (x7 : Int32) (z8 : Int32) (z9 : Nat → Int32) (z10 : Nat → Int32) (z11 : Nat → Int32) (z12 : Nat → Int32) (z13 : Nat → Int32) (z14 : Nat → Int32) (J18 : Int32 → Int32 → (Nat → Int32) → (Nat → Int32) → (Nat → Int32) → (Nat → Int32) → (Nat → Int32) → (Nat → Int32) → Prop) => (((nI 10) ≤ x7 → K z8 z9 z10 z11 z12 z13 z14) ∧
 (¬ ((nI 10) ≤ x7) → wp_X0_mostFolds a3 x7 (fun (r22 : Int32) => ((z8 < ((nI 3) + r22) → wp_X5_contains a3 x7 (fun (r24 : Int32) => ((r24 = 0 → J18 (x7 + (1 : Int32)) z8 z9 z10 z11 z12 z13 z14) ∧
 (¬ (r24 = 0) → wp_X0_tryLowers_3 x7 a3 z8 z9 z10 z11 z12 bd bm d3 z13 z14 (fun (u30 : Int32) (u31 : Nat → Int32) (u32 : Nat → Int32) (u33 : Nat → Int32) (u34 : Nat → Int32) (u35 : Nat → Int32) (u36 : Nat → Int32) => J18 (x7 + (1 : Int32)) u30 u31 u32 u33 u34 u35 u36))))) ∧
 (¬ (z8 < ((nI 3) + r22)) → K z8 z9 z10 z11 z12 z13 z14))))))))
 (fun (J5 : Int32 → (Nat → Int32) → (Nat → Int32) → Prop) => (((nI 3) ≤ ct → J5 ct bu bl) ∧
 (¬ ((nI 3) ≤ ct) → wp_X0_keep_3 ct bu bl tu tl (fun (u44 : Int32) (u45 : Nat → Int32) (u46 : Nat → Int32) => J5 u44 u45 u46)))))
abbrev rm_X0_extend_3 : Room := { frames := 7, cells := 0, slots := 0, locals := 181 }
set_option maxHeartbeats 4000000 in
set_option maxRecDepth 100000 in
theorem c_X0_extend_3 (l : Launch) (G : GG) (be : Nat → Nat) (beD : Nat → Nat → Nat) (sz : Nat) (kn : Int32) (ct : Int32) (bu : Nat → Int32) (bl : Nat → Int32) (tu : Nat → Int32) (tl : Nat → Int32) (bd : Nat → Int32) (bm : Nat → Int32) (d0 : Nat → Int32) (d1 : Nat → Int32) (d2 : Nat → Int32) (d3 : Nat → Int32) (d4 : Nat → Int32) (d5 : Nat → Int32) (a2 : Int32) (a3 : Int32) {K : Int32 → (Nat → Int32) → (Nat → Int32) → (Nat → Int32) → (Nat → Int32) → (Nat → Int32) → (Nat → Int32) → Prop} (h : wp_X0_extend_3 a2 a3 ct bu bl tu tl bd bm d3 d4 d5 K) : CV l yX0_extend wsX0_extend rm_X0_extend_3 G [.ref (be 0), .int (nI 3), .int a2, .int a3] (wB G be beD kn ct bu bl tu tl bd bm d0 d1 d2 d3 d4 d5) sz (fun u : Int32 × (Nat → Int32) × (Nat → Int32) × (Nat → Int32) × (Nat → Int32) × (Nat → Int32) × (Nat → Int32) => wB G be beD kn u.1 u.2.1 u.2.2.1 u.2.2.2.1 u.2.2.2.2.1 bd bm d0 d1 d2 d3 u.2.2.2.2.2.1 u.2.2.2.2.2.2) (fun u => K u.1 u.2.1 u.2.2.1 u.2.2.2.1 u.2.2.2.2.1 u.2.2.2.2.2.1 u.2.2.2.2.2.2) := by
  refine Met.ofW (cc := cX0_extend) (maxL := 5) (ret := none) (by decide) rfl ?_
  intro p e s m args below meth c s₁ B hml hv
  obtain ⟨rfl, hsz, hP, hK, hD0, hZ⟩ := hv
  have hx := B.exec
  have hb := B.bytes
  have hr := B.returns
  have hts := atoms_spec (ws := wsX0_extend) B.pre
  have hown : s.vm.findClass RX0 = some m.cls := findClass_of_methodNamed B.named
  have hlocks := B.notSynchronized
  subst hsz
  have hD := hD0.self (sz := s.heap.size)
  generalize hAe : va_A (wB G be beD kn ct bu bl tu tl bd bm d0 d1 d2 d3 d4 d5) s.heap.size = A at hD hZ ⊢
  have hA : ∀ q : Nat, s.heap.size ≤ q → A q := fun q h => by rw [← hAe]; exact Or.inr h
  have hS : va_S A s.heap s.heap [] := va_S.rf
  have hl := lv_entry ([.ref (be 0), .int (nI 3), .int a2, .int a3]) (n := 5) (Nat.le_of_ble_eq_true rfl)
  rw [lg_entry_eq]
  generalize (lg_sl ([.ref (be 0), .int (nI 3), .int a2, .int a3]) ++ List.replicate (5 - (lg_sl ([.ref (be 0), .int (nI 3), .int a2, .int a3])).length) Slot.unset).toArray = ls at hl ⊢
  have hl : lv_has ls 5 [(0, .ref (be 0)), (1, .int (nI 3)), (2, .int a2), (3, .int a3)] := hl
  unfold wp_X0_extend_3 at h
  have hinX0 : ∀ w ∈ wsX00, w ∈ wsX0_extend := by decide +kernel
  refine lv_iload_n hx hb dX0_extend_0 rfl (lv_at hl 1 rfl) ?_
  refine lv_aload_n hx hb dX0_extend_1 rfl (lv_at hl 0 rfl) ?_
  refine va_get (D := G.1) (ci := 0) (v := .int ct) (C := RX0) (T := TX0) (N := 9) hx hb hts hinX0 hown hK.1 hP 0 rfl rfl 1 (by decide) (hts (.fieldLink RX0 15 "PlaFolder$BestFolding" "count" "I") (by decide +kernel)) (fun _ h9 => h9) rfl dX0_extend_2 ?_
  obtain ⟨J5, hJ48, h⟩ := h
  refine joinW (σ := Int32 × (Nat → Int32) × (Nat → Int32)) (J := fun q => J5 q.1 q.2.1 q.2.2) (pc := 13) (st := fun q => []) (P := fun q H locs ls => va_P G.1 vwCl (wB G be beD kn q.1 q.2.1 q.2.2 tu tl bd bm d0 d1 d2 d3 d4 d5) H ∧ va_D A (wB G be beD kn q.1 q.2.1 q.2.2 tu tl bd bm d0 d1 d2 d3 d4 d5) ∧ va_S A s.heap H locs ∧ lv_has ls 5 [(0, .ref (be 0)), (1, .int (nI 3)), (2, .int a2), (3, .int a3)]) ?_ (fun join6 => ?_)
  · rintro ⟨z2, z3, z4⟩ h H locs ls ⟨hP, hD, hS, hl⟩
    have hP : va_P G.1 vwCl (wB G be beD kn z2 z3 z4 tu tl bd bm d0 d1 d2 d3 d4 d5) H := hP
    have hD : va_D A (wB G be beD kn z2 z3 z4 tu tl bd bm d0 d1 d2 d3 d4 d5) := hD
    have hl : lv_has ls 5 [(0, .ref (be 0)), (1, .int (nI 3)), (2, .int a2), (3, .int a3)] := hl
    have h := hJ48 z2 z3 z4 h
    refine W.eq (g2 := F0 m 13 ls ([])) rfl ?_
    refine lv_iload_n hx hb dX0_extend_13 rfl (lv_at hl 2 rfl) ?_
    refine lv_istore (lv' := [(4, .int a2), (0, .ref (be 0)), (1, .int (nI 3)), (2, .int a2), (3, .int a3)]) hx hb dX0_extend_14 hl (by decide) rfl (fun ls hl => ?_)
    obtain ⟨I15, n16, h0, hst17⟩ := h
    refine loopW (σ := Int32 × Int32 × (Nat → Int32) × (Nat → Int32) × (Nat → Int32) × (Nat → Int32) × (Nat → Int32) × (Nat → Int32)) (P := fun q H locs ls => va_P G.1 vwCl (wB G be beD kn q.2.1 q.2.2.1 q.2.2.2.1 q.2.2.2.2.1 q.2.2.2.2.2.1 bd bm d0 d1 d2 d3 q.2.2.2.2.2.2.1 q.2.2.2.2.2.2.2) H ∧ va_D A (wB G be beD kn q.2.1 q.2.2.1 q.2.2.2.1 q.2.2.2.2.1 q.2.2.2.2.2.1 bd bm d0 d1 d2 d3 q.2.2.2.2.2.2.1 q.2.2.2.2.2.2.2) ∧ va_S A s.heap H locs ∧ lv_has ls 5 [(0, .ref (be 0)), (1, .int (nI 3)), (3, .int a3), (4, .int q.1)]) (I := fun n q => I15 n q.1 q.2.1 q.2.2.1 q.2.2.2.1 q.2.2.2.2.1 q.2.2.2.2.2.1 q.2.2.2.2.2.2.1 q.2.2.2.2.2.2.2) n16 (a2, z2, z3, z4, tu, tl, d4, d5) h0 _ _ _ ⟨hP, hD, hS, lv_sub hl [1, 2, 4, 0] rfl⟩ ?_
    rintro n20 ⟨x7, z8, z9, z10, z11, z12, z13, z14⟩ hI ih19 H locs ls ⟨hP, hD, hS, hl⟩
    have hP : va_P G.1 vwCl (wB G be beD kn z8 z9 z10 z11 z12 bd bm d0 d1 d2 d3 z13 z14) H := hP
    have hD : va_D A (wB G be beD kn z8 z9 z10 z11 z12 bd bm d0 d1 d2 d3 z13 z14) := hD
    have hl : lv_has ls 5 [(0, .ref (be 0)), (1, .int (nI 3)), (3, .int a3), (4, .int x7)] := hl
    have h := hst17 n20 x7 z8 z9 z10 z11 z12 z13 z14 hI
    refine lv_iload hx hb dX0_extend_16 (lv_at hl 3 rfl) ?_
    refine lv_bipush (v := (nI 10)) hx hb dX0_extend_18 (by decide) ?_
    refine lv_icmp_ge (tgt := 62) hx hb dX0_extend_20 (by decide) (fun c_21 => ?_) (fun c_21 => ?_)
    · have h := h.1 c_21
      exact W.vret hx hb hr (fun t ht hW => ⟨⟨(z8, z9, z10, z11, z12, z13, z14), rfl, h, by rw [ht]; exact hP, hD⟩, hS.F ht⟩) hS.2.2 dX0_extend_62
    · have h := h.2 c_21
      refine lv_iload_n hx hb dX0_extend_23 rfl (lv_at hl 1 rfl) ?_
      refine lv_iload_n hx hb dX0_extend_24 rfl (lv_at hl 2 rfl) ?_
      refine lv_iload hx hb dX0_extend_25 (lv_at hl 3 rfl) ?_
      refine kp_i (wr := wB G be beD kn z8 z9 z10 z11 z12 bd bm d0 d1 d2 d3 z13 z14) (va_runS (As := [.int a3, .int x7]) (rest := [.int (nI 3)]) ⟨hx, hb, hml, hown, hts⟩ (c_X0_mostFolds l G  _  a3 x7 h) (va_cwS 2 hts gX0_extend_X0_mostFolds rfl rfl rfl (by decide +kernel) ⟨Nat.le_of_ble_eq_true rfl, Nat.le_of_ble_eq_true rfl⟩) (kpSp hK hP hD hZ hS hA (pm_nil _)) rfl rfl hl.1 rfl (lv_room (Nat.le_of_ble_eq_true rfl)) dX0_extend_27 ⟨Nat.zero_le _, Nat.zero_le _⟩) hP hD hS hA (pm_nil _) (fun r22 w42 H locs h hP hD hS => ?_)
      have hP : va_P G.1 vwCl (wB G be beD kn z8 z9 z10 z11 z12 bd bm d0 d1 d2 d3 z13 z14) H := hP.perm (pm_nil _).symm
      have hD : va_D A (wB G be beD kn z8 z9 z10 z11 z12 bd bm d0 d1 d2 d3 z13 z14) := hD.perm (pm_nil _).symm
      try dsimp only at h
      refine lv_iadd hx hb dX0_extend_30 ?_
      refine lv_aload_n hx hb dX0_extend_31 rfl (lv_at hl 0 rfl) ?_
      refine va_get (D := G.1) (ci := 0) (v := .int z8) (C := RX0) (T := TX0) (N := 9) hx hb hts hinX0 hown hK.1 hP 0 rfl rfl 1 (by decide) (hts (.fieldLink RX0 15 "PlaFolder$BestFolding" "count" "I") (by decide +kernel)) (fun _ h9 => h9) rfl dX0_extend_32 ?_
      refine lv_icmp_gt (tgt := 39) hx hb dX0_extend_35 (by decide) (fun c_23 => ?_) (fun c_23 => ?_)
      · have h := h.1 c_23
        refine lv_iload_n hx hb dX0_extend_39 rfl (lv_at hl 2 rfl) ?_
        refine lv_iload hx hb dX0_extend_40 (lv_at hl 3 rfl) ?_
        refine kp_i (wr := wB G be beD kn z8 z9 z10 z11 z12 bd bm d0 d1 d2 d3 z13 z14) (va_runSN (As := [.int a3, .int x7]) (rest := []) ⟨hx, hb, hml, hown, hts⟩ (c_X5_contains l G  _  a3 x7 h) ⟨va_cnB 2 hts gX0_extend_X5_contains_n79 rfl rfl rfl (hK.2.M 35 (q := ("PlaFolder$BestFolding", 79, ⟨"PlaFolder", "contains", "(II)Z"⟩, "PlaFolder")) rfl) (hts (.initialized RX5) (by decide +kernel)) (by decide +kernel) ⟨Nat.le_of_ble_eq_true rfl, Nat.le_of_ble_eq_true rfl⟩, hts (.static yX5_contains) (by decide +kernel), trivial⟩ (kpSp hK hP hD hZ hS hA (pm_nil _)) rfl rfl hl.1 rfl (lv_room (Nat.le_of_ble_eq_true rfl)) dX0_extend_42 ⟨Nat.zero_le _, Nat.zero_le _⟩) hP hD hS hA (pm_nil _) (fun r24 w41 H locs h hP hD hS => ?_)
        have hP : va_P G.1 vwCl (wB G be beD kn z8 z9 z10 z11 z12 bd bm d0 d1 d2 d3 z13 z14) H := hP.perm (pm_nil _).symm
        have hD : va_D A (wB G be beD kn z8 z9 z10 z11 z12 bd bm d0 d1 d2 d3 z13 z14) := hD.perm (pm_nil _).symm
        try dsimp only at h
        refine lv_if_eq (tgt := 56) hx hb dX0_extend_45 (by decide) (fun c_25 => ?_) (fun c_25 => ?_)
        · have h := h.1 c_25
          refine lv_iinc (v := (x7 + (1 : Int32))) (lv' := [(4, .int (x7 + (1 : Int32))), (0, .ref (be 0)), (1, .int (nI 3)), (3, .int a3)]) hx hb dX0_extend_56 hl (k := 3) rfl rfl (by decide) rfl (fun ls hl => ?_)
          refine lv_goto (tgt := 16) hx hb dX0_extend_59 (by decide) ?_
          obtain ⟨n27, hn26, hI28⟩ := h
          exact ih19 n27 ((x7 + (1 : Int32)), z8, z9, z10, z11, z12, z13, z14) hn26 hI28 _ _ _ ⟨hP, hD, hS, lv_sub hl [1, 2, 3, 0] rfl⟩
        · have h := h.2 c_25
          refine lv_aload_n hx hb dX0_extend_48 rfl (lv_at hl 0 rfl) ?_
          refine lv_iload_n hx hb dX0_extend_49 rfl (lv_at hl 1 rfl) ?_
          refine lv_iload hx hb dX0_extend_50 (lv_at hl 3 rfl) ?_
          refine lv_iload_n hx hb dX0_extend_52 rfl (lv_at hl 2 rfl) ?_
          refine kp_v (wr := ([] : va_W)) (va_runV (As := [.int (nI 3), .int x7, .int a3]) (rest := []) ⟨hx, hb, hml, hown, hts⟩ (c_X0_tryLowers_3 l G be beD _ kn z8 z9 z10 z11 z12 bd bm d0 d1 d2 d3 z13 z14 x7 a3 h) (cwV 3 hts gX0_extend_X0_tryLowers rfl rfl rfl (by decide +kernel) ⟨Nat.le_of_ble_eq_true rfl, Nat.le_of_ble_eq_true rfl⟩) (kpVp hK hP hD hZ hS hA (pm_all _) (q0 := 0) (ci := 0) rfl rfl) rfl rfl hl.1 rfl (lv_room (Nat.le_of_ble_eq_true rfl)) dX0_extend_53 ⟨Nat.zero_le _, Nat.zero_le _⟩) hP hD hS hA (pm_all _) (fun w40 H locs h hP hD hS => ?_)
          obtain ⟨u30, u31, u32, u33, u34, u35, u36⟩ := w40
          have hP : va_P G.1 vwCl (wB G be beD kn u30 u31 u32 u33 u34 bd bm d0 d1 d2 d3 u35 u36) H := hP.perm (pm_all _).symm
          have hD : va_D A (wB G be beD kn u30 u31 u32 u33 u34 bd bm d0 d1 d2 d3 u35 u36) := hD.perm (pm_all _).symm
          try dsimp only at h
          refine lv_iinc (v := (x7 + (1 : Int32))) (lv' := [(4, .int (x7 + (1 : Int32))), (0, .ref (be 0)), (1, .int (nI 3)), (3, .int a3)]) hx hb dX0_extend_56 hl (k := 3) rfl rfl (by decide) rfl (fun ls hl => ?_)
          refine lv_goto (tgt := 16) hx hb dX0_extend_59 (by decide) ?_
          obtain ⟨n38, hn37, hI39⟩ := h
          exact ih19 n38 ((x7 + (1 : Int32)), u30, u31, u32, u33, u34, u35, u36) hn37 hI39 _ _ _ ⟨hP, hD, hS, lv_sub hl [1, 2, 3, 0] rfl⟩
      · have h := h.2 c_23
        exact W.vret hx hb hr (fun t ht hW => ⟨⟨(z8, z9, z10, z11, z12, z13, z14), rfl, h, by rw [ht]; exact hP, hD⟩, hS.F ht⟩) hS.2.2 dX0_extend_38
  · refine lv_icmp_le (tgt := 13) hx hb dX0_extend_5 (by decide) (fun c_1 => ?_) (fun c_1 => ?_)
    · have h := h.1 c_1
      exact join6 (ct, bu, bl) h _ _ _ ⟨hP, hD, hS, lv_sub hl [0, 1, 2, 3] rfl⟩
    · have h := h.2 c_1
      refine lv_aload_n hx hb dX0_extend_8 rfl (lv_at hl 0 rfl) ?_
      refine lv_iload_n hx hb dX0_extend_9 rfl (lv_at hl 1 rfl) ?_
      refine kp_v (wr := ([] : va_W)) (va_runV (As := [.int (nI 3)]) (rest := []) ⟨hx, hb, hml, hown, hts⟩ (c_X0_keep_3 l G be beD _ kn ct bu bl tu tl bd bm d0 d1 d2 d3 d4 d5  h) (cwV 1 hts gX0_extend_X0_keep rfl rfl rfl (by decide +kernel) ⟨Nat.le_of_ble_eq_true rfl, Nat.le_of_ble_eq_true rfl⟩) (kpVp hK hP hD hZ hS hA (pm_all _) (q0 := 0) (ci := 0) rfl rfl) rfl rfl hl.1 rfl (lv_room (Nat.le_of_ble_eq_true rfl)) dX0_extend_10 ⟨Nat.zero_le _, Nat.zero_le _⟩) hP hD hS hA (pm_all _) (fun w47 H locs h hP hD hS => ?_)
      obtain ⟨u44, u45, u46⟩ := w47
      have hP : va_P G.1 vwCl (wB G be beD kn u44 u45 u46 tu tl bd bm d0 d1 d2 d3 d4 d5) H := hP.perm (pm_all _).symm
      have hD : va_D A (wB G be beD kn u44 u45 u46 tu tl bd bm d0 d1 d2 d3 d4 d5) := hD.perm (pm_all _).symm
      try dsimp only at h
      exact join6 (u44, u45, u46) h _ _ _ ⟨hP, hD, hS, lv_sub hl [0, 1, 2, 3] rfl⟩
def wp_X0_tryLowers_2 (a2 : Int32) (a3 : Int32) (ct : Int32) (bu : Nat → Int32) (bl : Nat → Int32) (tu : Nat → Int32) (tl : Nat → Int32) (bd : Nat → Int32) (bm : Nat → Int32) (d2 : Nat → Int32) (d3 : Nat → Int32) (d4 : Nat → Int32) (d5 : Nat → Int32) (K : Int32 → (Nat → Int32) → (Nat → Int32) → (Nat → Int32) → (Nat → Int32) → (Nat → Int32) → (Nat → Int32) → (Nat → Int32) → Prop) : Prop :=
 (vp_in a2 10 ∧ (Lp9 (0 : Int32) ct bu bl tu tl d3 d4 d5 (fun (x3 : Int32) (z4 : Int32) (z5 : Nat → Int32) (z6 : Nat → Int32) (z7 : Nat → Int32) (z8 : Nat → Int32) (z9 : Nat → Int32) (z10 : Nat → Int32) (z11 : Nat → Int32) (J15 : Int32 → Int32 → (Nat → Int32) → (Nat → Int32) → (Nat → Int32) → (Nat → Int32) → (Nat → Int32) → (Nat → Int32) → (Nat → Int32) → Prop) => (((nI 10) ≤ x3 → K z4 z5 z6 z7 z8 z9 z10 z11) ∧
 (¬ ((nI 10) ≤ x3) → wp_X5_contains ((bm a2.toNatClampNeg) &&& a3) x3 (fun (r19 : Int32) => ((r19 = 0 → J15 (x3 + (1 : Int32)) z4 z5 z6 z7 z8 z9 z10 z11) ∧
 (¬ (r19 = 0) → (vp_in a2 10 ∧ (vp_in x3 10 ∧ wp_X1_allow (bd a2.toNatClampNeg) (bd x3.toNatClampNeg) d2 (fun (r26 : Int32) => ((r26 = 0 → J15 (x3 + (1 : Int32)) z4 z5 z6 z7 z8 z9 z10 z11) ∧
 (¬ (r26 = 0) → wp_X1_copyFrom z9 d2 (fun (u32 : Nat → Int32) => (vp_in a2 10 ∧ (vp_in x3 10 ∧ wp_X1_add (bd a2.toNatClampNeg) (bd x3.toNatClampNeg) u32 (fun (u36 : Nat → Int32) => wp_X0_extend_3 (a2 + (1 : Int32)) (a3 &&& (((jshl (1 : Int32) a2) ||| (jshl (1 : Int32) x3)) ^^^ (-1 : Int32))) z4 z5 z6 (upd z7 2 a2) (upd z8 2 x3) bd bm u36 z10 z11 (fun (u38 : Int32) (u39 : Nat → Int32) (u40 : Nat → Int32) (u41 : Nat → Int32) (u42 : Nat → Int32) (u43 : Nat → Int32) (u44 : Nat → Int32) => J15 (x3 + (1 : Int32)) u38 u39 u40 u41 u42 u36 u43 u44))))))))))))))))))
abbrev rm_X0_tryLowers_2 : Room := { frames := 8, cells := 0, slots := 0, locals := 205 }
set_option maxHeartbeats 4000000 in
set_option maxRecDepth 100000 in
theorem c_X0_tryLowers_2 (l : Launch) (G : GG) (be : Nat → Nat) (beD : Nat → Nat → Nat) (sz : Nat) (kn : Int32) (ct : Int32) (bu : Nat → Int32) (bl : Nat → Int32) (tu : Nat → Int32) (tl : Nat → Int32) (bd : Nat → Int32) (bm : Nat → Int32) (d0 : Nat → Int32) (d1 : Nat → Int32) (d2 : Nat → Int32) (d3 : Nat → Int32) (d4 : Nat → Int32) (d5 : Nat → Int32) (a2 : Int32) (a3 : Int32) {K : Int32 → (Nat → Int32) → (Nat → Int32) → (Nat → Int32) → (Nat → Int32) → (Nat → Int32) → (Nat → Int32) → (Nat → Int32) → Prop} (h : wp_X0_tryLowers_2 a2 a3 ct bu bl tu tl bd bm d2 d3 d4 d5 K) : CV l yX0_tryLowers wsX0_tryLowers rm_X0_tryLowers_2 G [.ref (be 0), .int (nI 2), .int a2, .int a3] (wB G be beD kn ct bu bl tu tl bd bm d0 d1 d2 d3 d4 d5) sz (fun u : Int32 × (Nat → Int32) × (Nat → Int32) × (Nat → Int32) × (Nat → Int32) × (Nat → Int32) × (Nat → Int32) × (Nat → Int32) => wB G be beD kn u.1 u.2.1 u.2.2.1 u.2.2.2.1 u.2.2.2.2.1 bd bm d0 d1 d2 u.2.2.2.2.2.1 u.2.2.2.2.2.2.1 u.2.2.2.2.2.2.2) (fun u => K u.1 u.2.1 u.2.2.1 u.2.2.2.1 u.2.2.2.2.1 u.2.2.2.2.2.1 u.2.2.2.2.2.2.1 u.2.2.2.2.2.2.2) := by
  refine Met.ofW (cc := cX0_tryLowers) (maxL := 6) (ret := none) (by decide) rfl ?_
  intro p e s m args below meth c s₁ B hml hv
  obtain ⟨rfl, hsz, hP, hK, hD0, hZ⟩ := hv
  have hx := B.exec
  have hb := B.bytes
  have hr := B.returns
  have hts := atoms_spec (ws := wsX0_tryLowers) B.pre
  have hown : s.vm.findClass RX0 = some m.cls := findClass_of_methodNamed B.named
  have hlocks := B.notSynchronized
  subst hsz
  have hD := hD0.self (sz := s.heap.size)
  generalize hAe : va_A (wB G be beD kn ct bu bl tu tl bd bm d0 d1 d2 d3 d4 d5) s.heap.size = A at hD hZ ⊢
  have hA : ∀ q : Nat, s.heap.size ≤ q → A q := fun q h => by rw [← hAe]; exact Or.inr h
  have hS : va_S A s.heap s.heap [] := va_S.rf
  have hl := lv_entry ([.ref (be 0), .int (nI 2), .int a2, .int a3]) (n := 6) (Nat.le_of_ble_eq_true rfl)
  rw [lg_entry_eq]
  generalize (lg_sl ([.ref (be 0), .int (nI 2), .int a2, .int a3]) ++ List.replicate (6 - (lg_sl ([.ref (be 0), .int (nI 2), .int a2, .int a3])).length) Slot.unset).toArray = ls at hl ⊢
  have hl : lv_has ls 6 [(0, .ref (be 0)), (1, .int (nI 2)), (2, .int a2), (3, .int a3)] := hl
  unfold wp_X0_tryLowers_2 at h
  have hinX0 : ∀ w ∈ wsX00, w ∈ wsX0_tryLowers := by decide +kernel
  refine lv_iload_n hx hb dX0_tryLowers_0 rfl (lv_at hl 1 rfl) ?_
  refine lv_iconst (v := (nI 5)) hx hb dX0_tryLowers_1 (by decide) ?_
  refine lv_icmp_lt (tgt := 6) hx hb dX0_tryLowers_2 (by decide) (fun _ => ?_) (fun c_1 => absurd c_1 (by decide))
  refine lv_aload_n hx hb dX0_tryLowers_6 rfl (lv_at hl 0 rfl) ?_
  refine va_get (D := G.1) (ci := 0) (v := .ref (be 6)) (C := RX0) (T := TX0) (N := 9) hx hb hts hinX0 hown hK.1 hP 0 rfl rfl 7 (by decide) (hts (.fieldLink RX0 35 "PlaFolder$BestFolding" "mates" "[I") (by decide +kernel)) (fun _ h9 => h9) rfl dX0_tryLowers_7 ?_
  refine lv_iload_n hx hb dX0_tryLowers_10 rfl (lv_at hl 2 rfl) ?_
  obtain ⟨hi2, h⟩ := h
  refine x_iald hx hb hK hP 6 rfl hi2 rfl dX0_tryLowers_11 ?_
  refine lv_iload_n hx hb dX0_tryLowers_12 rfl (lv_at hl 3 rfl) ?_
  refine lv_iand hx hb dX0_tryLowers_13 ?_
  refine lv_istore (lv' := [(4, .int ((bm a2.toNatClampNeg) &&& a3)), (0, .ref (be 0)), (1, .int (nI 2)), (2, .int a2), (3, .int a3)]) hx hb dX0_tryLowers_14 hl (by decide) rfl (fun ls hl => ?_)
  refine lv_iconst (v := (0 : Int32)) hx hb dX0_tryLowers_16 (by decide) ?_
  refine lv_istore (lv' := [(5, .int (0 : Int32)), (4, .int ((bm a2.toNatClampNeg) &&& a3)), (0, .ref (be 0)), (1, .int (nI 2)), (2, .int a2), (3, .int a3)]) hx hb dX0_tryLowers_17 hl (by decide) rfl (fun ls hl => ?_)
  obtain ⟨I12, n13, h0, hst14⟩ := h
  refine loopW (σ := Int32 × Int32 × (Nat → Int32) × (Nat → Int32) × (Nat → Int32) × (Nat → Int32) × (Nat → Int32) × (Nat → Int32) × (Nat → Int32)) (P := fun q H locs ls => va_P G.1 vwCl (wB G be beD kn q.2.1 q.2.2.1 q.2.2.2.1 q.2.2.2.2.1 q.2.2.2.2.2.1 bd bm d0 d1 d2 q.2.2.2.2.2.2.1 q.2.2.2.2.2.2.2.1 q.2.2.2.2.2.2.2.2) H ∧ va_D A (wB G be beD kn q.2.1 q.2.2.1 q.2.2.2.1 q.2.2.2.2.1 q.2.2.2.2.2.1 bd bm d0 d1 d2 q.2.2.2.2.2.2.1 q.2.2.2.2.2.2.2.1 q.2.2.2.2.2.2.2.2) ∧ va_S A s.heap H locs ∧ lv_has ls 6 [(0, .ref (be 0)), (1, .int (nI 2)), (2, .int a2), (3, .int a3), (4, .int ((bm a2.toNatClampNeg) &&& a3)), (5, .int q.1)]) (I := fun n q => I12 n q.1 q.2.1 q.2.2.1 q.2.2.2.1 q.2.2.2.2.1 q.2.2.2.2.2.1 q.2.2.2.2.2.2.1 q.2.2.2.2.2.2.2.1 q.2.2.2.2.2.2.2.2) n13 ((0 : Int32), ct, bu, bl, tu, tl, d3, d4, d5) h0 _ _ _ ⟨hP, hD, hS, lv_sub hl [2, 3, 4, 5, 1, 0] rfl⟩ ?_
  rintro n17 ⟨x3, z4, z5, z6, z7, z8, z9, z10, z11⟩ hI ih16 H locs ls ⟨hP, hD, hS, hl⟩
  have hP : va_P G.1 vwCl (wB G be beD kn z4 z5 z6 z7 z8 bd bm d0 d1 d2 z9 z10 z11) H := hP
  have hD : va_D A (wB G be beD kn z4 z5 z6 z7 z8 bd bm d0 d1 d2 z9 z10 z11) := hD
  have hl : lv_has ls 6 [(0, .ref (be 0)), (1, .int (nI 2)), (2, .int a2), (3, .int a3), (4, .int ((bm a2.toNatClampNeg) &&& a3)), (5, .int x3)] := hl
  have h := hst14 n17 x3 z4 z5 z6 z7 z8 z9 z10 z11 hI
  refine lv_iload hx hb dX0_tryLowers_19 (lv_at hl 5 rfl) ?_
  refine lv_bipush (v := (nI 10)) hx hb dX0_tryLowers_21 (by decide) ?_
  refine lv_icmp_ge (tgt := 145) hx hb dX0_tryLowers_23 (by decide) (fun c_18 => ?_) (fun c_18 => ?_)
  · have h := h.1 c_18
    exact W.vret hx hb hr (fun t ht hW => ⟨⟨(z4, z5, z6, z7, z8, z9, z10, z11), rfl, h, by rw [ht]; exact hP, hD⟩, hS.F ht⟩) hS.2.2 dX0_tryLowers_145
  · have h := h.2 c_18
    refine lv_iload hx hb dX0_tryLowers_26 (lv_at hl 4 rfl) ?_
    refine lv_iload hx hb dX0_tryLowers_28 (lv_at hl 5 rfl) ?_
    refine kp_i (wr := wB G be beD kn z4 z5 z6 z7 z8 bd bm d0 d1 d2 z9 z10 z11) (va_runSN (As := [.int ((bm a2.toNatClampNeg) &&& a3), .int x3]) (rest := []) ⟨hx, hb, hml, hown, hts⟩ (c_X5_contains l G  _  ((bm a2.toNatClampNeg) &&& a3) x3 h) ⟨va_cnB 2 hts gX0_tryLowers_X5_contains_n79 rfl rfl rfl (hK.2.M 35 (q := ("PlaFolder$BestFolding", 79, ⟨"PlaFolder", "contains", "(II)Z"⟩, "PlaFolder")) rfl) (hts (.initialized RX5) (by decide +kernel)) (by decide +kernel) ⟨Nat.le_of_ble_eq_true rfl, Nat.le_of_ble_eq_true rfl⟩, hts (.static yX5_contains) (by decide +kernel), trivial⟩ (kpSp hK hP hD hZ hS hA (pm_nil _)) rfl rfl hl.1 rfl (lv_room (Nat.le_of_ble_eq_true rfl)) dX0_tryLowers_30 ⟨Nat.zero_le _, Nat.zero_le _⟩) hP hD hS hA (pm_nil _) (fun r19 w52 H locs h hP hD hS => ?_)
    have hP : va_P G.1 vwCl (wB G be beD kn z4 z5 z6 z7 z8 bd bm d0 d1 d2 z9 z10 z11) H := hP.perm (pm_nil _).symm
    have hD : va_D A (wB G be beD kn z4 z5 z6 z7 z8 bd bm d0 d1 d2 z9 z10 z11) := hD.perm (pm_nil _).symm
    try dsimp only at h
    refine lv_if_eq (tgt := 139) hx hb dX0_tryLowers_33 (by decide) (fun c_20 => ?_) (fun c_20 => ?_)
    · have h := h.1 c_20
      refine lv_iinc (v := (x3 + (1 : Int32))) (lv' := [(5, .int (x3 + (1 : Int32))), (0, .ref (be 0)), (1, .int (nI 2)), (2, .int a2), (3, .int a3), (4, .int ((bm a2.toNatClampNeg) &&& a3))]) hx hb dX0_tryLowers_139 hl (k := 5) rfl rfl (by decide) rfl (fun ls hl => ?_)
      refine lv_goto (tgt := 19) hx hb dX0_tryLowers_142 (by decide) ?_
      obtain ⟨n22, hn21, hI23⟩ := h
      exact ih16 n22 ((x3 + (1 : Int32)), z4, z5, z6, z7, z8, z9, z10, z11) hn21 hI23 _ _ _ ⟨hP, hD, hS, lv_sub hl [1, 2, 3, 4, 5, 0] rfl⟩
    · have h := h.2 c_20
      refine lv_aload_n hx hb dX0_tryLowers_36 rfl (lv_at hl 0 rfl) ?_
      refine va_get (D := G.1) (ci := 0) (v := .ref (be 7)) (C := RX0) (T := TX0) (N := 9) hx hb hts hinX0 hown hK.1 hP 0 rfl rfl 8 (by decide) (hts (.fieldLink RX0 40 "PlaFolder$BestFolding" "demandsAt" "[LPlaFolder$Demands;") (by decide +kernel)) (fun _ h9 => h9) rfl dX0_tryLowers_37 ?_
      refine lv_iload_n hx hb dX0_tryLowers_40 rfl (lv_at hl 1 rfl) ?_
      refine x_aldq hx hb hK hP 7 2 rfl rfl (vin_c (by decide)) (k := 2) (by decide) (a2 := beD 2 0) rfl dX0_tryLowers_41 ?_
      refine lv_aload_n hx hb dX0_tryLowers_42 rfl (lv_at hl 0 rfl) ?_
      refine va_get (D := G.1) (ci := 0) (v := .ref (be 5)) (C := RX0) (T := TX0) (N := 9) hx hb hts hinX0 hown hK.1 hP 0 rfl rfl 6 (by decide) (hts (.fieldLink RX0 32 "PlaFolder$BestFolding" "used" "[I") (by decide +kernel)) (fun _ h9 => h9) rfl dX0_tryLowers_43 ?_
      refine lv_iload_n hx hb dX0_tryLowers_46 rfl (lv_at hl 2 rfl) ?_
      obtain ⟨hi24, h⟩ := h
      refine x_iald hx hb hK hP 5 rfl hi24 rfl dX0_tryLowers_47 ?_
      refine lv_aload_n hx hb dX0_tryLowers_48 rfl (lv_at hl 0 rfl) ?_
      refine va_get (D := G.1) (ci := 0) (v := .ref (be 5)) (C := RX0) (T := TX0) (N := 9) hx hb hts hinX0 hown hK.1 hP 0 rfl rfl 6 (by decide) (hts (.fieldLink RX0 32 "PlaFolder$BestFolding" "used" "[I") (by decide +kernel)) (fun _ h9 => h9) rfl dX0_tryLowers_49 ?_
      refine lv_iload hx hb dX0_tryLowers_52 (lv_at hl 5 rfl) ?_
      obtain ⟨hi25, h⟩ := h
      refine x_iald hx hb hK hP 5 rfl hi25 rfl dX0_tryLowers_54 ?_
      refine kp_i (wr := wB0 G be beD kn z4 z5 z6 z7 z8 bd bm ++ (wD G (beD 0) d0 ++ (wD G (beD 1) d1 ++ (wD G (beD 3) z9 ++ (wD G (beD 4) z10 ++ (wD G (beD 5) z11)))))) (va_runVN (As := [.int (bd a2.toNatClampNeg), .int (bd x3.toNatClampNeg)]) (rest := []) ⟨hx, hb, hml, hown, hts⟩ (c_X1_allow l G (beD 2) _ d2 (bd a2.toNatClampNeg) (bd x3.toNatClampNeg) h) ⟨va_cnB 2 hts gX0_tryLowers_X1_allow_n85 rfl rfl rfl (hK.2.M 36 (q := ("PlaFolder$BestFolding", 85, ⟨"PlaFolder$Demands", "allow", "(II)Z"⟩, "PlaFolder")) rfl) (hts (.initialized RX1) (by decide +kernel)) (by decide +kernel) ⟨Nat.le_of_ble_eq_true rfl, Nat.le_of_ble_eq_true rfl⟩, hts (.instanceMethod yX1_allow) (by decide +kernel), hts (.selects RX1 yX1_allow yX1_allow) (by decide +kernel)⟩ (kpVp hK hP hD hZ hS hA (pm7_012456_3 (wB0 G be beD kn z4 z5 z6 z7 z8 bd bm) (wD G (beD 0) d0) (wD G (beD 1) d1) (wD G (beD 2) d2) (wD G (beD 3) z9) (wD G (beD 4) z10) (wD G (beD 5) z11)) (q0 := 0) (ci := 1) rfl rfl) rfl rfl hl.1 rfl (lv_room (Nat.le_of_ble_eq_true rfl)) dX0_tryLowers_55 ⟨Nat.zero_le _, Nat.zero_le _⟩) hP hD hS hA (pm7_012456_3 (wB0 G be beD kn z4 z5 z6 z7 z8 bd bm) (wD G (beD 0) d0) (wD G (beD 1) d1) (wD G (beD 2) d2) (wD G (beD 3) z9) (wD G (beD 4) z10) (wD G (beD 5) z11)) (fun r26 w51 H locs h hP hD hS => ?_)
      have hP : va_P G.1 vwCl (wB G be beD kn z4 z5 z6 z7 z8 bd bm d0 d1 d2 z9 z10 z11) H := hP.perm (pm7_012456_3 (wB0 G be beD kn z4 z5 z6 z7 z8 bd bm) (wD G (beD 0) d0) (wD G (beD 1) d1) (wD G (beD 2) d2) (wD G (beD 3) z9) (wD G (beD 4) z10) (wD G (beD 5) z11)).symm
      have hD : va_D A (wB G be beD kn z4 z5 z6 z7 z8 bd bm d0 d1 d2 z9 z10 z11) := hD.perm (pm7_012456_3 (wB0 G be beD kn z4 z5 z6 z7 z8 bd bm) (wD G (beD 0) d0) (wD G (beD 1) d1) (wD G (beD 2) d2) (wD G (beD 3) z9) (wD G (beD 4) z10) (wD G (beD 5) z11)).symm
      try dsimp only at h
      refine lv_if_eq (tgt := 139) hx hb dX0_tryLowers_58 (by decide) (fun c_27 => ?_) (fun c_27 => ?_)
      · have h := h.1 c_27
        refine lv_iinc (v := (x3 + (1 : Int32))) (lv' := [(5, .int (x3 + (1 : Int32))), (0, .ref (be 0)), (1, .int (nI 2)), (2, .int a2), (3, .int a3), (4, .int ((bm a2.toNatClampNeg) &&& a3))]) hx hb dX0_tryLowers_139 hl (k := 5) rfl rfl (by decide) rfl (fun ls hl => ?_)
        refine lv_goto (tgt := 19) hx hb dX0_tryLowers_142 (by decide) ?_
        obtain ⟨n29, hn28, hI30⟩ := h
        exact ih16 n29 ((x3 + (1 : Int32)), z4, z5, z6, z7, z8, z9, z10, z11) hn28 hI30 _ _ _ ⟨hP, hD, hS, lv_sub hl [1, 2, 3, 4, 5, 0] rfl⟩
      · have h := h.2 c_27
        refine lv_aload_n hx hb dX0_tryLowers_61 rfl (lv_at hl 0 rfl) ?_
        refine va_get (D := G.1) (ci := 0) (v := .ref (be 3)) (C := RX0) (T := TX0) (N := 9) hx hb hts hinX0 hown hK.1 hP 0 rfl rfl 4 (by decide) (hts (.fieldLink RX0 26 "PlaFolder$BestFolding" "triedUpper" "[I") (by decide +kernel)) (fun _ h9 => h9) rfl dX0_tryLowers_62 ?_
        refine lv_iload_n hx hb dX0_tryLowers_65 rfl (lv_at hl 1 rfl) ?_
        refine lv_iload_n hx hb dX0_tryLowers_66 rfl (lv_at hl 2 rfl) ?_
        refine x_iast hx hb hK hP hD hS 3 rfl (vin_c (by decide)) (k := 2) (by decide) dX0_tryLowers_67 (fun H locs hP hD hS => ?_)
        have hP : va_P G.1 vwCl (wB G be beD kn z4 z5 z6 (upd z7 2 a2) z8 bd bm d0 d1 d2 z9 z10 z11) H := hP
        have hD : va_D A (wB G be beD kn z4 z5 z6 (upd z7 2 a2) z8 bd bm d0 d1 d2 z9 z10 z11) := hD
        refine lv_aload_n hx hb dX0_tryLowers_68 rfl (lv_at hl 0 rfl) ?_
        refine va_get (D := G.1) (ci := 0) (v := .ref (be 4)) (C := RX0) (T := TX0) (N := 9) hx hb hts hinX0 hown hK.1 hP 0 rfl rfl 5 (by decide) (hts (.fieldLink RX0 29 "PlaFolder$BestFolding" "triedLower" "[I") (by decide +kernel)) (fun _ h9 => h9) rfl dX0_tryLowers_69 ?_
        refine lv_iload_n hx hb dX0_tryLowers_72 rfl (lv_at hl 1 rfl) ?_
        refine lv_iload hx hb dX0_tryLowers_73 (lv_at hl 5 rfl) ?_
        refine x_iast hx hb hK hP hD hS 4 rfl (vin_c (by decide)) (k := 2) (by decide) dX0_tryLowers_75 (fun H locs hP hD hS => ?_)
        have hP : va_P G.1 vwCl (wB G be beD kn z4 z5 z6 (upd z7 2 a2) (upd z8 2 x3) bd bm d0 d1 d2 z9 z10 z11) H := hP
        have hD : va_D A (wB G be beD kn z4 z5 z6 (upd z7 2 a2) (upd z8 2 x3) bd bm d0 d1 d2 z9 z10 z11) := hD
        refine lv_aload_n hx hb dX0_tryLowers_76 rfl (lv_at hl 0 rfl) ?_
        refine va_get (D := G.1) (ci := 0) (v := .ref (be 7)) (C := RX0) (T := TX0) (N := 9) hx hb hts hinX0 hown hK.1 hP 0 rfl rfl 8 (by decide) (hts (.fieldLink RX0 40 "PlaFolder$BestFolding" "demandsAt" "[LPlaFolder$Demands;") (by decide +kernel)) (fun _ h9 => h9) rfl dX0_tryLowers_77 ?_
        refine lv_iload_n hx hb dX0_tryLowers_80 rfl (lv_at hl 1 rfl) ?_
        refine lv_iconst (v := (1 : Int32)) hx hb dX0_tryLowers_81 (by decide) ?_
        refine lv_iadd hx hb dX0_tryLowers_82 ?_
        refine W.eq (g2 := F0 m 83 ls (.int (nI 3) :: .ref (be 7) :: [])) rfl ?_
        refine x_aldq hx hb hK hP 7 2 rfl rfl (vin_c (by decide)) (k := 3) (by decide) (a2 := beD 3 0) rfl dX0_tryLowers_83 ?_
        refine lv_aload_n hx hb dX0_tryLowers_84 rfl (lv_at hl 0 rfl) ?_
        refine va_get (D := G.1) (ci := 0) (v := .ref (be 7)) (C := RX0) (T := TX0) (N := 9) hx hb hts hinX0 hown hK.1 hP 0 rfl rfl 8 (by decide) (hts (.fieldLink RX0 40 "PlaFolder$BestFolding" "demandsAt" "[LPlaFolder$Demands;") (by decide +kernel)) (fun _ h9 => h9) rfl dX0_tryLowers_85 ?_
        refine lv_iload_n hx hb dX0_tryLowers_88 rfl (lv_at hl 1 rfl) ?_
        refine x_aldq hx hb hK hP 7 2 rfl rfl (vin_c (by decide)) (k := 2) (by decide) (a2 := beD 2 0) rfl dX0_tryLowers_89 ?_
        refine kp_v (wr := wB0 G be beD kn z4 z5 z6 (upd z7 2 a2) (upd z8 2 x3) bd bm ++ (wD G (beD 0) d0 ++ (wD G (beD 1) d1 ++ (wD G (beD 4) z10 ++ (wD G (beD 5) z11))))) (va_runVN (As := [.ref (beD 2 0)]) (rest := []) ⟨hx, hb, hml, hown, hts⟩ (c_X1_copyFrom l G (beD 3) (beD 2) _ z9 d2  h) ⟨va_cnB 1 hts gX0_tryLowers_X1_copyFrom_n88 rfl rfl rfl (hK.2.M 37 (q := ("PlaFolder$BestFolding", 88, ⟨"PlaFolder$Demands", "copyFrom", "(LPlaFolder$Demands;)V"⟩, "PlaFolder")) rfl) (hts (.initialized RX1) (by decide +kernel)) (by decide +kernel) ⟨Nat.le_of_ble_eq_true rfl, Nat.le_of_ble_eq_true rfl⟩, hts (.instanceMethod yX1_copyFrom) (by decide +kernel), hts (.selects RX1 yX1_copyFrom yX1_copyFrom) (by decide +kernel)⟩ (kpVp hK hP hD hZ hS hA (pm7_01256_43 (wB0 G be beD kn z4 z5 z6 (upd z7 2 a2) (upd z8 2 x3) bd bm) (wD G (beD 0) d0) (wD G (beD 1) d1) (wD G (beD 2) d2) (wD G (beD 3) z9) (wD G (beD 4) z10) (wD G (beD 5) z11)) (q0 := 0) (ci := 1) rfl rfl) rfl rfl hl.1 rfl (lv_room (Nat.le_of_ble_eq_true rfl)) dX0_tryLowers_90 ⟨Nat.zero_le _, Nat.zero_le _⟩) hP hD hS hA (pm7_01256_43 (wB0 G be beD kn z4 z5 z6 (upd z7 2 a2) (upd z8 2 x3) bd bm) (wD G (beD 0) d0) (wD G (beD 1) d1) (wD G (beD 2) d2) (wD G (beD 3) z9) (wD G (beD 4) z10) (wD G (beD 5) z11)) (fun w50 H locs h hP hD hS => ?_)
        obtain ⟨u32, rfl⟩ : ∃ z, z = w50 := ⟨_, rfl⟩
        have hP : va_P G.1 vwCl (wB G be beD kn z4 z5 z6 (upd z7 2 a2) (upd z8 2 x3) bd bm d0 d1 d2 u32 z10 z11) H := hP.perm (pm7_01256_43 (wB0 G be beD kn z4 z5 z6 (upd z7 2 a2) (upd z8 2 x3) bd bm) (wD G (beD 0) d0) (wD G (beD 1) d1) (wD G (beD 2) d2) (wD G (beD 3) u32) (wD G (beD 4) z10) (wD G (beD 5) z11)).symm
        have hD : va_D A (wB G be beD kn z4 z5 z6 (upd z7 2 a2) (upd z8 2 x3) bd bm d0 d1 d2 u32 z10 z11) := hD.perm (pm7_01256_43 (wB0 G be beD kn z4 z5 z6 (upd z7 2 a2) (upd z8 2 x3) bd bm) (wD G (beD 0) d0) (wD G (beD 1) d1) (wD G (beD 2) d2) (wD G (beD 3) u32) (wD G (beD 4) z10) (wD G (beD 5) z11)).symm
        try dsimp only at h
        refine lv_aload_n hx hb dX0_tryLowers_93 rfl (lv_at hl 0 rfl) ?_
        refine va_get (D := G.1) (ci := 0) (v := .ref (be 7)) (C := RX0) (T := TX0) (N := 9) hx hb hts hinX0 hown hK.1 hP 0 rfl rfl 8 (by decide) (hts (.fieldLink RX0 40 "PlaFolder$BestFolding" "demandsAt" "[LPlaFolder$Demands;") (by decide +kernel)) (fun _ h9 => h9) rfl dX0_tryLowers_94 ?_
        refine lv_iload_n hx hb dX0_tryLowers_97 rfl (lv_at hl 1 rfl) ?_
        refine lv_iconst (v := (1 : Int32)) hx hb dX0_tryLowers_98 (by decide) ?_
        refine lv_iadd hx hb dX0_tryLowers_99 ?_
        refine W.eq (g2 := F0 m 100 ls (.int (nI 3) :: .ref (be 7) :: [])) rfl ?_
        refine x_aldq hx hb hK hP 7 2 rfl rfl (vin_c (by decide)) (k := 3) (by decide) (a2 := beD 3 0) rfl dX0_tryLowers_100 ?_
        refine lv_aload_n hx hb dX0_tryLowers_101 rfl (lv_at hl 0 rfl) ?_
        refine va_get (D := G.1) (ci := 0) (v := .ref (be 5)) (C := RX0) (T := TX0) (N := 9) hx hb hts hinX0 hown hK.1 hP 0 rfl rfl 6 (by decide) (hts (.fieldLink RX0 32 "PlaFolder$BestFolding" "used" "[I") (by decide +kernel)) (fun _ h9 => h9) rfl dX0_tryLowers_102 ?_
        refine lv_iload_n hx hb dX0_tryLowers_105 rfl (lv_at hl 2 rfl) ?_
        obtain ⟨hi33, h⟩ := h
        refine x_iald hx hb hK hP 5 rfl hi33 rfl dX0_tryLowers_106 ?_
        refine lv_aload_n hx hb dX0_tryLowers_107 rfl (lv_at hl 0 rfl) ?_
        refine va_get (D := G.1) (ci := 0) (v := .ref (be 5)) (C := RX0) (T := TX0) (N := 9) hx hb hts hinX0 hown hK.1 hP 0 rfl rfl 6 (by decide) (hts (.fieldLink RX0 32 "PlaFolder$BestFolding" "used" "[I") (by decide +kernel)) (fun _ h9 => h9) rfl dX0_tryLowers_108 ?_
        refine lv_iload hx hb dX0_tryLowers_111 (lv_at hl 5 rfl) ?_
        obtain ⟨hi34, h⟩ := h
        refine x_iald hx hb hK hP 5 rfl hi34 rfl dX0_tryLowers_113 ?_
        refine kp_v (wr := wB0 G be beD kn z4 z5 z6 (upd z7 2 a2) (upd z8 2 x3) bd bm ++ (wD G (beD 0) d0 ++ (wD G (beD 1) d1 ++ (wD G (beD 2) d2 ++ (wD G (beD 4) z10 ++ (wD G (beD 5) z11)))))) (va_runVN (As := [.int (bd a2.toNatClampNeg), .int (bd x3.toNatClampNeg)]) (rest := []) ⟨hx, hb, hml, hown, hts⟩ (c_X1_add l G (beD 3) _ u32 (bd a2.toNatClampNeg) (bd x3.toNatClampNeg) h) ⟨va_cnB 2 hts gX0_tryLowers_X1_add_n92 rfl rfl rfl (hK.2.M 38 (q := ("PlaFolder$BestFolding", 92, ⟨"PlaFolder$Demands", "add", "(II)V"⟩, "PlaFolder")) rfl) (hts (.initialized RX1) (by decide +kernel)) (by decide +kernel) ⟨Nat.le_of_ble_eq_true rfl, Nat.le_of_ble_eq_true rfl⟩, hts (.instanceMethod yX1_add) (by decide +kernel), hts (.selects RX1 yX1_add yX1_add) (by decide +kernel)⟩ (kpVp hK hP hD hZ hS hA (pm7_012356_4 (wB0 G be beD kn z4 z5 z6 (upd z7 2 a2) (upd z8 2 x3) bd bm) (wD G (beD 0) d0) (wD G (beD 1) d1) (wD G (beD 2) d2) (wD G (beD 3) u32) (wD G (beD 4) z10) (wD G (beD 5) z11)) (q0 := 0) (ci := 1) rfl rfl) rfl rfl hl.1 rfl (lv_room (Nat.le_of_ble_eq_true rfl)) dX0_tryLowers_114 ⟨Nat.zero_le _, Nat.zero_le _⟩) hP hD hS hA (pm7_012356_4 (wB0 G be beD kn z4 z5 z6 (upd z7 2 a2) (upd z8 2 x3) bd bm) (wD G (beD 0) d0) (wD G (beD 1) d1) (wD G (beD 2) d2) (wD G (beD 3) u32) (wD G (beD 4) z10) (wD G (beD 5) z11)) (fun w49 H locs h hP hD hS => ?_)
        obtain ⟨u36, rfl⟩ : ∃ z, z = w49 := ⟨_, rfl⟩
        have hP : va_P G.1 vwCl (wB G be beD kn z4 z5 z6 (upd z7 2 a2) (upd z8 2 x3) bd bm d0 d1 d2 u36 z10 z11) H := hP.perm (pm7_012356_4 (wB0 G be beD kn z4 z5 z6 (upd z7 2 a2) (upd z8 2 x3) bd bm) (wD G (beD 0) d0) (wD G (beD 1) d1) (wD G (beD 2) d2) (wD G (beD 3) u36) (wD G (beD 4) z10) (wD G (beD 5) z11)).symm
        have hD : va_D A (wB G be beD kn z4 z5 z6 (upd z7 2 a2) (upd z8 2 x3) bd bm d0 d1 d2 u36 z10 z11) := hD.perm (pm7_012356_4 (wB0 G be beD kn z4 z5 z6 (upd z7 2 a2) (upd z8 2 x3) bd bm) (wD G (beD 0) d0) (wD G (beD 1) d1) (wD G (beD 2) d2) (wD G (beD 3) u36) (wD G (beD 4) z10) (wD G (beD 5) z11)).symm
        try dsimp only at h
        refine lv_aload_n hx hb dX0_tryLowers_117 rfl (lv_at hl 0 rfl) ?_
        refine lv_iload_n hx hb dX0_tryLowers_118 rfl (lv_at hl 1 rfl) ?_
        refine lv_iconst (v := (1 : Int32)) hx hb dX0_tryLowers_119 (by decide) ?_
        refine lv_iadd hx hb dX0_tryLowers_120 ?_
        refine W.eq (g2 := F0 m 121 ls (.int (nI 3) :: .ref (be 0) :: [])) rfl ?_
        refine lv_iload_n hx hb dX0_tryLowers_121 rfl (lv_at hl 2 rfl) ?_
        refine lv_iconst (v := (1 : Int32)) hx hb dX0_tryLowers_122 (by decide) ?_
        refine lv_iadd hx hb dX0_tryLowers_123 ?_
        refine lv_iload_n hx hb dX0_tryLowers_124 rfl (lv_at hl 3 rfl) ?_
        refine lv_iconst (v := (1 : Int32)) hx hb dX0_tryLowers_125 (by decide) ?_
        refine lv_iload_n hx hb dX0_tryLowers_126 rfl (lv_at hl 2 rfl) ?_
        refine lv_ishl hx hb dX0_tryLowers_127 ?_
        refine lv_iconst (v := (1 : Int32)) hx hb dX0_tryLowers_128 (by decide) ?_
        refine lv_iload hx hb dX0_tryLowers_129 (lv_at hl 5 rfl) ?_
        refine lv_ishl hx hb dX0_tryLowers_131 ?_
        refine lv_ior hx hb dX0_tryLowers_132 ?_
        refine lv_iconst (v := (-1 : Int32)) hx hb dX0_tryLowers_133 (by decide) ?_
        refine lv_ixor hx hb dX0_tryLowers_134 ?_
        refine lv_iand hx hb dX0_tryLowers_135 ?_
        refine kp_v (wr := ([] : va_W)) (va_runV (As := [.int (nI 3), .int (a2 + (1 : Int32)), .int (a3 &&& (((jshl (1 : Int32) a2) ||| (jshl (1 : Int32) x3)) ^^^ (-1 : Int32)))]) (rest := []) ⟨hx, hb, hml, hown, hts⟩ (c_X0_extend_3 l G be beD _ kn z4 z5 z6 (upd z7 2 a2) (upd z8 2 x3) bd bm d0 d1 d2 u36 z10 z11 (a2 + (1 : Int32)) (a3 &&& (((jshl (1 : Int32) a2) ||| (jshl (1 : Int32) x3)) ^^^ (-1 : Int32))) h) (cwV 3 hts gX0_tryLowers_X0_extend rfl rfl rfl (by decide +kernel) ⟨Nat.le_of_ble_eq_true rfl, Nat.le_of_ble_eq_true rfl⟩) (kpVp hK hP hD hZ hS hA (pm_all _) (q0 := 0) (ci := 0) rfl rfl) rfl rfl hl.1 rfl (lv_room (Nat.le_of_ble_eq_true rfl)) dX0_tryLowers_136 ⟨Nat.zero_le _, Nat.zero_le _⟩) hP hD hS hA (pm_all _) (fun w48 H locs h hP hD hS => ?_)
        obtain ⟨u38, u39, u40, u41, u42, u43, u44⟩ := w48
        have hP : va_P G.1 vwCl (wB G be beD kn u38 u39 u40 u41 u42 bd bm d0 d1 d2 u36 u43 u44) H := hP.perm (pm_all _).symm
        have hD : va_D A (wB G be beD kn u38 u39 u40 u41 u42 bd bm d0 d1 d2 u36 u43 u44) := hD.perm (pm_all _).symm
        try dsimp only at h
        refine lv_iinc (v := (x3 + (1 : Int32))) (lv' := [(5, .int (x3 + (1 : Int32))), (0, .ref (be 0)), (1, .int (nI 2)), (2, .int a2), (3, .int a3), (4, .int ((bm a2.toNatClampNeg) &&& a3))]) hx hb dX0_tryLowers_139 hl (k := 5) rfl rfl (by decide) rfl (fun ls hl => ?_)
        refine lv_goto (tgt := 19) hx hb dX0_tryLowers_142 (by decide) ?_
        obtain ⟨n46, hn45, hI47⟩ := h
        exact ih16 n46 ((x3 + (1 : Int32)), u38, u39, u40, u41, u42, u36, u43, u44) hn45 hI47 _ _ _ ⟨hP, hD, hS, lv_sub hl [1, 2, 3, 4, 5, 0] rfl⟩
def wp_X0_extend_2 (a2 : Int32) (a3 : Int32) (ct : Int32) (bu : Nat → Int32) (bl : Nat → Int32) (tu : Nat → Int32) (tl : Nat → Int32) (bd : Nat → Int32) (bm : Nat → Int32) (d2 : Nat → Int32) (d3 : Nat → Int32) (d4 : Nat → Int32) (d5 : Nat → Int32) (K : Int32 → (Nat → Int32) → (Nat → Int32) → (Nat → Int32) → (Nat → Int32) → (Nat → Int32) → (Nat → Int32) → (Nat → Int32) → Prop) : Prop :=
 (Jn3 (fun (z2 : Int32) (z3 : Nat → Int32) (z4 : Nat → Int32) => (Lp9 a2 z2 z3 z4 tu tl d3 d4 d5 (fun (x7 : Int32) (z8 : Int32) (z9 : Nat → Int32) (z10 : Nat → Int32) (z11 : Nat → Int32) (z12 : Nat → Int32) (z13 : Nat → Int32) (z14 : Nat → Int32) (z15 : Nat → Int32) (J19 : Int32 → Int32 → (Nat → Int32) → (Nat → Int32) → (Nat → Int32) → (Nat → Int32) → (Nat → Int32) → (Nat → Int32) → (Nat → Int32) → Prop) => (((nI 10) ≤ x7 → K z8 z9 z10 z11 z12 z13 z14 z15) ∧
 (¬ ((nI 10) ≤ x7) → wp_X0_mostFolds a3 x7 (fun (r23 : Int32) => ((z8 < ((nI 2) + r23) → wp_X5_contains a3 x7 (fun (r25 : Int32) => ((r25 = 0 → J19 (x7 + (1 : Int32)) z8 z9 z10 z11 z12 z13 z14 z15) ∧
 (¬ (r25 = 0) → wp_X0_tryLowers_2 x7 a3 z8 z9 z10 z11 z12 bd bm d2 z13 z14 z15 (fun (u31 : Int32) (u32 : Nat → Int32) (u33 : Nat → Int32) (u34 : Nat → Int32) (u35 : Nat → Int32) (u36 : Nat → Int32) (u37 : Nat → Int32) (u38 : Nat → Int32) => J19 (x7 + (1 : Int32)) u31 u32 u33 u34 u35 u36 u37 u38))))) ∧
 (¬ (z8 < ((nI 2) + r23)) → K z8 z9 z10 z11 z12 z13 z14 z15))))))))
 (fun (J5 : Int32 → (Nat → Int32) → (Nat → Int32) → Prop) => (((nI 2) ≤ ct → J5 ct bu bl) ∧
 (¬ ((nI 2) ≤ ct) → wp_X0_keep_2 ct bu bl tu tl (fun (u46 : Int32) (u47 : Nat → Int32) (u48 : Nat → Int32) => J5 u46 u47 u48)))))
abbrev rm_X0_extend_2 : Room := { frames := 9, cells := 0, slots := 0, locals := 230 }
set_option maxHeartbeats 4000000 in
set_option maxRecDepth 100000 in
theorem c_X0_extend_2 (l : Launch) (G : GG) (be : Nat → Nat) (beD : Nat → Nat → Nat) (sz : Nat) (kn : Int32) (ct : Int32) (bu : Nat → Int32) (bl : Nat → Int32) (tu : Nat → Int32) (tl : Nat → Int32) (bd : Nat → Int32) (bm : Nat → Int32) (d0 : Nat → Int32) (d1 : Nat → Int32) (d2 : Nat → Int32) (d3 : Nat → Int32) (d4 : Nat → Int32) (d5 : Nat → Int32) (a2 : Int32) (a3 : Int32) {K : Int32 → (Nat → Int32) → (Nat → Int32) → (Nat → Int32) → (Nat → Int32) → (Nat → Int32) → (Nat → Int32) → (Nat → Int32) → Prop} (h : wp_X0_extend_2 a2 a3 ct bu bl tu tl bd bm d2 d3 d4 d5 K) : CV l yX0_extend wsX0_extend rm_X0_extend_2 G [.ref (be 0), .int (nI 2), .int a2, .int a3] (wB G be beD kn ct bu bl tu tl bd bm d0 d1 d2 d3 d4 d5) sz (fun u : Int32 × (Nat → Int32) × (Nat → Int32) × (Nat → Int32) × (Nat → Int32) × (Nat → Int32) × (Nat → Int32) × (Nat → Int32) => wB G be beD kn u.1 u.2.1 u.2.2.1 u.2.2.2.1 u.2.2.2.2.1 bd bm d0 d1 d2 u.2.2.2.2.2.1 u.2.2.2.2.2.2.1 u.2.2.2.2.2.2.2) (fun u => K u.1 u.2.1 u.2.2.1 u.2.2.2.1 u.2.2.2.2.1 u.2.2.2.2.2.1 u.2.2.2.2.2.2.1 u.2.2.2.2.2.2.2) := by
  refine Met.ofW (cc := cX0_extend) (maxL := 5) (ret := none) (by decide) rfl ?_
  intro p e s m args below meth c s₁ B hml hv
  obtain ⟨rfl, hsz, hP, hK, hD0, hZ⟩ := hv
  have hx := B.exec
  have hb := B.bytes
  have hr := B.returns
  have hts := atoms_spec (ws := wsX0_extend) B.pre
  have hown : s.vm.findClass RX0 = some m.cls := findClass_of_methodNamed B.named
  have hlocks := B.notSynchronized
  subst hsz
  have hD := hD0.self (sz := s.heap.size)
  generalize hAe : va_A (wB G be beD kn ct bu bl tu tl bd bm d0 d1 d2 d3 d4 d5) s.heap.size = A at hD hZ ⊢
  have hA : ∀ q : Nat, s.heap.size ≤ q → A q := fun q h => by rw [← hAe]; exact Or.inr h
  have hS : va_S A s.heap s.heap [] := va_S.rf
  have hl := lv_entry ([.ref (be 0), .int (nI 2), .int a2, .int a3]) (n := 5) (Nat.le_of_ble_eq_true rfl)
  rw [lg_entry_eq]
  generalize (lg_sl ([.ref (be 0), .int (nI 2), .int a2, .int a3]) ++ List.replicate (5 - (lg_sl ([.ref (be 0), .int (nI 2), .int a2, .int a3])).length) Slot.unset).toArray = ls at hl ⊢
  have hl : lv_has ls 5 [(0, .ref (be 0)), (1, .int (nI 2)), (2, .int a2), (3, .int a3)] := hl
  unfold wp_X0_extend_2 at h
  have hinX0 : ∀ w ∈ wsX00, w ∈ wsX0_extend := by decide +kernel
  refine lv_iload_n hx hb dX0_extend_0 rfl (lv_at hl 1 rfl) ?_
  refine lv_aload_n hx hb dX0_extend_1 rfl (lv_at hl 0 rfl) ?_
  refine va_get (D := G.1) (ci := 0) (v := .int ct) (C := RX0) (T := TX0) (N := 9) hx hb hts hinX0 hown hK.1 hP 0 rfl rfl 1 (by decide) (hts (.fieldLink RX0 15 "PlaFolder$BestFolding" "count" "I") (by decide +kernel)) (fun _ h9 => h9) rfl dX0_extend_2 ?_
  obtain ⟨J5, hJ50, h⟩ := h
  refine joinW (σ := Int32 × (Nat → Int32) × (Nat → Int32)) (J := fun q => J5 q.1 q.2.1 q.2.2) (pc := 13) (st := fun q => []) (P := fun q H locs ls => va_P G.1 vwCl (wB G be beD kn q.1 q.2.1 q.2.2 tu tl bd bm d0 d1 d2 d3 d4 d5) H ∧ va_D A (wB G be beD kn q.1 q.2.1 q.2.2 tu tl bd bm d0 d1 d2 d3 d4 d5) ∧ va_S A s.heap H locs ∧ lv_has ls 5 [(0, .ref (be 0)), (1, .int (nI 2)), (2, .int a2), (3, .int a3)]) ?_ (fun join6 => ?_)
  · rintro ⟨z2, z3, z4⟩ h H locs ls ⟨hP, hD, hS, hl⟩
    have hP : va_P G.1 vwCl (wB G be beD kn z2 z3 z4 tu tl bd bm d0 d1 d2 d3 d4 d5) H := hP
    have hD : va_D A (wB G be beD kn z2 z3 z4 tu tl bd bm d0 d1 d2 d3 d4 d5) := hD
    have hl : lv_has ls 5 [(0, .ref (be 0)), (1, .int (nI 2)), (2, .int a2), (3, .int a3)] := hl
    have h := hJ50 z2 z3 z4 h
    refine W.eq (g2 := F0 m 13 ls ([])) rfl ?_
    refine lv_iload_n hx hb dX0_extend_13 rfl (lv_at hl 2 rfl) ?_
    refine lv_istore (lv' := [(4, .int a2), (0, .ref (be 0)), (1, .int (nI 2)), (2, .int a2), (3, .int a3)]) hx hb dX0_extend_14 hl (by decide) rfl (fun ls hl => ?_)
    obtain ⟨I16, n17, h0, hst18⟩ := h
    refine loopW (σ := Int32 × Int32 × (Nat → Int32) × (Nat → Int32) × (Nat → Int32) × (Nat → Int32) × (Nat → Int32) × (Nat → Int32) × (Nat → Int32)) (P := fun q H locs ls => va_P G.1 vwCl (wB G be beD kn q.2.1 q.2.2.1 q.2.2.2.1 q.2.2.2.2.1 q.2.2.2.2.2.1 bd bm d0 d1 d2 q.2.2.2.2.2.2.1 q.2.2.2.2.2.2.2.1 q.2.2.2.2.2.2.2.2) H ∧ va_D A (wB G be beD kn q.2.1 q.2.2.1 q.2.2.2.1 q.2.2.2.2.1 q.2.2.2.2.2.1 bd bm d0 d1 d2 q.2.2.2.2.2.2.1 q.2.2.2.2.2.2.2.1 q.2.2.2.2.2.2.2.2) ∧ va_S A s.heap H locs ∧ lv_has ls 5 [(0, .ref (be 0)), (1, .int (nI 2)), (3, .int a3), (4, .int q.1)]) (I := fun n q => I16 n q.1 q.2.1 q.2.2.1 q.2.2.2.1 q.2.2.2.2.1 q.2.2.2.2.2.1 q.2.2.2.2.2.2.1 q.2.2.2.2.2.2.2.1 q.2.2.2.2.2.2.2.2) n17 (a2, z2, z3, z4, tu, tl, d3, d4, d5) h0 _ _ _ ⟨hP, hD, hS, lv_sub hl [1, 2, 4, 0] rfl⟩ ?_
    rintro n21 ⟨x7, z8, z9, z10, z11, z12, z13, z14, z15⟩ hI ih20 H locs ls ⟨hP, hD, hS, hl⟩
    have hP : va_P G.1 vwCl (wB G be beD kn z8 z9 z10 z11 z12 bd bm d0 d1 d2 z13 z14 z15) H := hP
    have hD : va_D A (wB G be beD kn z8 z9 z10 z11 z12 bd bm d0 d1 d2 z13 z14 z15) := hD
    have hl : lv_has ls 5 [(0, .ref (be 0)), (1, .int (nI 2)), (3, .int a3), (4, .int x7)] := hl
    have h := hst18 n21 x7 z8 z9 z10 z11 z12 z13 z14 z15 hI
    refine lv_iload hx hb dX0_extend_16 (lv_at hl 3 rfl) ?_
    refine lv_bipush (v := (nI 10)) hx hb dX0_extend_18 (by decide) ?_
    refine lv_icmp_ge (tgt := 62) hx hb dX0_extend_20 (by decide) (fun c_22 => ?_) (fun c_22 => ?_)
    · have h := h.1 c_22
      exact W.vret hx hb hr (fun t ht hW => ⟨⟨(z8, z9, z10, z11, z12, z13, z14, z15), rfl, h, by rw [ht]; exact hP, hD⟩, hS.F ht⟩) hS.2.2 dX0_extend_62
    · have h := h.2 c_22
      refine lv_iload_n hx hb dX0_extend_23 rfl (lv_at hl 1 rfl) ?_
      refine lv_iload_n hx hb dX0_extend_24 rfl (lv_at hl 2 rfl) ?_
      refine lv_iload hx hb dX0_extend_25 (lv_at hl 3 rfl) ?_
      refine kp_i (wr := wB G be beD kn z8 z9 z10 z11 z12 bd bm d0 d1 d2 z13 z14 z15) (va_runS (As := [.int a3, .int x7]) (rest := [.int (nI 2)]) ⟨hx, hb, hml, hown, hts⟩ (c_X0_mostFolds l G  _  a3 x7 h) (va_cwS 2 hts gX0_extend_X0_mostFolds rfl rfl rfl (by decide +kernel) ⟨Nat.le_of_ble_eq_true rfl, Nat.le_of_ble_eq_true rfl⟩) (kpSp hK hP hD hZ hS hA (pm_nil _)) rfl rfl hl.1 rfl (lv_room (Nat.le_of_ble_eq_true rfl)) dX0_extend_27 ⟨Nat.zero_le _, Nat.zero_le _⟩) hP hD hS hA (pm_nil _) (fun r23 w44 H locs h hP hD hS => ?_)
      have hP : va_P G.1 vwCl (wB G be beD kn z8 z9 z10 z11 z12 bd bm d0 d1 d2 z13 z14 z15) H := hP.perm (pm_nil _).symm
      have hD : va_D A (wB G be beD kn z8 z9 z10 z11 z12 bd bm d0 d1 d2 z13 z14 z15) := hD.perm (pm_nil _).symm
      try dsimp only at h
      refine lv_iadd hx hb dX0_extend_30 ?_
      refine lv_aload_n hx hb dX0_extend_31 rfl (lv_at hl 0 rfl) ?_
      refine va_get (D := G.1) (ci := 0) (v := .int z8) (C := RX0) (T := TX0) (N := 9) hx hb hts hinX0 hown hK.1 hP 0 rfl rfl 1 (by decide) (hts (.fieldLink RX0 15 "PlaFolder$BestFolding" "count" "I") (by decide +kernel)) (fun _ h9 => h9) rfl dX0_extend_32 ?_
      refine lv_icmp_gt (tgt := 39) hx hb dX0_extend_35 (by decide) (fun c_24 => ?_) (fun c_24 => ?_)
      · have h := h.1 c_24
        refine lv_iload_n hx hb dX0_extend_39 rfl (lv_at hl 2 rfl) ?_
        refine lv_iload hx hb dX0_extend_40 (lv_at hl 3 rfl) ?_
        refine kp_i (wr := wB G be beD kn z8 z9 z10 z11 z12 bd bm d0 d1 d2 z13 z14 z15) (va_runSN (As := [.int a3, .int x7]) (rest := []) ⟨hx, hb, hml, hown, hts⟩ (c_X5_contains l G  _  a3 x7 h) ⟨va_cnB 2 hts gX0_extend_X5_contains_n79 rfl rfl rfl (hK.2.M 35 (q := ("PlaFolder$BestFolding", 79, ⟨"PlaFolder", "contains", "(II)Z"⟩, "PlaFolder")) rfl) (hts (.initialized RX5) (by decide +kernel)) (by decide +kernel) ⟨Nat.le_of_ble_eq_true rfl, Nat.le_of_ble_eq_true rfl⟩, hts (.static yX5_contains) (by decide +kernel), trivial⟩ (kpSp hK hP hD hZ hS hA (pm_nil _)) rfl rfl hl.1 rfl (lv_room (Nat.le_of_ble_eq_true rfl)) dX0_extend_42 ⟨Nat.zero_le _, Nat.zero_le _⟩) hP hD hS hA (pm_nil _) (fun r25 w43 H locs h hP hD hS => ?_)
        have hP : va_P G.1 vwCl (wB G be beD kn z8 z9 z10 z11 z12 bd bm d0 d1 d2 z13 z14 z15) H := hP.perm (pm_nil _).symm
        have hD : va_D A (wB G be beD kn z8 z9 z10 z11 z12 bd bm d0 d1 d2 z13 z14 z15) := hD.perm (pm_nil _).symm
        try dsimp only at h
        refine lv_if_eq (tgt := 56) hx hb dX0_extend_45 (by decide) (fun c_26 => ?_) (fun c_26 => ?_)
        · have h := h.1 c_26
          refine lv_iinc (v := (x7 + (1 : Int32))) (lv' := [(4, .int (x7 + (1 : Int32))), (0, .ref (be 0)), (1, .int (nI 2)), (3, .int a3)]) hx hb dX0_extend_56 hl (k := 3) rfl rfl (by decide) rfl (fun ls hl => ?_)
          refine lv_goto (tgt := 16) hx hb dX0_extend_59 (by decide) ?_
          obtain ⟨n28, hn27, hI29⟩ := h
          exact ih20 n28 ((x7 + (1 : Int32)), z8, z9, z10, z11, z12, z13, z14, z15) hn27 hI29 _ _ _ ⟨hP, hD, hS, lv_sub hl [1, 2, 3, 0] rfl⟩
        · have h := h.2 c_26
          refine lv_aload_n hx hb dX0_extend_48 rfl (lv_at hl 0 rfl) ?_
          refine lv_iload_n hx hb dX0_extend_49 rfl (lv_at hl 1 rfl) ?_
          refine lv_iload hx hb dX0_extend_50 (lv_at hl 3 rfl) ?_
          refine lv_iload_n hx hb dX0_extend_52 rfl (lv_at hl 2 rfl) ?_
          refine kp_v (wr := ([] : va_W)) (va_runV (As := [.int (nI 2), .int x7, .int a3]) (rest := []) ⟨hx, hb, hml, hown, hts⟩ (c_X0_tryLowers_2 l G be beD _ kn z8 z9 z10 z11 z12 bd bm d0 d1 d2 z13 z14 z15 x7 a3 h) (cwV 3 hts gX0_extend_X0_tryLowers rfl rfl rfl (by decide +kernel) ⟨Nat.le_of_ble_eq_true rfl, Nat.le_of_ble_eq_true rfl⟩) (kpVp hK hP hD hZ hS hA (pm_all _) (q0 := 0) (ci := 0) rfl rfl) rfl rfl hl.1 rfl (lv_room (Nat.le_of_ble_eq_true rfl)) dX0_extend_53 ⟨Nat.zero_le _, Nat.zero_le _⟩) hP hD hS hA (pm_all _) (fun w42 H locs h hP hD hS => ?_)
          obtain ⟨u31, u32, u33, u34, u35, u36, u37, u38⟩ := w42
          have hP : va_P G.1 vwCl (wB G be beD kn u31 u32 u33 u34 u35 bd bm d0 d1 d2 u36 u37 u38) H := hP.perm (pm_all _).symm
          have hD : va_D A (wB G be beD kn u31 u32 u33 u34 u35 bd bm d0 d1 d2 u36 u37 u38) := hD.perm (pm_all _).symm
          try dsimp only at h
          refine lv_iinc (v := (x7 + (1 : Int32))) (lv' := [(4, .int (x7 + (1 : Int32))), (0, .ref (be 0)), (1, .int (nI 2)), (3, .int a3)]) hx hb dX0_extend_56 hl (k := 3) rfl rfl (by decide) rfl (fun ls hl => ?_)
          refine lv_goto (tgt := 16) hx hb dX0_extend_59 (by decide) ?_
          obtain ⟨n40, hn39, hI41⟩ := h
          exact ih20 n40 ((x7 + (1 : Int32)), u31, u32, u33, u34, u35, u36, u37, u38) hn39 hI41 _ _ _ ⟨hP, hD, hS, lv_sub hl [1, 2, 3, 0] rfl⟩
      · have h := h.2 c_24
        exact W.vret hx hb hr (fun t ht hW => ⟨⟨(z8, z9, z10, z11, z12, z13, z14, z15), rfl, h, by rw [ht]; exact hP, hD⟩, hS.F ht⟩) hS.2.2 dX0_extend_38
  · refine lv_icmp_le (tgt := 13) hx hb dX0_extend_5 (by decide) (fun c_1 => ?_) (fun c_1 => ?_)
    · have h := h.1 c_1
      exact join6 (ct, bu, bl) h _ _ _ ⟨hP, hD, hS, lv_sub hl [0, 1, 2, 3] rfl⟩
    · have h := h.2 c_1
      refine lv_aload_n hx hb dX0_extend_8 rfl (lv_at hl 0 rfl) ?_
      refine lv_iload_n hx hb dX0_extend_9 rfl (lv_at hl 1 rfl) ?_
      refine kp_v (wr := ([] : va_W)) (va_runV (As := [.int (nI 2)]) (rest := []) ⟨hx, hb, hml, hown, hts⟩ (c_X0_keep_2 l G be beD _ kn ct bu bl tu tl bd bm d0 d1 d2 d3 d4 d5  h) (cwV 1 hts gX0_extend_X0_keep rfl rfl rfl (by decide +kernel) ⟨Nat.le_of_ble_eq_true rfl, Nat.le_of_ble_eq_true rfl⟩) (kpVp hK hP hD hZ hS hA (pm_all _) (q0 := 0) (ci := 0) rfl rfl) rfl rfl hl.1 rfl (lv_room (Nat.le_of_ble_eq_true rfl)) dX0_extend_10 ⟨Nat.zero_le _, Nat.zero_le _⟩) hP hD hS hA (pm_all _) (fun w49 H locs h hP hD hS => ?_)
      obtain ⟨u46, u47, u48⟩ := w49
      have hP : va_P G.1 vwCl (wB G be beD kn u46 u47 u48 tu tl bd bm d0 d1 d2 d3 d4 d5) H := hP.perm (pm_all _).symm
      have hD : va_D A (wB G be beD kn u46 u47 u48 tu tl bd bm d0 d1 d2 d3 d4 d5) := hD.perm (pm_all _).symm
      try dsimp only at h
      exact join6 (u46, u47, u48) h _ _ _ ⟨hP, hD, hS, lv_sub hl [0, 1, 2, 3] rfl⟩
def wp_X0_tryLowers_1 (a2 : Int32) (a3 : Int32) (ct : Int32) (bu : Nat → Int32) (bl : Nat → Int32) (tu : Nat → Int32) (tl : Nat → Int32) (bd : Nat → Int32) (bm : Nat → Int32) (d1 : Nat → Int32) (d2 : Nat → Int32) (d3 : Nat → Int32) (d4 : Nat → Int32) (d5 : Nat → Int32) (K : Int32 → (Nat → Int32) → (Nat → Int32) → (Nat → Int32) → (Nat → Int32) → (Nat → Int32) → (Nat → Int32) → (Nat → Int32) → (Nat → Int32) → Prop) : Prop :=
 (vp_in a2 10 ∧ (Lp10 (0 : Int32) ct bu bl tu tl d2 d3 d4 d5 (fun (x3 : Int32) (z4 : Int32) (z5 : Nat → Int32) (z6 : Nat → Int32) (z7 : Nat → Int32) (z8 : Nat → Int32) (z9 : Nat → Int32) (z10 : Nat → Int32) (z11 : Nat → Int32) (z12 : Nat → Int32) (J16 : Int32 → Int32 → (Nat → Int32) → (Nat → Int32) → (Nat → Int32) → (Nat → Int32) → (Nat → Int32) → (Nat → Int32) → (Nat → Int32) → (Nat → Int32) → Prop) => (((nI 10) ≤ x3 → K z4 z5 z6 z7 z8 z9 z10 z11 z12) ∧
 (¬ ((nI 10) ≤ x3) → wp_X5_contains ((bm a2.toNatClampNeg) &&& a3) x3 (fun (r20 : Int32) => ((r20 = 0 → J16 (x3 + (1 : Int32)) z4 z5 z6 z7 z8 z9 z10 z11 z12) ∧
 (¬ (r20 = 0) → (vp_in a2 10 ∧ (vp_in x3 10 ∧ wp_X1_allow (bd a2.toNatClampNeg) (bd x3.toNatClampNeg) d1 (fun (r27 : Int32) => ((r27 = 0 → J16 (x3 + (1 : Int32)) z4 z5 z6 z7 z8 z9 z10 z11 z12) ∧
 (¬ (r27 = 0) → wp_X1_copyFrom z9 d1 (fun (u33 : Nat → Int32) => (vp_in a2 10 ∧ (vp_in x3 10 ∧ wp_X1_add (bd a2.toNatClampNeg) (bd x3.toNatClampNeg) u33 (fun (u37 : Nat → Int32) => wp_X0_extend_2 (a2 + (1 : Int32)) (a3 &&& (((jshl (1 : Int32) a2) ||| (jshl (1 : Int32) x3)) ^^^ (-1 : Int32))) z4 z5 z6 (upd z7 1 a2) (upd z8 1 x3) bd bm u37 z10 z11 z12 (fun (u39 : Int32) (u40 : Nat → Int32) (u41 : Nat → Int32) (u42 : Nat → Int32) (u43 : Nat → Int32) (u44 : Nat → Int32) (u45 : Nat → Int32) (u46 : Nat → Int32) => J16 (x3 + (1 : Int32)) u39 u40 u41 u42 u43 u37 u44 u45 u46))))))))))))))))))
abbrev rm_X0_tryLowers_1 : Room := { frames := 10, cells := 0, slots := 0, locals := 254 }
set_option maxHeartbeats 4000000 in
set_option maxRecDepth 100000 in
theorem c_X0_tryLowers_1 (l : Launch) (G : GG) (be : Nat → Nat) (beD : Nat → Nat → Nat) (sz : Nat) (kn : Int32) (ct : Int32) (bu : Nat → Int32) (bl : Nat → Int32) (tu : Nat → Int32) (tl : Nat → Int32) (bd : Nat → Int32) (bm : Nat → Int32) (d0 : Nat → Int32) (d1 : Nat → Int32) (d2 : Nat → Int32) (d3 : Nat → Int32) (d4 : Nat → Int32) (d5 : Nat → Int32) (a2 : Int32) (a3 : Int32) {K : Int32 → (Nat → Int32) → (Nat → Int32) → (Nat → Int32) → (Nat → Int32) → (Nat → Int32) → (Nat → Int32) → (Nat → Int32) → (Nat → Int32) → Prop} (h : wp_X0_tryLowers_1 a2 a3 ct bu bl tu tl bd bm d1 d2 d3 d4 d5 K) : CV l yX0_tryLowers wsX0_tryLowers rm_X0_tryLowers_1 G [.ref (be 0), .int (1 : Int32), .int a2, .int a3] (wB G be beD kn ct bu bl tu tl bd bm d0 d1 d2 d3 d4 d5) sz (fun u : Int32 × (Nat → Int32) × (Nat → Int32) × (Nat → Int32) × (Nat → Int32) × (Nat → Int32) × (Nat → Int32) × (Nat → Int32) × (Nat → Int32) => wB G be beD kn u.1 u.2.1 u.2.2.1 u.2.2.2.1 u.2.2.2.2.1 bd bm d0 d1 u.2.2.2.2.2.1 u.2.2.2.2.2.2.1 u.2.2.2.2.2.2.2.1 u.2.2.2.2.2.2.2.2) (fun u => K u.1 u.2.1 u.2.2.1 u.2.2.2.1 u.2.2.2.2.1 u.2.2.2.2.2.1 u.2.2.2.2.2.2.1 u.2.2.2.2.2.2.2.1 u.2.2.2.2.2.2.2.2) := by
  refine Met.ofW (cc := cX0_tryLowers) (maxL := 6) (ret := none) (by decide) rfl ?_
  intro p e s m args below meth c s₁ B hml hv
  obtain ⟨rfl, hsz, hP, hK, hD0, hZ⟩ := hv
  have hx := B.exec
  have hb := B.bytes
  have hr := B.returns
  have hts := atoms_spec (ws := wsX0_tryLowers) B.pre
  have hown : s.vm.findClass RX0 = some m.cls := findClass_of_methodNamed B.named
  have hlocks := B.notSynchronized
  subst hsz
  have hD := hD0.self (sz := s.heap.size)
  generalize hAe : va_A (wB G be beD kn ct bu bl tu tl bd bm d0 d1 d2 d3 d4 d5) s.heap.size = A at hD hZ ⊢
  have hA : ∀ q : Nat, s.heap.size ≤ q → A q := fun q h => by rw [← hAe]; exact Or.inr h
  have hS : va_S A s.heap s.heap [] := va_S.rf
  have hl := lv_entry ([.ref (be 0), .int (1 : Int32), .int a2, .int a3]) (n := 6) (Nat.le_of_ble_eq_true rfl)
  rw [lg_entry_eq]
  generalize (lg_sl ([.ref (be 0), .int (1 : Int32), .int a2, .int a3]) ++ List.replicate (6 - (lg_sl ([.ref (be 0), .int (1 : Int32), .int a2, .int a3])).length) Slot.unset).toArray = ls at hl ⊢
  have hl : lv_has ls 6 [(0, .ref (be 0)), (1, .int (1 : Int32)), (2, .int a2), (3, .int a3)] := hl
  unfold wp_X0_tryLowers_1 at h
  have hinX0 : ∀ w ∈ wsX00, w ∈ wsX0_tryLowers := by decide +kernel
  refine lv_iload_n hx hb dX0_tryLowers_0 rfl (lv_at hl 1 rfl) ?_
  refine lv_iconst (v := (nI 5)) hx hb dX0_tryLowers_1 (by decide) ?_
  refine lv_icmp_lt (tgt := 6) hx hb dX0_tryLowers_2 (by decide) (fun _ => ?_) (fun c_1 => absurd c_1 (by decide))
  refine lv_aload_n hx hb dX0_tryLowers_6 rfl (lv_at hl 0 rfl) ?_
  refine va_get (D := G.1) (ci := 0) (v := .ref (be 6)) (C := RX0) (T := TX0) (N := 9) hx hb hts hinX0 hown hK.1 hP 0 rfl rfl 7 (by decide) (hts (.fieldLink RX0 35 "PlaFolder$BestFolding" "mates" "[I") (by decide +kernel)) (fun _ h9 => h9) rfl dX0_tryLowers_7 ?_
  refine lv_iload_n hx hb dX0_tryLowers_10 rfl (lv_at hl 2 rfl) ?_
  obtain ⟨hi2, h⟩ := h
  refine x_iald hx hb hK hP 6 rfl hi2 rfl dX0_tryLowers_11 ?_
  refine lv_iload_n hx hb dX0_tryLowers_12 rfl (lv_at hl 3 rfl) ?_
  refine lv_iand hx hb dX0_tryLowers_13 ?_
  refine lv_istore (lv' := [(4, .int ((bm a2.toNatClampNeg) &&& a3)), (0, .ref (be 0)), (1, .int (1 : Int32)), (2, .int a2), (3, .int a3)]) hx hb dX0_tryLowers_14 hl (by decide) rfl (fun ls hl => ?_)
  refine lv_iconst (v := (0 : Int32)) hx hb dX0_tryLowers_16 (by decide) ?_
  refine lv_istore (lv' := [(5, .int (0 : Int32)), (4, .int ((bm a2.toNatClampNeg) &&& a3)), (0, .ref (be 0)), (1, .int (1 : Int32)), (2, .int a2), (3, .int a3)]) hx hb dX0_tryLowers_17 hl (by decide) rfl (fun ls hl => ?_)
  obtain ⟨I13, n14, h0, hst15⟩ := h
  refine loopW (σ := Int32 × Int32 × (Nat → Int32) × (Nat → Int32) × (Nat → Int32) × (Nat → Int32) × (Nat → Int32) × (Nat → Int32) × (Nat → Int32) × (Nat → Int32)) (P := fun q H locs ls => va_P G.1 vwCl (wB G be beD kn q.2.1 q.2.2.1 q.2.2.2.1 q.2.2.2.2.1 q.2.2.2.2.2.1 bd bm d0 d1 q.2.2.2.2.2.2.1 q.2.2.2.2.2.2.2.1 q.2.2.2.2.2.2.2.2.1 q.2.2.2.2.2.2.2.2.2) H ∧ va_D A (wB G be beD kn q.2.1 q.2.2.1 q.2.2.2.1 q.2.2.2.2.1 q.2.2.2.2.2.1 bd bm d0 d1 q.2.2.2.2.2.2.1 q.2.2.2.2.2.2.2.1 q.2.2.2.2.2.2.2.2.1 q.2.2.2.2.2.2.2.2.2) ∧ va_S A s.heap H locs ∧ lv_has ls 6 [(0, .ref (be 0)), (1, .int (1 : Int32)), (2, .int a2), (3, .int a3), (4, .int ((bm a2.toNatClampNeg) &&& a3)), (5, .int q.1)]) (I := fun n q => I13 n q.1 q.2.1 q.2.2.1 q.2.2.2.1 q.2.2.2.2.1 q.2.2.2.2.2.1 q.2.2.2.2.2.2.1 q.2.2.2.2.2.2.2.1 q.2.2.2.2.2.2.2.2.1 q.2.2.2.2.2.2.2.2.2) n14 ((0 : Int32), ct, bu, bl, tu, tl, d2, d3, d4, d5) h0 _ _ _ ⟨hP, hD, hS, lv_sub hl [2, 3, 4, 5, 1, 0] rfl⟩ ?_
  rintro n18 ⟨x3, z4, z5, z6, z7, z8, z9, z10, z11, z12⟩ hI ih17 H locs ls ⟨hP, hD, hS, hl⟩
  have hP : va_P G.1 vwCl (wB G be beD kn z4 z5 z6 z7 z8 bd bm d0 d1 z9 z10 z11 z12) H := hP
  have hD : va_D A (wB G be beD kn z4 z5 z6 z7 z8 bd bm d0 d1 z9 z10 z11 z12) := hD
  have hl : lv_has ls 6 [(0, .ref (be 0)), (1, .int (1 : Int32)), (2, .int a2), (3, .int a3), (4, .int ((bm a2.toNatClampNeg) &&& a3)), (5, .int x3)] := hl
  have h := hst15 n18 x3 z4 z5 z6 z7 z8 z9 z10 z11 z12 hI
  refine lv_iload hx hb dX0_tryLowers_19 (lv_at hl 5 rfl) ?_
  refine lv_bipush (v := (nI 10)) hx hb dX0_tryLowers_21 (by decide) ?_
  refine lv_icmp_ge (tgt := 145) hx hb dX0_tryLowers_23 (by decide) (fun c_19 => ?_) (fun c_19 => ?_)
  · have h := h.1 c_19
    exact W.vret hx hb hr (fun t ht hW => ⟨⟨(z4, z5, z6, z7, z8, z9, z10, z11, z12), rfl, h, by rw [ht]; exact hP, hD⟩, hS.F ht⟩) hS.2.2 dX0_tryLowers_145
  · have h := h.2 c_19
    refine lv_iload hx hb dX0_tryLowers_26 (lv_at hl 4 rfl) ?_
    refine lv_iload hx hb dX0_tryLowers_28 (lv_at hl 5 rfl) ?_
    refine kp_i (wr := wB G be beD kn z4 z5 z6 z7 z8 bd bm d0 d1 z9 z10 z11 z12) (va_runSN (As := [.int ((bm a2.toNatClampNeg) &&& a3), .int x3]) (rest := []) ⟨hx, hb, hml, hown, hts⟩ (c_X5_contains l G  _  ((bm a2.toNatClampNeg) &&& a3) x3 h) ⟨va_cnB 2 hts gX0_tryLowers_X5_contains_n79 rfl rfl rfl (hK.2.M 35 (q := ("PlaFolder$BestFolding", 79, ⟨"PlaFolder", "contains", "(II)Z"⟩, "PlaFolder")) rfl) (hts (.initialized RX5) (by decide +kernel)) (by decide +kernel) ⟨Nat.le_of_ble_eq_true rfl, Nat.le_of_ble_eq_true rfl⟩, hts (.static yX5_contains) (by decide +kernel), trivial⟩ (kpSp hK hP hD hZ hS hA (pm_nil _)) rfl rfl hl.1 rfl (lv_room (Nat.le_of_ble_eq_true rfl)) dX0_tryLowers_30 ⟨Nat.zero_le _, Nat.zero_le _⟩) hP hD hS hA (pm_nil _) (fun r20 w54 H locs h hP hD hS => ?_)
    have hP : va_P G.1 vwCl (wB G be beD kn z4 z5 z6 z7 z8 bd bm d0 d1 z9 z10 z11 z12) H := hP.perm (pm_nil _).symm
    have hD : va_D A (wB G be beD kn z4 z5 z6 z7 z8 bd bm d0 d1 z9 z10 z11 z12) := hD.perm (pm_nil _).symm
    try dsimp only at h
    refine lv_if_eq (tgt := 139) hx hb dX0_tryLowers_33 (by decide) (fun c_21 => ?_) (fun c_21 => ?_)
    · have h := h.1 c_21
      refine lv_iinc (v := (x3 + (1 : Int32))) (lv' := [(5, .int (x3 + (1 : Int32))), (0, .ref (be 0)), (1, .int (1 : Int32)), (2, .int a2), (3, .int a3), (4, .int ((bm a2.toNatClampNeg) &&& a3))]) hx hb dX0_tryLowers_139 hl (k := 5) rfl rfl (by decide) rfl (fun ls hl => ?_)
      refine lv_goto (tgt := 19) hx hb dX0_tryLowers_142 (by decide) ?_
      obtain ⟨n23, hn22, hI24⟩ := h
      exact ih17 n23 ((x3 + (1 : Int32)), z4, z5, z6, z7, z8, z9, z10, z11, z12) hn22 hI24 _ _ _ ⟨hP, hD, hS, lv_sub hl [1, 2, 3, 4, 5, 0] rfl⟩
    · have h := h.2 c_21
      refine lv_aload_n hx hb dX0_tryLowers_36 rfl (lv_at hl 0 rfl) ?_
      refine va_get (D := G.1) (ci := 0) (v := .ref (be 7)) (C := RX0) (T := TX0) (N := 9) hx hb hts hinX0 hown hK.1 hP 0 rfl rfl 8 (by decide) (hts (.fieldLink RX0 40 "PlaFolder$BestFolding" "demandsAt" "[LPlaFolder$Demands;") (by decide +kernel)) (fun _ h9 => h9) rfl dX0_tryLowers_37 ?_
      refine lv_iload_n hx hb dX0_tryLowers_40 rfl (lv_at hl 1 rfl) ?_
      refine x_aldq hx hb hK hP 7 2 rfl rfl (vin_c (by decide)) (k := 1) (by decide) (a2 := beD 1 0) rfl dX0_tryLowers_41 ?_
      refine lv_aload_n hx hb dX0_tryLowers_42 rfl (lv_at hl 0 rfl) ?_
      refine va_get (D := G.1) (ci := 0) (v := .ref (be 5)) (C := RX0) (T := TX0) (N := 9) hx hb hts hinX0 hown hK.1 hP 0 rfl rfl 6 (by decide) (hts (.fieldLink RX0 32 "PlaFolder$BestFolding" "used" "[I") (by decide +kernel)) (fun _ h9 => h9) rfl dX0_tryLowers_43 ?_
      refine lv_iload_n hx hb dX0_tryLowers_46 rfl (lv_at hl 2 rfl) ?_
      obtain ⟨hi25, h⟩ := h
      refine x_iald hx hb hK hP 5 rfl hi25 rfl dX0_tryLowers_47 ?_
      refine lv_aload_n hx hb dX0_tryLowers_48 rfl (lv_at hl 0 rfl) ?_
      refine va_get (D := G.1) (ci := 0) (v := .ref (be 5)) (C := RX0) (T := TX0) (N := 9) hx hb hts hinX0 hown hK.1 hP 0 rfl rfl 6 (by decide) (hts (.fieldLink RX0 32 "PlaFolder$BestFolding" "used" "[I") (by decide +kernel)) (fun _ h9 => h9) rfl dX0_tryLowers_49 ?_
      refine lv_iload hx hb dX0_tryLowers_52 (lv_at hl 5 rfl) ?_
      obtain ⟨hi26, h⟩ := h
      refine x_iald hx hb hK hP 5 rfl hi26 rfl dX0_tryLowers_54 ?_
      refine kp_i (wr := wB0 G be beD kn z4 z5 z6 z7 z8 bd bm ++ (wD G (beD 0) d0 ++ (wD G (beD 2) z9 ++ (wD G (beD 3) z10 ++ (wD G (beD 4) z11 ++ (wD G (beD 5) z12)))))) (va_runVN (As := [.int (bd a2.toNatClampNeg), .int (bd x3.toNatClampNeg)]) (rest := []) ⟨hx, hb, hml, hown, hts⟩ (c_X1_allow l G (beD 1) _ d1 (bd a2.toNatClampNeg) (bd x3.toNatClampNeg) h) ⟨va_cnB 2 hts gX0_tryLowers_X1_allow_n85 rfl rfl rfl (hK.2.M 36 (q := ("PlaFolder$BestFolding", 85, ⟨"PlaFolder$Demands", "allow", "(II)Z"⟩, "PlaFolder")) rfl) (hts (.initialized RX1) (by decide +kernel)) (by decide +kernel) ⟨Nat.le_of_ble_eq_true rfl, Nat.le_of_ble_eq_true rfl⟩, hts (.instanceMethod yX1_allow) (by decide +kernel), hts (.selects RX1 yX1_allow yX1_allow) (by decide +kernel)⟩ (kpVp hK hP hD hZ hS hA (pm7_013456_2 (wB0 G be beD kn z4 z5 z6 z7 z8 bd bm) (wD G (beD 0) d0) (wD G (beD 1) d1) (wD G (beD 2) z9) (wD G (beD 3) z10) (wD G (beD 4) z11) (wD G (beD 5) z12)) (q0 := 0) (ci := 1) rfl rfl) rfl rfl hl.1 rfl (lv_room (Nat.le_of_ble_eq_true rfl)) dX0_tryLowers_55 ⟨Nat.zero_le _, Nat.zero_le _⟩) hP hD hS hA (pm7_013456_2 (wB0 G be beD kn z4 z5 z6 z7 z8 bd bm) (wD G (beD 0) d0) (wD G (beD 1) d1) (wD G (beD 2) z9) (wD G (beD 3) z10) (wD G (beD 4) z11) (wD G (beD 5) z12)) (fun r27 w53 H locs h hP hD hS => ?_)
      have hP : va_P G.1 vwCl (wB G be beD kn z4 z5 z6 z7 z8 bd bm d0 d1 z9 z10 z11 z12) H := hP.perm (pm7_013456_2 (wB0 G be beD kn z4 z5 z6 z7 z8 bd bm) (wD G (beD 0) d0) (wD G (beD 1) d1) (wD G (beD 2) z9) (wD G (beD 3) z10) (wD G (beD 4) z11) (wD G (beD 5) z12)).symm
      have hD : va_D A (wB G be beD kn z4 z5 z6 z7 z8 bd bm d0 d1 z9 z10 z11 z12) := hD.perm (pm7_013456_2 (wB0 G be beD kn z4 z5 z6 z7 z8 bd bm) (wD G (beD 0) d0) (wD G (beD 1) d1) (wD G (beD 2) z9) (wD G (beD 3) z10) (wD G (beD 4) z11) (wD G (beD 5) z12)).symm
      try dsimp only at h
      refine lv_if_eq (tgt := 139) hx hb dX0_tryLowers_58 (by decide) (fun c_28 => ?_) (fun c_28 => ?_)
      · have h := h.1 c_28
        refine lv_iinc (v := (x3 + (1 : Int32))) (lv' := [(5, .int (x3 + (1 : Int32))), (0, .ref (be 0)), (1, .int (1 : Int32)), (2, .int a2), (3, .int a3), (4, .int ((bm a2.toNatClampNeg) &&& a3))]) hx hb dX0_tryLowers_139 hl (k := 5) rfl rfl (by decide) rfl (fun ls hl => ?_)
        refine lv_goto (tgt := 19) hx hb dX0_tryLowers_142 (by decide) ?_
        obtain ⟨n30, hn29, hI31⟩ := h
        exact ih17 n30 ((x3 + (1 : Int32)), z4, z5, z6, z7, z8, z9, z10, z11, z12) hn29 hI31 _ _ _ ⟨hP, hD, hS, lv_sub hl [1, 2, 3, 4, 5, 0] rfl⟩
      · have h := h.2 c_28
        refine lv_aload_n hx hb dX0_tryLowers_61 rfl (lv_at hl 0 rfl) ?_
        refine va_get (D := G.1) (ci := 0) (v := .ref (be 3)) (C := RX0) (T := TX0) (N := 9) hx hb hts hinX0 hown hK.1 hP 0 rfl rfl 4 (by decide) (hts (.fieldLink RX0 26 "PlaFolder$BestFolding" "triedUpper" "[I") (by decide +kernel)) (fun _ h9 => h9) rfl dX0_tryLowers_62 ?_
        refine lv_iload_n hx hb dX0_tryLowers_65 rfl (lv_at hl 1 rfl) ?_
        refine lv_iload_n hx hb dX0_tryLowers_66 rfl (lv_at hl 2 rfl) ?_
        refine x_iast hx hb hK hP hD hS 3 rfl (vin_c (by decide)) (k := 1) (by decide) dX0_tryLowers_67 (fun H locs hP hD hS => ?_)
        have hP : va_P G.1 vwCl (wB G be beD kn z4 z5 z6 (upd z7 1 a2) z8 bd bm d0 d1 z9 z10 z11 z12) H := hP
        have hD : va_D A (wB G be beD kn z4 z5 z6 (upd z7 1 a2) z8 bd bm d0 d1 z9 z10 z11 z12) := hD
        refine lv_aload_n hx hb dX0_tryLowers_68 rfl (lv_at hl 0 rfl) ?_
        refine va_get (D := G.1) (ci := 0) (v := .ref (be 4)) (C := RX0) (T := TX0) (N := 9) hx hb hts hinX0 hown hK.1 hP 0 rfl rfl 5 (by decide) (hts (.fieldLink RX0 29 "PlaFolder$BestFolding" "triedLower" "[I") (by decide +kernel)) (fun _ h9 => h9) rfl dX0_tryLowers_69 ?_
        refine lv_iload_n hx hb dX0_tryLowers_72 rfl (lv_at hl 1 rfl) ?_
        refine lv_iload hx hb dX0_tryLowers_73 (lv_at hl 5 rfl) ?_
        refine x_iast hx hb hK hP hD hS 4 rfl (vin_c (by decide)) (k := 1) (by decide) dX0_tryLowers_75 (fun H locs hP hD hS => ?_)
        have hP : va_P G.1 vwCl (wB G be beD kn z4 z5 z6 (upd z7 1 a2) (upd z8 1 x3) bd bm d0 d1 z9 z10 z11 z12) H := hP
        have hD : va_D A (wB G be beD kn z4 z5 z6 (upd z7 1 a2) (upd z8 1 x3) bd bm d0 d1 z9 z10 z11 z12) := hD
        refine lv_aload_n hx hb dX0_tryLowers_76 rfl (lv_at hl 0 rfl) ?_
        refine va_get (D := G.1) (ci := 0) (v := .ref (be 7)) (C := RX0) (T := TX0) (N := 9) hx hb hts hinX0 hown hK.1 hP 0 rfl rfl 8 (by decide) (hts (.fieldLink RX0 40 "PlaFolder$BestFolding" "demandsAt" "[LPlaFolder$Demands;") (by decide +kernel)) (fun _ h9 => h9) rfl dX0_tryLowers_77 ?_
        refine lv_iload_n hx hb dX0_tryLowers_80 rfl (lv_at hl 1 rfl) ?_
        refine lv_iconst (v := (1 : Int32)) hx hb dX0_tryLowers_81 (by decide) ?_
        refine lv_iadd hx hb dX0_tryLowers_82 ?_
        refine W.eq (g2 := F0 m 83 ls (.int (nI 2) :: .ref (be 7) :: [])) rfl ?_
        refine x_aldq hx hb hK hP 7 2 rfl rfl (vin_c (by decide)) (k := 2) (by decide) (a2 := beD 2 0) rfl dX0_tryLowers_83 ?_
        refine lv_aload_n hx hb dX0_tryLowers_84 rfl (lv_at hl 0 rfl) ?_
        refine va_get (D := G.1) (ci := 0) (v := .ref (be 7)) (C := RX0) (T := TX0) (N := 9) hx hb hts hinX0 hown hK.1 hP 0 rfl rfl 8 (by decide) (hts (.fieldLink RX0 40 "PlaFolder$BestFolding" "demandsAt" "[LPlaFolder$Demands;") (by decide +kernel)) (fun _ h9 => h9) rfl dX0_tryLowers_85 ?_
        refine lv_iload_n hx hb dX0_tryLowers_88 rfl (lv_at hl 1 rfl) ?_
        refine x_aldq hx hb hK hP 7 2 rfl rfl (vin_c (by decide)) (k := 1) (by decide) (a2 := beD 1 0) rfl dX0_tryLowers_89 ?_
        refine kp_v (wr := wB0 G be beD kn z4 z5 z6 (upd z7 1 a2) (upd z8 1 x3) bd bm ++ (wD G (beD 0) d0 ++ (wD G (beD 3) z10 ++ (wD G (beD 4) z11 ++ (wD G (beD 5) z12))))) (va_runVN (As := [.ref (beD 1 0)]) (rest := []) ⟨hx, hb, hml, hown, hts⟩ (c_X1_copyFrom l G (beD 2) (beD 1) _ z9 d1  h) ⟨va_cnB 1 hts gX0_tryLowers_X1_copyFrom_n88 rfl rfl rfl (hK.2.M 37 (q := ("PlaFolder$BestFolding", 88, ⟨"PlaFolder$Demands", "copyFrom", "(LPlaFolder$Demands;)V"⟩, "PlaFolder")) rfl) (hts (.initialized RX1) (by decide +kernel)) (by decide +kernel) ⟨Nat.le_of_ble_eq_true rfl, Nat.le_of_ble_eq_true rfl⟩, hts (.instanceMethod yX1_copyFrom) (by decide +kernel), hts (.selects RX1 yX1_copyFrom yX1_copyFrom) (by decide +kernel)⟩ (kpVp hK hP hD hZ hS hA (pm7_01456_32 (wB0 G be beD kn z4 z5 z6 (upd z7 1 a2) (upd z8 1 x3) bd bm) (wD G (beD 0) d0) (wD G (beD 1) d1) (wD G (beD 2) z9) (wD G (beD 3) z10) (wD G (beD 4) z11) (wD G (beD 5) z12)) (q0 := 0) (ci := 1) rfl rfl) rfl rfl hl.1 rfl (lv_room (Nat.le_of_ble_eq_true rfl)) dX0_tryLowers_90 ⟨Nat.zero_le _, Nat.zero_le _⟩) hP hD hS hA (pm7_01456_32 (wB0 G be beD kn z4 z5 z6 (upd z7 1 a2) (upd z8 1 x3) bd bm) (wD G (beD 0) d0) (wD G (beD 1) d1) (wD G (beD 2) z9) (wD G (beD 3) z10) (wD G (beD 4) z11) (wD G (beD 5) z12)) (fun w52 H locs h hP hD hS => ?_)
        obtain ⟨u33, rfl⟩ : ∃ z, z = w52 := ⟨_, rfl⟩
        have hP : va_P G.1 vwCl (wB G be beD kn z4 z5 z6 (upd z7 1 a2) (upd z8 1 x3) bd bm d0 d1 u33 z10 z11 z12) H := hP.perm (pm7_01456_32 (wB0 G be beD kn z4 z5 z6 (upd z7 1 a2) (upd z8 1 x3) bd bm) (wD G (beD 0) d0) (wD G (beD 1) d1) (wD G (beD 2) u33) (wD G (beD 3) z10) (wD G (beD 4) z11) (wD G (beD 5) z12)).symm
        have hD : va_D A (wB G be beD kn z4 z5 z6 (upd z7 1 a2) (upd z8 1 x3) bd bm d0 d1 u33 z10 z11 z12) := hD.perm (pm7_01456_32 (wB0 G be beD kn z4 z5 z6 (upd z7 1 a2) (upd z8 1 x3) bd bm) (wD G (beD 0) d0) (wD G (beD 1) d1) (wD G (beD 2) u33) (wD G (beD 3) z10) (wD G (beD 4) z11) (wD G (beD 5) z12)).symm
        try dsimp only at h
        refine lv_aload_n hx hb dX0_tryLowers_93 rfl (lv_at hl 0 rfl) ?_
        refine va_get (D := G.1) (ci := 0) (v := .ref (be 7)) (C := RX0) (T := TX0) (N := 9) hx hb hts hinX0 hown hK.1 hP 0 rfl rfl 8 (by decide) (hts (.fieldLink RX0 40 "PlaFolder$BestFolding" "demandsAt" "[LPlaFolder$Demands;") (by decide +kernel)) (fun _ h9 => h9) rfl dX0_tryLowers_94 ?_
        refine lv_iload_n hx hb dX0_tryLowers_97 rfl (lv_at hl 1 rfl) ?_
        refine lv_iconst (v := (1 : Int32)) hx hb dX0_tryLowers_98 (by decide) ?_
        refine lv_iadd hx hb dX0_tryLowers_99 ?_
        refine W.eq (g2 := F0 m 100 ls (.int (nI 2) :: .ref (be 7) :: [])) rfl ?_
        refine x_aldq hx hb hK hP 7 2 rfl rfl (vin_c (by decide)) (k := 2) (by decide) (a2 := beD 2 0) rfl dX0_tryLowers_100 ?_
        refine lv_aload_n hx hb dX0_tryLowers_101 rfl (lv_at hl 0 rfl) ?_
        refine va_get (D := G.1) (ci := 0) (v := .ref (be 5)) (C := RX0) (T := TX0) (N := 9) hx hb hts hinX0 hown hK.1 hP 0 rfl rfl 6 (by decide) (hts (.fieldLink RX0 32 "PlaFolder$BestFolding" "used" "[I") (by decide +kernel)) (fun _ h9 => h9) rfl dX0_tryLowers_102 ?_
        refine lv_iload_n hx hb dX0_tryLowers_105 rfl (lv_at hl 2 rfl) ?_
        obtain ⟨hi34, h⟩ := h
        refine x_iald hx hb hK hP 5 rfl hi34 rfl dX0_tryLowers_106 ?_
        refine lv_aload_n hx hb dX0_tryLowers_107 rfl (lv_at hl 0 rfl) ?_
        refine va_get (D := G.1) (ci := 0) (v := .ref (be 5)) (C := RX0) (T := TX0) (N := 9) hx hb hts hinX0 hown hK.1 hP 0 rfl rfl 6 (by decide) (hts (.fieldLink RX0 32 "PlaFolder$BestFolding" "used" "[I") (by decide +kernel)) (fun _ h9 => h9) rfl dX0_tryLowers_108 ?_
        refine lv_iload hx hb dX0_tryLowers_111 (lv_at hl 5 rfl) ?_
        obtain ⟨hi35, h⟩ := h
        refine x_iald hx hb hK hP 5 rfl hi35 rfl dX0_tryLowers_113 ?_
        refine kp_v (wr := wB0 G be beD kn z4 z5 z6 (upd z7 1 a2) (upd z8 1 x3) bd bm ++ (wD G (beD 0) d0 ++ (wD G (beD 1) d1 ++ (wD G (beD 3) z10 ++ (wD G (beD 4) z11 ++ (wD G (beD 5) z12)))))) (va_runVN (As := [.int (bd a2.toNatClampNeg), .int (bd x3.toNatClampNeg)]) (rest := []) ⟨hx, hb, hml, hown, hts⟩ (c_X1_add l G (beD 2) _ u33 (bd a2.toNatClampNeg) (bd x3.toNatClampNeg) h) ⟨va_cnB 2 hts gX0_tryLowers_X1_add_n92 rfl rfl rfl (hK.2.M 38 (q := ("PlaFolder$BestFolding", 92, ⟨"PlaFolder$Demands", "add", "(II)V"⟩, "PlaFolder")) rfl) (hts (.initialized RX1) (by decide +kernel)) (by decide +kernel) ⟨Nat.le_of_ble_eq_true rfl, Nat.le_of_ble_eq_true rfl⟩, hts (.instanceMethod yX1_add) (by decide +kernel), hts (.selects RX1 yX1_add yX1_add) (by decide +kernel)⟩ (kpVp hK hP hD hZ hS hA (pm7_012456_3 (wB0 G be beD kn z4 z5 z6 (upd z7 1 a2) (upd z8 1 x3) bd bm) (wD G (beD 0) d0) (wD G (beD 1) d1) (wD G (beD 2) u33) (wD G (beD 3) z10) (wD G (beD 4) z11) (wD G (beD 5) z12)) (q0 := 0) (ci := 1) rfl rfl) rfl rfl hl.1 rfl (lv_room (Nat.le_of_ble_eq_true rfl)) dX0_tryLowers_114 ⟨Nat.zero_le _, Nat.zero_le _⟩) hP hD hS hA (pm7_012456_3 (wB0 G be beD kn z4 z5 z6 (upd z7 1 a2) (upd z8 1 x3) bd bm) (wD G (beD 0) d0) (wD G (beD 1) d1) (wD G (beD 2) u33) (wD G (beD 3) z10) (wD G (beD 4) z11) (wD G (beD 5) z12)) (fun w51 H locs h hP hD hS => ?_)
        obtain ⟨u37, rfl⟩ : ∃ z, z = w51 := ⟨_, rfl⟩
        have hP : va_P G.1 vwCl (wB G be beD kn z4 z5 z6 (upd z7 1 a2) (upd z8 1 x3) bd bm d0 d1 u37 z10 z11 z12) H := hP.perm (pm7_012456_3 (wB0 G be beD kn z4 z5 z6 (upd z7 1 a2) (upd z8 1 x3) bd bm) (wD G (beD 0) d0) (wD G (beD 1) d1) (wD G (beD 2) u37) (wD G (beD 3) z10) (wD G (beD 4) z11) (wD G (beD 5) z12)).symm
        have hD : va_D A (wB G be beD kn z4 z5 z6 (upd z7 1 a2) (upd z8 1 x3) bd bm d0 d1 u37 z10 z11 z12) := hD.perm (pm7_012456_3 (wB0 G be beD kn z4 z5 z6 (upd z7 1 a2) (upd z8 1 x3) bd bm) (wD G (beD 0) d0) (wD G (beD 1) d1) (wD G (beD 2) u37) (wD G (beD 3) z10) (wD G (beD 4) z11) (wD G (beD 5) z12)).symm
        try dsimp only at h
        refine lv_aload_n hx hb dX0_tryLowers_117 rfl (lv_at hl 0 rfl) ?_
        refine lv_iload_n hx hb dX0_tryLowers_118 rfl (lv_at hl 1 rfl) ?_
        refine lv_iconst (v := (1 : Int32)) hx hb dX0_tryLowers_119 (by decide) ?_
        refine lv_iadd hx hb dX0_tryLowers_120 ?_
        refine W.eq (g2 := F0 m 121 ls (.int (nI 2) :: .ref (be 0) :: [])) rfl ?_
        refine lv_iload_n hx hb dX0_tryLowers_121 rfl (lv_at hl 2 rfl) ?_
        refine lv_iconst (v := (1 : Int32)) hx hb dX0_tryLowers_122 (by decide) ?_
        refine lv_iadd hx hb dX0_tryLowers_123 ?_
        refine lv_iload_n hx hb dX0_tryLowers_124 rfl (lv_at hl 3 rfl) ?_
        refine lv_iconst (v := (1 : Int32)) hx hb dX0_tryLowers_125 (by decide) ?_
        refine lv_iload_n hx hb dX0_tryLowers_126 rfl (lv_at hl 2 rfl) ?_
        refine lv_ishl hx hb dX0_tryLowers_127 ?_
        refine lv_iconst (v := (1 : Int32)) hx hb dX0_tryLowers_128 (by decide) ?_
        refine lv_iload hx hb dX0_tryLowers_129 (lv_at hl 5 rfl) ?_
        refine lv_ishl hx hb dX0_tryLowers_131 ?_
        refine lv_ior hx hb dX0_tryLowers_132 ?_
        refine lv_iconst (v := (-1 : Int32)) hx hb dX0_tryLowers_133 (by decide) ?_
        refine lv_ixor hx hb dX0_tryLowers_134 ?_
        refine lv_iand hx hb dX0_tryLowers_135 ?_
        refine kp_v (wr := ([] : va_W)) (va_runV (As := [.int (nI 2), .int (a2 + (1 : Int32)), .int (a3 &&& (((jshl (1 : Int32) a2) ||| (jshl (1 : Int32) x3)) ^^^ (-1 : Int32)))]) (rest := []) ⟨hx, hb, hml, hown, hts⟩ (c_X0_extend_2 l G be beD _ kn z4 z5 z6 (upd z7 1 a2) (upd z8 1 x3) bd bm d0 d1 u37 z10 z11 z12 (a2 + (1 : Int32)) (a3 &&& (((jshl (1 : Int32) a2) ||| (jshl (1 : Int32) x3)) ^^^ (-1 : Int32))) h) (cwV 3 hts gX0_tryLowers_X0_extend rfl rfl rfl (by decide +kernel) ⟨Nat.le_of_ble_eq_true rfl, Nat.le_of_ble_eq_true rfl⟩) (kpVp hK hP hD hZ hS hA (pm_all _) (q0 := 0) (ci := 0) rfl rfl) rfl rfl hl.1 rfl (lv_room (Nat.le_of_ble_eq_true rfl)) dX0_tryLowers_136 ⟨Nat.zero_le _, Nat.zero_le _⟩) hP hD hS hA (pm_all _) (fun w50 H locs h hP hD hS => ?_)
        obtain ⟨u39, u40, u41, u42, u43, u44, u45, u46⟩ := w50
        have hP : va_P G.1 vwCl (wB G be beD kn u39 u40 u41 u42 u43 bd bm d0 d1 u37 u44 u45 u46) H := hP.perm (pm_all _).symm
        have hD : va_D A (wB G be beD kn u39 u40 u41 u42 u43 bd bm d0 d1 u37 u44 u45 u46) := hD.perm (pm_all _).symm
        try dsimp only at h
        refine lv_iinc (v := (x3 + (1 : Int32))) (lv' := [(5, .int (x3 + (1 : Int32))), (0, .ref (be 0)), (1, .int (1 : Int32)), (2, .int a2), (3, .int a3), (4, .int ((bm a2.toNatClampNeg) &&& a3))]) hx hb dX0_tryLowers_139 hl (k := 5) rfl rfl (by decide) rfl (fun ls hl => ?_)
        refine lv_goto (tgt := 19) hx hb dX0_tryLowers_142 (by decide) ?_
        obtain ⟨n48, hn47, hI49⟩ := h
        exact ih17 n48 ((x3 + (1 : Int32)), u39, u40, u41, u42, u43, u37, u44, u45, u46) hn47 hI49 _ _ _ ⟨hP, hD, hS, lv_sub hl [1, 2, 3, 4, 5, 0] rfl⟩
def wp_X0_extend_1 (a2 : Int32) (a3 : Int32) (ct : Int32) (bu : Nat → Int32) (bl : Nat → Int32) (tu : Nat → Int32) (tl : Nat → Int32) (bd : Nat → Int32) (bm : Nat → Int32) (d1 : Nat → Int32) (d2 : Nat → Int32) (d3 : Nat → Int32) (d4 : Nat → Int32) (d5 : Nat → Int32) (K : Int32 → (Nat → Int32) → (Nat → Int32) → (Nat → Int32) → (Nat → Int32) → (Nat → Int32) → (Nat → Int32) → (Nat → Int32) → (Nat → Int32) → Prop) : Prop :=
 (Jn3 (fun (z2 : Int32) (z3 : Nat → Int32) (z4 : Nat → Int32) => (Lp10 a2 z2 z3 z4 tu tl d2 d3 d4 d5 (fun (x7 : Int32) (z8 : Int32) (z9 : Nat → Int32) (z10 : Nat → Int32) (z11 : Nat → Int32) (z12 : Nat → Int32) (z13 : Nat → Int32) (z14 : Nat → Int32) (z15 : Nat → Int32) (z16 : Nat → Int32) (J20 : Int32 → Int32 → (Nat → Int32) → (Nat → Int32) → (Nat → Int32) → (Nat → Int32) → (Nat → Int32) → (Nat → Int32) → (Nat → Int32) → (Nat → Int32) → Prop) => (((nI 10) ≤ x7 → K z8 z9 z10 z11 z12 z13 z14 z15 z16) ∧
 (¬ ((nI 10) ≤ x7) → wp_X0_mostFolds a3 x7 (fun (r24 : Int32) => ((z8 < ((1 : Int32) + r24) → wp_X5_contains a3 x7 (fun (r26 : Int32) => ((r26 = 0 → J20 (x7 + (1 : Int32)) z8 z9 z10 z11 z12 z13 z14 z15 z16) ∧
 (¬ (r26 = 0) → wp_X0_tryLowers_1 x7 a3 z8 z9 z10 z11 z12 bd bm d1 z13 z14 z15 z16 (fun (u32 : Int32) (u33 : Nat → Int32) (u34 : Nat → Int32) (u35 : Nat → Int32) (u36 : Nat → Int32) (u37 : Nat → Int32) (u38 : Nat → Int32) (u39 : Nat → Int32) (u40 : Nat → Int32) => J20 (x7 + (1 : Int32)) u32 u33 u34 u35 u36 u37 u38 u39 u40))))) ∧
 (¬ (z8 < ((1 : Int32) + r24)) → K z8 z9 z10 z11 z12 z13 z14 z15 z16))))))))
 (fun (J5 : Int32 → (Nat → Int32) → (Nat → Int32) → Prop) => (((1 : Int32) ≤ ct → J5 ct bu bl) ∧
 (¬ ((1 : Int32) ≤ ct) → wp_X0_keep_1 ct bu bl tu tl (fun (u48 : Int32) (u49 : Nat → Int32) (u50 : Nat → Int32) => J5 u48 u49 u50)))))
abbrev rm_X0_extend_1 : Room := { frames := 11, cells := 0, slots := 0, locals := 279 }
set_option maxHeartbeats 4000000 in
set_option maxRecDepth 100000 in
theorem c_X0_extend_1 (l : Launch) (G : GG) (be : Nat → Nat) (beD : Nat → Nat → Nat) (sz : Nat) (kn : Int32) (ct : Int32) (bu : Nat → Int32) (bl : Nat → Int32) (tu : Nat → Int32) (tl : Nat → Int32) (bd : Nat → Int32) (bm : Nat → Int32) (d0 : Nat → Int32) (d1 : Nat → Int32) (d2 : Nat → Int32) (d3 : Nat → Int32) (d4 : Nat → Int32) (d5 : Nat → Int32) (a2 : Int32) (a3 : Int32) {K : Int32 → (Nat → Int32) → (Nat → Int32) → (Nat → Int32) → (Nat → Int32) → (Nat → Int32) → (Nat → Int32) → (Nat → Int32) → (Nat → Int32) → Prop} (h : wp_X0_extend_1 a2 a3 ct bu bl tu tl bd bm d1 d2 d3 d4 d5 K) : CV l yX0_extend wsX0_extend rm_X0_extend_1 G [.ref (be 0), .int (1 : Int32), .int a2, .int a3] (wB G be beD kn ct bu bl tu tl bd bm d0 d1 d2 d3 d4 d5) sz (fun u : Int32 × (Nat → Int32) × (Nat → Int32) × (Nat → Int32) × (Nat → Int32) × (Nat → Int32) × (Nat → Int32) × (Nat → Int32) × (Nat → Int32) => wB G be beD kn u.1 u.2.1 u.2.2.1 u.2.2.2.1 u.2.2.2.2.1 bd bm d0 d1 u.2.2.2.2.2.1 u.2.2.2.2.2.2.1 u.2.2.2.2.2.2.2.1 u.2.2.2.2.2.2.2.2) (fun u => K u.1 u.2.1 u.2.2.1 u.2.2.2.1 u.2.2.2.2.1 u.2.2.2.2.2.1 u.2.2.2.2.2.2.1 u.2.2.2.2.2.2.2.1 u.2.2.2.2.2.2.2.2) := by
  refine Met.ofW (cc := cX0_extend) (maxL := 5) (ret := none) (by decide) rfl ?_
  intro p e s m args below meth c s₁ B hml hv
  obtain ⟨rfl, hsz, hP, hK, hD0, hZ⟩ := hv
  have hx := B.exec
  have hb := B.bytes
  have hr := B.returns
  have hts := atoms_spec (ws := wsX0_extend) B.pre
  have hown : s.vm.findClass RX0 = some m.cls := findClass_of_methodNamed B.named
  have hlocks := B.notSynchronized
  subst hsz
  have hD := hD0.self (sz := s.heap.size)
  generalize hAe : va_A (wB G be beD kn ct bu bl tu tl bd bm d0 d1 d2 d3 d4 d5) s.heap.size = A at hD hZ ⊢
  have hA : ∀ q : Nat, s.heap.size ≤ q → A q := fun q h => by rw [← hAe]; exact Or.inr h
  have hS : va_S A s.heap s.heap [] := va_S.rf
  have hl := lv_entry ([.ref (be 0), .int (1 : Int32), .int a2, .int a3]) (n := 5) (Nat.le_of_ble_eq_true rfl)
  rw [lg_entry_eq]
  generalize (lg_sl ([.ref (be 0), .int (1 : Int32), .int a2, .int a3]) ++ List.replicate (5 - (lg_sl ([.ref (be 0), .int (1 : Int32), .int a2, .int a3])).length) Slot.unset).toArray = ls at hl ⊢
  have hl : lv_has ls 5 [(0, .ref (be 0)), (1, .int (1 : Int32)), (2, .int a2), (3, .int a3)] := hl
  unfold wp_X0_extend_1 at h
  have hinX0 : ∀ w ∈ wsX00, w ∈ wsX0_extend := by decide +kernel
  refine lv_iload_n hx hb dX0_extend_0 rfl (lv_at hl 1 rfl) ?_
  refine lv_aload_n hx hb dX0_extend_1 rfl (lv_at hl 0 rfl) ?_
  refine va_get (D := G.1) (ci := 0) (v := .int ct) (C := RX0) (T := TX0) (N := 9) hx hb hts hinX0 hown hK.1 hP 0 rfl rfl 1 (by decide) (hts (.fieldLink RX0 15 "PlaFolder$BestFolding" "count" "I") (by decide +kernel)) (fun _ h9 => h9) rfl dX0_extend_2 ?_
  obtain ⟨J5, hJ52, h⟩ := h
  refine joinW (σ := Int32 × (Nat → Int32) × (Nat → Int32)) (J := fun q => J5 q.1 q.2.1 q.2.2) (pc := 13) (st := fun q => []) (P := fun q H locs ls => va_P G.1 vwCl (wB G be beD kn q.1 q.2.1 q.2.2 tu tl bd bm d0 d1 d2 d3 d4 d5) H ∧ va_D A (wB G be beD kn q.1 q.2.1 q.2.2 tu tl bd bm d0 d1 d2 d3 d4 d5) ∧ va_S A s.heap H locs ∧ lv_has ls 5 [(0, .ref (be 0)), (1, .int (1 : Int32)), (2, .int a2), (3, .int a3)]) ?_ (fun join6 => ?_)
  · rintro ⟨z2, z3, z4⟩ h H locs ls ⟨hP, hD, hS, hl⟩
    have hP : va_P G.1 vwCl (wB G be beD kn z2 z3 z4 tu tl bd bm d0 d1 d2 d3 d4 d5) H := hP
    have hD : va_D A (wB G be beD kn z2 z3 z4 tu tl bd bm d0 d1 d2 d3 d4 d5) := hD
    have hl : lv_has ls 5 [(0, .ref (be 0)), (1, .int (1 : Int32)), (2, .int a2), (3, .int a3)] := hl
    have h := hJ52 z2 z3 z4 h
    refine W.eq (g2 := F0 m 13 ls ([])) rfl ?_
    refine lv_iload_n hx hb dX0_extend_13 rfl (lv_at hl 2 rfl) ?_
    refine lv_istore (lv' := [(4, .int a2), (0, .ref (be 0)), (1, .int (1 : Int32)), (2, .int a2), (3, .int a3)]) hx hb dX0_extend_14 hl (by decide) rfl (fun ls hl => ?_)
    obtain ⟨I17, n18, h0, hst19⟩ := h
    refine loopW (σ := Int32 × Int32 × (Nat → Int32) × (Nat → Int32) × (Nat → Int32) × (Nat → Int32) × (Nat → Int32) × (Nat → Int32) × (Nat → Int32) × (Nat → Int32)) (P := fun q H locs ls => va_P G.1 vwCl (wB G be beD kn q.2.1 q.2.2.1 q.2.2.2.1 q.2.2.2.2.1 q.2.2.2.2.2.1 bd bm d0 d1 q.2.2.2.2.2.2.1 q.2.2.2.2.2.2.2.1 q.2.2.2.2.2.2.2.2.1 q.2.2.2.2.2.2.2.2.2) H ∧ va_D A (wB G be beD kn q.2.1 q.2.2.1 q.2.2.2.1 q.2.2.2.2.1 q.2.2.2.2.2.1 bd bm d0 d1 q.2.2.2.2.2.2.1 q.2.2.2.2.2.2.2.1 q.2.2.2.2.2.2.2.2.1 q.2.2.2.2.2.2.2.2.2) ∧ va_S A s.heap H locs ∧ lv_has ls 5 [(0, .ref (be 0)), (1, .int (1 : Int32)), (3, .int a3), (4, .int q.1)]) (I := fun n q => I17 n q.1 q.2.1 q.2.2.1 q.2.2.2.1 q.2.2.2.2.1 q.2.2.2.2.2.1 q.2.2.2.2.2.2.1 q.2.2.2.2.2.2.2.1 q.2.2.2.2.2.2.2.2.1 q.2.2.2.2.2.2.2.2.2) n18 (a2, z2, z3, z4, tu, tl, d2, d3, d4, d5) h0 _ _ _ ⟨hP, hD, hS, lv_sub hl [1, 2, 4, 0] rfl⟩ ?_
    rintro n22 ⟨x7, z8, z9, z10, z11, z12, z13, z14, z15, z16⟩ hI ih21 H locs ls ⟨hP, hD, hS, hl⟩
    have hP : va_P G.1 vwCl (wB G be beD kn z8 z9 z10 z11 z12 bd bm d0 d1 z13 z14 z15 z16) H := hP
    have hD : va_D A (wB G be beD kn z8 z9 z10 z11 z12 bd bm d0 d1 z13 z14 z15 z16) := hD
    have hl : lv_has ls 5 [(0, .ref (be 0)), (1, .int (1 : Int32)), (3, .int a3), (4, .int x7)] := hl
    have h := hst19 n22 x7 z8 z9 z10 z11 z12 z13 z14 z15 z16 hI
    refine lv_iload hx hb dX0_extend_16 (lv_at hl 3 rfl) ?_
    refine lv_bipush (v := (nI 10)) hx hb dX0_extend_18 (by decide) ?_
    refine lv_icmp_ge (tgt := 62) hx hb dX0_extend_20 (by decide) (fun c_23 => ?_) (fun c_23 => ?_)
    · have h := h.1 c_23
      exact W.vret hx hb hr (fun t ht hW => ⟨⟨(z8, z9, z10, z11, z12, z13, z14, z15, z16), rfl, h, by rw [ht]; exact hP, hD⟩, hS.F ht⟩) hS.2.2 dX0_extend_62
    · have h := h.2 c_23
      refine lv_iload_n hx hb dX0_extend_23 rfl (lv_at hl 1 rfl) ?_
      refine lv_iload_n hx hb dX0_extend_24 rfl (lv_at hl 2 rfl) ?_
      refine lv_iload hx hb dX0_extend_25 (lv_at hl 3 rfl) ?_
      refine kp_i (wr := wB G be beD kn z8 z9 z10 z11 z12 bd bm d0 d1 z13 z14 z15 z16) (va_runS (As := [.int a3, .int x7]) (rest := [.int (1 : Int32)]) ⟨hx, hb, hml, hown, hts⟩ (c_X0_mostFolds l G  _  a3 x7 h) (va_cwS 2 hts gX0_extend_X0_mostFolds rfl rfl rfl (by decide +kernel) ⟨Nat.le_of_ble_eq_true rfl, Nat.le_of_ble_eq_true rfl⟩) (kpSp hK hP hD hZ hS hA (pm_nil _)) rfl rfl hl.1 rfl (lv_room (Nat.le_of_ble_eq_true rfl)) dX0_extend_27 ⟨Nat.zero_le _, Nat.zero_le _⟩) hP hD hS hA (pm_nil _) (fun r24 w46 H locs h hP hD hS => ?_)
      have hP : va_P G.1 vwCl (wB G be beD kn z8 z9 z10 z11 z12 bd bm d0 d1 z13 z14 z15 z16) H := hP.perm (pm_nil _).symm
      have hD : va_D A (wB G be beD kn z8 z9 z10 z11 z12 bd bm d0 d1 z13 z14 z15 z16) := hD.perm (pm_nil _).symm
      try dsimp only at h
      refine lv_iadd hx hb dX0_extend_30 ?_
      refine lv_aload_n hx hb dX0_extend_31 rfl (lv_at hl 0 rfl) ?_
      refine va_get (D := G.1) (ci := 0) (v := .int z8) (C := RX0) (T := TX0) (N := 9) hx hb hts hinX0 hown hK.1 hP 0 rfl rfl 1 (by decide) (hts (.fieldLink RX0 15 "PlaFolder$BestFolding" "count" "I") (by decide +kernel)) (fun _ h9 => h9) rfl dX0_extend_32 ?_
      refine lv_icmp_gt (tgt := 39) hx hb dX0_extend_35 (by decide) (fun c_25 => ?_) (fun c_25 => ?_)
      · have h := h.1 c_25
        refine lv_iload_n hx hb dX0_extend_39 rfl (lv_at hl 2 rfl) ?_
        refine lv_iload hx hb dX0_extend_40 (lv_at hl 3 rfl) ?_
        refine kp_i (wr := wB G be beD kn z8 z9 z10 z11 z12 bd bm d0 d1 z13 z14 z15 z16) (va_runSN (As := [.int a3, .int x7]) (rest := []) ⟨hx, hb, hml, hown, hts⟩ (c_X5_contains l G  _  a3 x7 h) ⟨va_cnB 2 hts gX0_extend_X5_contains_n79 rfl rfl rfl (hK.2.M 35 (q := ("PlaFolder$BestFolding", 79, ⟨"PlaFolder", "contains", "(II)Z"⟩, "PlaFolder")) rfl) (hts (.initialized RX5) (by decide +kernel)) (by decide +kernel) ⟨Nat.le_of_ble_eq_true rfl, Nat.le_of_ble_eq_true rfl⟩, hts (.static yX5_contains) (by decide +kernel), trivial⟩ (kpSp hK hP hD hZ hS hA (pm_nil _)) rfl rfl hl.1 rfl (lv_room (Nat.le_of_ble_eq_true rfl)) dX0_extend_42 ⟨Nat.zero_le _, Nat.zero_le _⟩) hP hD hS hA (pm_nil _) (fun r26 w45 H locs h hP hD hS => ?_)
        have hP : va_P G.1 vwCl (wB G be beD kn z8 z9 z10 z11 z12 bd bm d0 d1 z13 z14 z15 z16) H := hP.perm (pm_nil _).symm
        have hD : va_D A (wB G be beD kn z8 z9 z10 z11 z12 bd bm d0 d1 z13 z14 z15 z16) := hD.perm (pm_nil _).symm
        try dsimp only at h
        refine lv_if_eq (tgt := 56) hx hb dX0_extend_45 (by decide) (fun c_27 => ?_) (fun c_27 => ?_)
        · have h := h.1 c_27
          refine lv_iinc (v := (x7 + (1 : Int32))) (lv' := [(4, .int (x7 + (1 : Int32))), (0, .ref (be 0)), (1, .int (1 : Int32)), (3, .int a3)]) hx hb dX0_extend_56 hl (k := 3) rfl rfl (by decide) rfl (fun ls hl => ?_)
          refine lv_goto (tgt := 16) hx hb dX0_extend_59 (by decide) ?_
          obtain ⟨n29, hn28, hI30⟩ := h
          exact ih21 n29 ((x7 + (1 : Int32)), z8, z9, z10, z11, z12, z13, z14, z15, z16) hn28 hI30 _ _ _ ⟨hP, hD, hS, lv_sub hl [1, 2, 3, 0] rfl⟩
        · have h := h.2 c_27
          refine lv_aload_n hx hb dX0_extend_48 rfl (lv_at hl 0 rfl) ?_
          refine lv_iload_n hx hb dX0_extend_49 rfl (lv_at hl 1 rfl) ?_
          refine lv_iload hx hb dX0_extend_50 (lv_at hl 3 rfl) ?_
          refine lv_iload_n hx hb dX0_extend_52 rfl (lv_at hl 2 rfl) ?_
          refine kp_v (wr := ([] : va_W)) (va_runV (As := [.int (1 : Int32), .int x7, .int a3]) (rest := []) ⟨hx, hb, hml, hown, hts⟩ (c_X0_tryLowers_1 l G be beD _ kn z8 z9 z10 z11 z12 bd bm d0 d1 z13 z14 z15 z16 x7 a3 h) (cwV 3 hts gX0_extend_X0_tryLowers rfl rfl rfl (by decide +kernel) ⟨Nat.le_of_ble_eq_true rfl, Nat.le_of_ble_eq_true rfl⟩) (kpVp hK hP hD hZ hS hA (pm_all _) (q0 := 0) (ci := 0) rfl rfl) rfl rfl hl.1 rfl (lv_room (Nat.le_of_ble_eq_true rfl)) dX0_extend_53 ⟨Nat.zero_le _, Nat.zero_le _⟩) hP hD hS hA (pm_all _) (fun w44 H locs h hP hD hS => ?_)
          obtain ⟨u32, u33, u34, u35, u36, u37, u38, u39, u40⟩ := w44
          have hP : va_P G.1 vwCl (wB G be beD kn u32 u33 u34 u35 u36 bd bm d0 d1 u37 u38 u39 u40) H := hP.perm (pm_all _).symm
          have hD : va_D A (wB G be beD kn u32 u33 u34 u35 u36 bd bm d0 d1 u37 u38 u39 u40) := hD.perm (pm_all _).symm
          try dsimp only at h
          refine lv_iinc (v := (x7 + (1 : Int32))) (lv' := [(4, .int (x7 + (1 : Int32))), (0, .ref (be 0)), (1, .int (1 : Int32)), (3, .int a3)]) hx hb dX0_extend_56 hl (k := 3) rfl rfl (by decide) rfl (fun ls hl => ?_)
          refine lv_goto (tgt := 16) hx hb dX0_extend_59 (by decide) ?_
          obtain ⟨n42, hn41, hI43⟩ := h
          exact ih21 n42 ((x7 + (1 : Int32)), u32, u33, u34, u35, u36, u37, u38, u39, u40) hn41 hI43 _ _ _ ⟨hP, hD, hS, lv_sub hl [1, 2, 3, 0] rfl⟩
      · have h := h.2 c_25
        exact W.vret hx hb hr (fun t ht hW => ⟨⟨(z8, z9, z10, z11, z12, z13, z14, z15, z16), rfl, h, by rw [ht]; exact hP, hD⟩, hS.F ht⟩) hS.2.2 dX0_extend_38
  · refine lv_icmp_le (tgt := 13) hx hb dX0_extend_5 (by decide) (fun c_1 => ?_) (fun c_1 => ?_)
    · have h := h.1 c_1
      exact join6 (ct, bu, bl) h _ _ _ ⟨hP, hD, hS, lv_sub hl [0, 1, 2, 3] rfl⟩
    · have h := h.2 c_1
      refine lv_aload_n hx hb dX0_extend_8 rfl (lv_at hl 0 rfl) ?_
      refine lv_iload_n hx hb dX0_extend_9 rfl (lv_at hl 1 rfl) ?_
      refine kp_v (wr := ([] : va_W)) (va_runV (As := [.int (1 : Int32)]) (rest := []) ⟨hx, hb, hml, hown, hts⟩ (c_X0_keep_1 l G be beD _ kn ct bu bl tu tl bd bm d0 d1 d2 d3 d4 d5  h) (cwV 1 hts gX0_extend_X0_keep rfl rfl rfl (by decide +kernel) ⟨Nat.le_of_ble_eq_true rfl, Nat.le_of_ble_eq_true rfl⟩) (kpVp hK hP hD hZ hS hA (pm_all _) (q0 := 0) (ci := 0) rfl rfl) rfl rfl hl.1 rfl (lv_room (Nat.le_of_ble_eq_true rfl)) dX0_extend_10 ⟨Nat.zero_le _, Nat.zero_le _⟩) hP hD hS hA (pm_all _) (fun w51 H locs h hP hD hS => ?_)
      obtain ⟨u48, u49, u50⟩ := w51
      have hP : va_P G.1 vwCl (wB G be beD kn u48 u49 u50 tu tl bd bm d0 d1 d2 d3 d4 d5) H := hP.perm (pm_all _).symm
      have hD : va_D A (wB G be beD kn u48 u49 u50 tu tl bd bm d0 d1 d2 d3 d4 d5) := hD.perm (pm_all _).symm
      try dsimp only at h
      exact join6 (u48, u49, u50) h _ _ _ ⟨hP, hD, hS, lv_sub hl [0, 1, 2, 3] rfl⟩
def wp_X0_tryLowers_0 (a2 : Int32) (a3 : Int32) (ct : Int32) (bu : Nat → Int32) (bl : Nat → Int32) (tu : Nat → Int32) (tl : Nat → Int32) (bd : Nat → Int32) (bm : Nat → Int32) (d0 : Nat → Int32) (d1 : Nat → Int32) (d2 : Nat → Int32) (d3 : Nat → Int32) (d4 : Nat → Int32) (d5 : Nat → Int32) (K : Int32 → (Nat → Int32) → (Nat → Int32) → (Nat → Int32) → (Nat → Int32) → (Nat → Int32) → (Nat → Int32) → (Nat → Int32) → (Nat → Int32) → (Nat → Int32) → Prop) : Prop :=
 (vp_in a2 10 ∧ (Lp11 (0 : Int32) ct bu bl tu tl d1 d2 d3 d4 d5 (fun (x3 : Int32) (z4 : Int32) (z5 : Nat → Int32) (z6 : Nat → Int32) (z7 : Nat → Int32) (z8 : Nat → Int32) (z9 : Nat → Int32) (z10 : Nat → Int32) (z11 : Nat → Int32) (z12 : Nat → Int32) (z13 : Nat → Int32) (J17 : Int32 → Int32 → (Nat → Int32) → (Nat → Int32) → (Nat → Int32) → (Nat → Int32) → (Nat → Int32) → (Nat → Int32) → (Nat → Int32) → (Nat → Int32) → (Nat → Int32) → Prop) => (((nI 10) ≤ x3 → K z4 z5 z6 z7 z8 z9 z10 z11 z12 z13) ∧
 (¬ ((nI 10) ≤ x3) → wp_X5_contains ((bm a2.toNatClampNeg) &&& a3) x3 (fun (r21 : Int32) => ((r21 = 0 → J17 (x3 + (1 : Int32)) z4 z5 z6 z7 z8 z9 z10 z11 z12 z13) ∧
 (¬ (r21 = 0) → (vp_in a2 10 ∧ (vp_in x3 10 ∧ wp_X1_allow (bd a2.toNatClampNeg) (bd x3.toNatClampNeg) d0 (fun (r28 : Int32) => ((r28 = 0 → J17 (x3 + (1 : Int32)) z4 z5 z6 z7 z8 z9 z10 z11 z12 z13) ∧
 (¬ (r28 = 0) → wp_X1_copyFrom z9 d0 (fun (u34 : Nat → Int32) => (vp_in a2 10 ∧ (vp_in x3 10 ∧ wp_X1_add (bd a2.toNatClampNeg) (bd x3.toNatClampNeg) u34 (fun (u38 : Nat → Int32) => wp_X0_extend_1 (a2 + (1 : Int32)) (a3 &&& (((jshl (1 : Int32) a2) ||| (jshl (1 : Int32) x3)) ^^^ (-1 : Int32))) z4 z5 z6 (upd z7 0 a2) (upd z8 0 x3) bd bm u38 z10 z11 z12 z13 (fun (u40 : Int32) (u41 : Nat → Int32) (u42 : Nat → Int32) (u43 : Nat → Int32) (u44 : Nat → Int32) (u45 : Nat → Int32) (u46 : Nat → Int32) (u47 : Nat → Int32) (u48 : Nat → Int32) => J17 (x3 + (1 : Int32)) u40 u41 u42 u43 u44 u38 u45 u46 u47 u48))))))))))))))))))
abbrev rm_X0_tryLowers_0 : Room := { frames := 12, cells := 0, slots := 0, locals := 303 }
set_option maxHeartbeats 4000000 in
set_option maxRecDepth 100000 in
theorem c_X0_tryLowers_0 (l : Launch) (G : GG) (be : Nat → Nat) (beD : Nat → Nat → Nat) (sz : Nat) (kn : Int32) (ct : Int32) (bu : Nat → Int32) (bl : Nat → Int32) (tu : Nat → Int32) (tl : Nat → Int32) (bd : Nat → Int32) (bm : Nat → Int32) (d0 : Nat → Int32) (d1 : Nat → Int32) (d2 : Nat → Int32) (d3 : Nat → Int32) (d4 : Nat → Int32) (d5 : Nat → Int32) (a2 : Int32) (a3 : Int32) {K : Int32 → (Nat → Int32) → (Nat → Int32) → (Nat → Int32) → (Nat → Int32) → (Nat → Int32) → (Nat → Int32) → (Nat → Int32) → (Nat → Int32) → (Nat → Int32) → Prop} (h : wp_X0_tryLowers_0 a2 a3 ct bu bl tu tl bd bm d0 d1 d2 d3 d4 d5 K) : CV l yX0_tryLowers wsX0_tryLowers rm_X0_tryLowers_0 G [.ref (be 0), .int (0 : Int32), .int a2, .int a3] (wB G be beD kn ct bu bl tu tl bd bm d0 d1 d2 d3 d4 d5) sz (fun u : Int32 × (Nat → Int32) × (Nat → Int32) × (Nat → Int32) × (Nat → Int32) × (Nat → Int32) × (Nat → Int32) × (Nat → Int32) × (Nat → Int32) × (Nat → Int32) => wB G be beD kn u.1 u.2.1 u.2.2.1 u.2.2.2.1 u.2.2.2.2.1 bd bm d0 u.2.2.2.2.2.1 u.2.2.2.2.2.2.1 u.2.2.2.2.2.2.2.1 u.2.2.2.2.2.2.2.2.1 u.2.2.2.2.2.2.2.2.2) (fun u => K u.1 u.2.1 u.2.2.1 u.2.2.2.1 u.2.2.2.2.1 u.2.2.2.2.2.1 u.2.2.2.2.2.2.1 u.2.2.2.2.2.2.2.1 u.2.2.2.2.2.2.2.2.1 u.2.2.2.2.2.2.2.2.2) := by
  refine Met.ofW (cc := cX0_tryLowers) (maxL := 6) (ret := none) (by decide) rfl ?_
  intro p e s m args below meth c s₁ B hml hv
  obtain ⟨rfl, hsz, hP, hK, hD0, hZ⟩ := hv
  have hx := B.exec
  have hb := B.bytes
  have hr := B.returns
  have hts := atoms_spec (ws := wsX0_tryLowers) B.pre
  have hown : s.vm.findClass RX0 = some m.cls := findClass_of_methodNamed B.named
  have hlocks := B.notSynchronized
  subst hsz
  have hD := hD0.self (sz := s.heap.size)
  generalize hAe : va_A (wB G be beD kn ct bu bl tu tl bd bm d0 d1 d2 d3 d4 d5) s.heap.size = A at hD hZ ⊢
  have hA : ∀ q : Nat, s.heap.size ≤ q → A q := fun q h => by rw [← hAe]; exact Or.inr h
  have hS : va_S A s.heap s.heap [] := va_S.rf
  have hl := lv_entry ([.ref (be 0), .int (0 : Int32), .int a2, .int a3]) (n := 6) (Nat.le_of_ble_eq_true rfl)
  rw [lg_entry_eq]
  generalize (lg_sl ([.ref (be 0), .int (0 : Int32), .int a2, .int a3]) ++ List.replicate (6 - (lg_sl ([.ref (be 0), .int (0 : Int32), .int a2, .int a3])).length) Slot.unset).toArray = ls at hl ⊢
  have hl : lv_has ls 6 [(0, .ref (be 0)), (1, .int (0 : Int32)), (2, .int a2), (3, .int a3)] := hl
  unfold wp_X0_tryLowers_0 at h
  have hinX0 : ∀ w ∈ wsX00, w ∈ wsX0_tryLowers := by decide +kernel
  refine lv_iload_n hx hb dX0_tryLowers_0 rfl (lv_at hl 1 rfl) ?_
  refine lv_iconst (v := (nI 5)) hx hb dX0_tryLowers_1 (by decide) ?_
  refine lv_icmp_lt (tgt := 6) hx hb dX0_tryLowers_2 (by decide) (fun _ => ?_) (fun c_1 => absurd c_1 (by decide))
  refine lv_aload_n hx hb dX0_tryLowers_6 rfl (lv_at hl 0 rfl) ?_
  refine va_get (D := G.1) (ci := 0) (v := .ref (be 6)) (C := RX0) (T := TX0) (N := 9) hx hb hts hinX0 hown hK.1 hP 0 rfl rfl 7 (by decide) (hts (.fieldLink RX0 35 "PlaFolder$BestFolding" "mates" "[I") (by decide +kernel)) (fun _ h9 => h9) rfl dX0_tryLowers_7 ?_
  refine lv_iload_n hx hb dX0_tryLowers_10 rfl (lv_at hl 2 rfl) ?_
  obtain ⟨hi2, h⟩ := h
  refine x_iald hx hb hK hP 6 rfl hi2 rfl dX0_tryLowers_11 ?_
  refine lv_iload_n hx hb dX0_tryLowers_12 rfl (lv_at hl 3 rfl) ?_
  refine lv_iand hx hb dX0_tryLowers_13 ?_
  refine lv_istore (lv' := [(4, .int ((bm a2.toNatClampNeg) &&& a3)), (0, .ref (be 0)), (1, .int (0 : Int32)), (2, .int a2), (3, .int a3)]) hx hb dX0_tryLowers_14 hl (by decide) rfl (fun ls hl => ?_)
  refine lv_iconst (v := (0 : Int32)) hx hb dX0_tryLowers_16 (by decide) ?_
  refine lv_istore (lv' := [(5, .int (0 : Int32)), (4, .int ((bm a2.toNatClampNeg) &&& a3)), (0, .ref (be 0)), (1, .int (0 : Int32)), (2, .int a2), (3, .int a3)]) hx hb dX0_tryLowers_17 hl (by decide) rfl (fun ls hl => ?_)
  obtain ⟨I14, n15, h0, hst16⟩ := h
  refine loopW (σ := Int32 × Int32 × (Nat → Int32) × (Nat → Int32) × (Nat → Int32) × (Nat → Int32) × (Nat → Int32) × (Nat → Int32) × (Nat → Int32) × (Nat → Int32) × (Nat → Int32)) (P := fun q H locs ls => va_P G.1 vwCl (wB G be beD kn q.2.1 q.2.2.1 q.2.2.2.1 q.2.2.2.2.1 q.2.2.2.2.2.1 bd bm d0 q.2.2.2.2.2.2.1 q.2.2.2.2.2.2.2.1 q.2.2.2.2.2.2.2.2.1 q.2.2.2.2.2.2.2.2.2.1 q.2.2.2.2.2.2.2.2.2.2) H ∧ va_D A (wB G be beD kn q.2.1 q.2.2.1 q.2.2.2.1 q.2.2.2.2.1 q.2.2.2.2.2.1 bd bm d0 q.2.2.2.2.2.2.1 q.2.2.2.2.2.2.2.1 q.2.2.2.2.2.2.2.2.1 q.2.2.2.2.2.2.2.2.2.1 q.2.2.2.2.2.2.2.2.2.2) ∧ va_S A s.heap H locs ∧ lv_has ls 6 [(0, .ref (be 0)), (1, .int (0 : Int32)), (2, .int a2), (3, .int a3), (4, .int ((bm a2.toNatClampNeg) &&& a3)), (5, .int q.1)]) (I := fun n q => I14 n q.1 q.2.1 q.2.2.1 q.2.2.2.1 q.2.2.2.2.1 q.2.2.2.2.2.1 q.2.2.2.2.2.2.1 q.2.2.2.2.2.2.2.1 q.2.2.2.2.2.2.2.2.1 q.2.2.2.2.2.2.2.2.2.1 q.2.2.2.2.2.2.2.2.2.2) n15 ((0 : Int32), ct, bu, bl, tu, tl, d1, d2, d3, d4, d5) h0 _ _ _ ⟨hP, hD, hS, lv_sub hl [2, 3, 4, 5, 1, 0] rfl⟩ ?_
  rintro n19 ⟨x3, z4, z5, z6, z7, z8, z9, z10, z11, z12, z13⟩ hI ih18 H locs ls ⟨hP, hD, hS, hl⟩
  have hP : va_P G.1 vwCl (wB G be beD kn z4 z5 z6 z7 z8 bd bm d0 z9 z10 z11 z12 z13) H := hP
  have hD : va_D A (wB G be beD kn z4 z5 z6 z7 z8 bd bm d0 z9 z10 z11 z12 z13) := hD
  have hl : lv_has ls 6 [(0, .ref (be 0)), (1, .int (0 : Int32)), (2, .int a2), (3, .int a3), (4, .int ((bm a2.toNatClampNeg) &&& a3)), (5, .int x3)] := hl
  have h := hst16 n19 x3 z4 z5 z6 z7 z8 z9 z10 z11 z12 z13 hI
  refine lv_iload hx hb dX0_tryLowers_19 (lv_at hl 5 rfl) ?_
  refine lv_bipush (v := (nI 10)) hx hb dX0_tryLowers_21 (by decide) ?_
  refine lv_icmp_ge (tgt := 145) hx hb dX0_tryLowers_23 (by decide) (fun c_20 => ?_) (fun c_20 => ?_)
  · have h := h.1 c_20
    exact W.vret hx hb hr (fun t ht hW => ⟨⟨(z4, z5, z6, z7, z8, z9, z10, z11, z12, z13), rfl, h, by rw [ht]; exact hP, hD⟩, hS.F ht⟩) hS.2.2 dX0_tryLowers_145
  · have h := h.2 c_20
    refine lv_iload hx hb dX0_tryLowers_26 (lv_at hl 4 rfl) ?_
    refine lv_iload hx hb dX0_tryLowers_28 (lv_at hl 5 rfl) ?_
    refine kp_i (wr := wB G be beD kn z4 z5 z6 z7 z8 bd bm d0 z9 z10 z11 z12 z13) (va_runSN (As := [.int ((bm a2.toNatClampNeg) &&& a3), .int x3]) (rest := []) ⟨hx, hb, hml, hown, hts⟩ (c_X5_contains l G  _  ((bm a2.toNatClampNeg) &&& a3) x3 h) ⟨va_cnB 2 hts gX0_tryLowers_X5_contains_n79 rfl rfl rfl (hK.2.M 35 (q := ("PlaFolder$BestFolding", 79, ⟨"PlaFolder", "contains", "(II)Z"⟩, "PlaFolder")) rfl) (hts (.initialized RX5) (by decide +kernel)) (by decide +kernel) ⟨Nat.le_of_ble_eq_true rfl, Nat.le_of_ble_eq_true rfl⟩, hts (.static yX5_contains) (by decide +kernel), trivial⟩ (kpSp hK hP hD hZ hS hA (pm_nil _)) rfl rfl hl.1 rfl (lv_room (Nat.le_of_ble_eq_true rfl)) dX0_tryLowers_30 ⟨Nat.zero_le _, Nat.zero_le _⟩) hP hD hS hA (pm_nil _) (fun r21 w56 H locs h hP hD hS => ?_)
    have hP : va_P G.1 vwCl (wB G be beD kn z4 z5 z6 z7 z8 bd bm d0 z9 z10 z11 z12 z13) H := hP.perm (pm_nil _).symm
    have hD : va_D A (wB G be beD kn z4 z5 z6 z7 z8 bd bm d0 z9 z10 z11 z12 z13) := hD.perm (pm_nil _).symm
    try dsimp only at h
    refine lv_if_eq (tgt := 139) hx hb dX0_tryLowers_33 (by decide) (fun c_22 => ?_) (fun c_22 => ?_)
    · have h := h.1 c_22
      refine lv_iinc (v := (x3 + (1 : Int32))) (lv' := [(5, .int (x3 + (1 : Int32))), (0, .ref (be 0)), (1, .int (0 : Int32)), (2, .int a2), (3, .int a3), (4, .int ((bm a2.toNatClampNeg) &&& a3))]) hx hb dX0_tryLowers_139 hl (k := 5) rfl rfl (by decide) rfl (fun ls hl => ?_)
      refine lv_goto (tgt := 19) hx hb dX0_tryLowers_142 (by decide) ?_
      obtain ⟨n24, hn23, hI25⟩ := h
      exact ih18 n24 ((x3 + (1 : Int32)), z4, z5, z6, z7, z8, z9, z10, z11, z12, z13) hn23 hI25 _ _ _ ⟨hP, hD, hS, lv_sub hl [1, 2, 3, 4, 5, 0] rfl⟩
    · have h := h.2 c_22
      refine lv_aload_n hx hb dX0_tryLowers_36 rfl (lv_at hl 0 rfl) ?_
      refine va_get (D := G.1) (ci := 0) (v := .ref (be 7)) (C := RX0) (T := TX0) (N := 9) hx hb hts hinX0 hown hK.1 hP 0 rfl rfl 8 (by decide) (hts (.fieldLink RX0 40 "PlaFolder$BestFolding" "demandsAt" "[LPlaFolder$Demands;") (by decide +kernel)) (fun _ h9 => h9) rfl dX0_tryLowers_37 ?_
      refine lv_iload_n hx hb dX0_tryLowers_40 rfl (lv_at hl 1 rfl) ?_
      refine x_aldq hx hb hK hP 7 2 rfl rfl (vin_c (by decide)) (k := 0) (by decide) (a2 := beD 0 0) rfl dX0_tryLowers_41 ?_
      refine lv_aload_n hx hb dX0_tryLowers_42 rfl (lv_at hl 0 rfl) ?_
      refine va_get (D := G.1) (ci := 0) (v := .ref (be 5)) (C := RX0) (T := TX0) (N := 9) hx hb hts hinX0 hown hK.1 hP 0 rfl rfl 6 (by decide) (hts (.fieldLink RX0 32 "PlaFolder$BestFolding" "used" "[I") (by decide +kernel)) (fun _ h9 => h9) rfl dX0_tryLowers_43 ?_
      refine lv_iload_n hx hb dX0_tryLowers_46 rfl (lv_at hl 2 rfl) ?_
      obtain ⟨hi26, h⟩ := h
      refine x_iald hx hb hK hP 5 rfl hi26 rfl dX0_tryLowers_47 ?_
      refine lv_aload_n hx hb dX0_tryLowers_48 rfl (lv_at hl 0 rfl) ?_
      refine va_get (D := G.1) (ci := 0) (v := .ref (be 5)) (C := RX0) (T := TX0) (N := 9) hx hb hts hinX0 hown hK.1 hP 0 rfl rfl 6 (by decide) (hts (.fieldLink RX0 32 "PlaFolder$BestFolding" "used" "[I") (by decide +kernel)) (fun _ h9 => h9) rfl dX0_tryLowers_49 ?_
      refine lv_iload hx hb dX0_tryLowers_52 (lv_at hl 5 rfl) ?_
      obtain ⟨hi27, h⟩ := h
      refine x_iald hx hb hK hP 5 rfl hi27 rfl dX0_tryLowers_54 ?_
      refine kp_i (wr := wB0 G be beD kn z4 z5 z6 z7 z8 bd bm ++ (wD G (beD 1) z9 ++ (wD G (beD 2) z10 ++ (wD G (beD 3) z11 ++ (wD G (beD 4) z12 ++ (wD G (beD 5) z13)))))) (va_runVN (As := [.int (bd a2.toNatClampNeg), .int (bd x3.toNatClampNeg)]) (rest := []) ⟨hx, hb, hml, hown, hts⟩ (c_X1_allow l G (beD 0) _ d0 (bd a2.toNatClampNeg) (bd x3.toNatClampNeg) h) ⟨va_cnB 2 hts gX0_tryLowers_X1_allow_n85 rfl rfl rfl (hK.2.M 36 (q := ("PlaFolder$BestFolding", 85, ⟨"PlaFolder$Demands", "allow", "(II)Z"⟩, "PlaFolder")) rfl) (hts (.initialized RX1) (by decide +kernel)) (by decide +kernel) ⟨Nat.le_of_ble_eq_true rfl, Nat.le_of_ble_eq_true rfl⟩, hts (.instanceMethod yX1_allow) (by decide +kernel), hts (.selects RX1 yX1_allow yX1_allow) (by decide +kernel)⟩ (kpVp hK hP hD hZ hS hA (pm7_023456_1 (wB0 G be beD kn z4 z5 z6 z7 z8 bd bm) (wD G (beD 0) d0) (wD G (beD 1) z9) (wD G (beD 2) z10) (wD G (beD 3) z11) (wD G (beD 4) z12) (wD G (beD 5) z13)) (q0 := 0) (ci := 1) rfl rfl) rfl rfl hl.1 rfl (lv_room (Nat.le_of_ble_eq_true rfl)) dX0_tryLowers_55 ⟨Nat.zero_le _, Nat.zero_le _⟩) hP hD hS hA (pm7_023456_1 (wB0 G be beD kn z4 z5 z6 z7 z8 bd bm) (wD G (beD 0) d0) (wD G (beD 1) z9) (wD G (beD 2) z10) (wD G (beD 3) z11) (wD G (beD 4) z12) (wD G (beD 5) z13)) (fun r28 w55 H locs h hP hD hS => ?_)
      have hP : va_P G.1 vwCl (wB G be beD kn z4 z5 z6 z7 z8 bd bm d0 z9 z10 z11 z12 z13) H := hP.perm (pm7_023456_1 (wB0 G be beD kn z4 z5 z6 z7 z8 bd bm) (wD G (beD 0) d0) (wD G (beD 1) z9) (wD G (beD 2) z10) (wD G (beD 3) z11) (wD G (beD 4) z12) (wD G (beD 5) z13)).symm
      have hD : va_D A (wB G be beD kn z4 z5 z6 z7 z8 bd bm d0 z9 z10 z11 z12 z13) := hD.perm (pm7_023456_1 (wB0 G be beD kn z4 z5 z6 z7 z8 bd bm) (wD G (beD 0) d0) (wD G (beD 1) z9) (wD G (beD 2) z10) (wD G (beD 3) z11) (wD G (beD 4) z12) (wD G (beD 5) z13)).symm
      try dsimp only at h
      refine lv_if_eq (tgt := 139) hx hb dX0_tryLowers_58 (by decide) (fun c_29 => ?_) (fun c_29 => ?_)
      · have h := h.1 c_29
        refine lv_iinc (v := (x3 + (1 : Int32))) (lv' := [(5, .int (x3 + (1 : Int32))), (0, .ref (be 0)), (1, .int (0 : Int32)), (2, .int a2), (3, .int a3), (4, .int ((bm a2.toNatClampNeg) &&& a3))]) hx hb dX0_tryLowers_139 hl (k := 5) rfl rfl (by decide) rfl (fun ls hl => ?_)
        refine lv_goto (tgt := 19) hx hb dX0_tryLowers_142 (by decide) ?_
        obtain ⟨n31, hn30, hI32⟩ := h
        exact ih18 n31 ((x3 + (1 : Int32)), z4, z5, z6, z7, z8, z9, z10, z11, z12, z13) hn30 hI32 _ _ _ ⟨hP, hD, hS, lv_sub hl [1, 2, 3, 4, 5, 0] rfl⟩
      · have h := h.2 c_29
        refine lv_aload_n hx hb dX0_tryLowers_61 rfl (lv_at hl 0 rfl) ?_
        refine va_get (D := G.1) (ci := 0) (v := .ref (be 3)) (C := RX0) (T := TX0) (N := 9) hx hb hts hinX0 hown hK.1 hP 0 rfl rfl 4 (by decide) (hts (.fieldLink RX0 26 "PlaFolder$BestFolding" "triedUpper" "[I") (by decide +kernel)) (fun _ h9 => h9) rfl dX0_tryLowers_62 ?_
        refine lv_iload_n hx hb dX0_tryLowers_65 rfl (lv_at hl 1 rfl) ?_
        refine lv_iload_n hx hb dX0_tryLowers_66 rfl (lv_at hl 2 rfl) ?_
        refine x_iast hx hb hK hP hD hS 3 rfl (vin_c (by decide)) (k := 0) (by decide) dX0_tryLowers_67 (fun H locs hP hD hS => ?_)
        have hP : va_P G.1 vwCl (wB G be beD kn z4 z5 z6 (upd z7 0 a2) z8 bd bm d0 z9 z10 z11 z12 z13) H := hP
        have hD : va_D A (wB G be beD kn z4 z5 z6 (upd z7 0 a2) z8 bd bm d0 z9 z10 z11 z12 z13) := hD
        refine lv_aload_n hx hb dX0_tryLowers_68 rfl (lv_at hl 0 rfl) ?_
        refine va_get (D := G.1) (ci := 0) (v := .ref (be 4)) (C := RX0) (T := TX0) (N := 9) hx hb hts hinX0 hown hK.1 hP 0 rfl rfl 5 (by decide) (hts (.fieldLink RX0 29 "PlaFolder$BestFolding" "triedLower" "[I") (by decide +kernel)) (fun _ h9 => h9) rfl dX0_tryLowers_69 ?_
        refine lv_iload_n hx hb dX0_tryLowers_72 rfl (lv_at hl 1 rfl) ?_
        refine lv_iload hx hb dX0_tryLowers_73 (lv_at hl 5 rfl) ?_
        refine x_iast hx hb hK hP hD hS 4 rfl (vin_c (by decide)) (k := 0) (by decide) dX0_tryLowers_75 (fun H locs hP hD hS => ?_)
        have hP : va_P G.1 vwCl (wB G be beD kn z4 z5 z6 (upd z7 0 a2) (upd z8 0 x3) bd bm d0 z9 z10 z11 z12 z13) H := hP
        have hD : va_D A (wB G be beD kn z4 z5 z6 (upd z7 0 a2) (upd z8 0 x3) bd bm d0 z9 z10 z11 z12 z13) := hD
        refine lv_aload_n hx hb dX0_tryLowers_76 rfl (lv_at hl 0 rfl) ?_
        refine va_get (D := G.1) (ci := 0) (v := .ref (be 7)) (C := RX0) (T := TX0) (N := 9) hx hb hts hinX0 hown hK.1 hP 0 rfl rfl 8 (by decide) (hts (.fieldLink RX0 40 "PlaFolder$BestFolding" "demandsAt" "[LPlaFolder$Demands;") (by decide +kernel)) (fun _ h9 => h9) rfl dX0_tryLowers_77 ?_
        refine lv_iload_n hx hb dX0_tryLowers_80 rfl (lv_at hl 1 rfl) ?_
        refine lv_iconst (v := (1 : Int32)) hx hb dX0_tryLowers_81 (by decide) ?_
        refine lv_iadd hx hb dX0_tryLowers_82 ?_
        refine W.eq (g2 := F0 m 83 ls (.int (1 : Int32) :: .ref (be 7) :: [])) rfl ?_
        refine x_aldq hx hb hK hP 7 2 rfl rfl (vin_c (by decide)) (k := 1) (by decide) (a2 := beD 1 0) rfl dX0_tryLowers_83 ?_
        refine lv_aload_n hx hb dX0_tryLowers_84 rfl (lv_at hl 0 rfl) ?_
        refine va_get (D := G.1) (ci := 0) (v := .ref (be 7)) (C := RX0) (T := TX0) (N := 9) hx hb hts hinX0 hown hK.1 hP 0 rfl rfl 8 (by decide) (hts (.fieldLink RX0 40 "PlaFolder$BestFolding" "demandsAt" "[LPlaFolder$Demands;") (by decide +kernel)) (fun _ h9 => h9) rfl dX0_tryLowers_85 ?_
        refine lv_iload_n hx hb dX0_tryLowers_88 rfl (lv_at hl 1 rfl) ?_
        refine x_aldq hx hb hK hP 7 2 rfl rfl (vin_c (by decide)) (k := 0) (by decide) (a2 := beD 0 0) rfl dX0_tryLowers_89 ?_
        refine kp_v (wr := wB0 G be beD kn z4 z5 z6 (upd z7 0 a2) (upd z8 0 x3) bd bm ++ (wD G (beD 2) z10 ++ (wD G (beD 3) z11 ++ (wD G (beD 4) z12 ++ (wD G (beD 5) z13))))) (va_runVN (As := [.ref (beD 0 0)]) (rest := []) ⟨hx, hb, hml, hown, hts⟩ (c_X1_copyFrom l G (beD 1) (beD 0) _ z9 d0  h) ⟨va_cnB 1 hts gX0_tryLowers_X1_copyFrom_n88 rfl rfl rfl (hK.2.M 37 (q := ("PlaFolder$BestFolding", 88, ⟨"PlaFolder$Demands", "copyFrom", "(LPlaFolder$Demands;)V"⟩, "PlaFolder")) rfl) (hts (.initialized RX1) (by decide +kernel)) (by decide +kernel) ⟨Nat.le_of_ble_eq_true rfl, Nat.le_of_ble_eq_true rfl⟩, hts (.instanceMethod yX1_copyFrom) (by decide +kernel), hts (.selects RX1 yX1_copyFrom yX1_copyFrom) (by decide +kernel)⟩ (kpVp hK hP hD hZ hS hA (pm7_03456_21 (wB0 G be beD kn z4 z5 z6 (upd z7 0 a2) (upd z8 0 x3) bd bm) (wD G (beD 0) d0) (wD G (beD 1) z9) (wD G (beD 2) z10) (wD G (beD 3) z11) (wD G (beD 4) z12) (wD G (beD 5) z13)) (q0 := 0) (ci := 1) rfl rfl) rfl rfl hl.1 rfl (lv_room (Nat.le_of_ble_eq_true rfl)) dX0_tryLowers_90 ⟨Nat.zero_le _, Nat.zero_le _⟩) hP hD hS hA (pm7_03456_21 (wB0 G be beD kn z4 z5 z6 (upd z7 0 a2) (upd z8 0 x3) bd bm) (wD G (beD 0) d0) (wD G (beD 1) z9) (wD G (beD 2) z10) (wD G (beD 3) z11) (wD G (beD 4) z12) (wD G (beD 5) z13)) (fun w54 H locs h hP hD hS => ?_)
        obtain ⟨u34, rfl⟩ : ∃ z, z = w54 := ⟨_, rfl⟩
        have hP : va_P G.1 vwCl (wB G be beD kn z4 z5 z6 (upd z7 0 a2) (upd z8 0 x3) bd bm d0 u34 z10 z11 z12 z13) H := hP.perm (pm7_03456_21 (wB0 G be beD kn z4 z5 z6 (upd z7 0 a2) (upd z8 0 x3) bd bm) (wD G (beD 0) d0) (wD G (beD 1) u34) (wD G (beD 2) z10) (wD G (beD 3) z11) (wD G (beD 4) z12) (wD G (beD 5) z13)).symm
        have hD : va_D A (wB G be beD kn z4 z5 z6 (upd z7 0 a2) (upd z8 0 x3) bd bm d0 u34 z10 z11 z12 z13) := hD.perm (pm7_03456_21 (wB0 G be beD kn z4 z5 z6 (upd z7 0 a2) (upd z8 0 x3) bd bm) (wD G (beD 0) d0) (wD G (beD 1) u34) (wD G (beD 2) z10) (wD G (beD 3) z11) (wD G (beD 4) z12) (wD G (beD 5) z13)).symm
        try dsimp only at h
        refine lv_aload_n hx hb dX0_tryLowers_93 rfl (lv_at hl 0 rfl) ?_
        refine va_get (D := G.1) (ci := 0) (v := .ref (be 7)) (C := RX0) (T := TX0) (N := 9) hx hb hts hinX0 hown hK.1 hP 0 rfl rfl 8 (by decide) (hts (.fieldLink RX0 40 "PlaFolder$BestFolding" "demandsAt" "[LPlaFolder$Demands;") (by decide +kernel)) (fun _ h9 => h9) rfl dX0_tryLowers_94 ?_
        refine lv_iload_n hx hb dX0_tryLowers_97 rfl (lv_at hl 1 rfl) ?_
        refine lv_iconst (v := (1 : Int32)) hx hb dX0_tryLowers_98 (by decide) ?_
        refine lv_iadd hx hb dX0_tryLowers_99 ?_
        refine W.eq (g2 := F0 m 100 ls (.int (1 : Int32) :: .ref (be 7) :: [])) rfl ?_
        refine x_aldq hx hb hK hP 7 2 rfl rfl (vin_c (by decide)) (k := 1) (by decide) (a2 := beD 1 0) rfl dX0_tryLowers_100 ?_
        refine lv_aload_n hx hb dX0_tryLowers_101 rfl (lv_at hl 0 rfl) ?_
        refine va_get (D := G.1) (ci := 0) (v := .ref (be 5)) (C := RX0) (T := TX0) (N := 9) hx hb hts hinX0 hown hK.1 hP 0 rfl rfl 6 (by decide) (hts (.fieldLink RX0 32 "PlaFolder$BestFolding" "used" "[I") (by decide +kernel)) (fun _ h9 => h9) rfl dX0_tryLowers_102 ?_
        refine lv_iload_n hx hb dX0_tryLowers_105 rfl (lv_at hl 2 rfl) ?_
        obtain ⟨hi35, h⟩ := h
        refine x_iald hx hb hK hP 5 rfl hi35 rfl dX0_tryLowers_106 ?_
        refine lv_aload_n hx hb dX0_tryLowers_107 rfl (lv_at hl 0 rfl) ?_
        refine va_get (D := G.1) (ci := 0) (v := .ref (be 5)) (C := RX0) (T := TX0) (N := 9) hx hb hts hinX0 hown hK.1 hP 0 rfl rfl 6 (by decide) (hts (.fieldLink RX0 32 "PlaFolder$BestFolding" "used" "[I") (by decide +kernel)) (fun _ h9 => h9) rfl dX0_tryLowers_108 ?_
        refine lv_iload hx hb dX0_tryLowers_111 (lv_at hl 5 rfl) ?_
        obtain ⟨hi36, h⟩ := h
        refine x_iald hx hb hK hP 5 rfl hi36 rfl dX0_tryLowers_113 ?_
        refine kp_v (wr := wB0 G be beD kn z4 z5 z6 (upd z7 0 a2) (upd z8 0 x3) bd bm ++ (wD G (beD 0) d0 ++ (wD G (beD 2) z10 ++ (wD G (beD 3) z11 ++ (wD G (beD 4) z12 ++ (wD G (beD 5) z13)))))) (va_runVN (As := [.int (bd a2.toNatClampNeg), .int (bd x3.toNatClampNeg)]) (rest := []) ⟨hx, hb, hml, hown, hts⟩ (c_X1_add l G (beD 1) _ u34 (bd a2.toNatClampNeg) (bd x3.toNatClampNeg) h) ⟨va_cnB 2 hts gX0_tryLowers_X1_add_n92 rfl rfl rfl (hK.2.M 38 (q := ("PlaFolder$BestFolding", 92, ⟨"PlaFolder$Demands", "add", "(II)V"⟩, "PlaFolder")) rfl) (hts (.initialized RX1) (by decide +kernel)) (by decide +kernel) ⟨Nat.le_of_ble_eq_true rfl, Nat.le_of_ble_eq_true rfl⟩, hts (.instanceMethod yX1_add) (by decide +kernel), hts (.selects RX1 yX1_add yX1_add) (by decide +kernel)⟩ (kpVp hK hP hD hZ hS hA (pm7_013456_2 (wB0 G be beD kn z4 z5 z6 (upd z7 0 a2) (upd z8 0 x3) bd bm) (wD G (beD 0) d0) (wD G (beD 1) u34) (wD G (beD 2) z10) (wD G (beD 3) z11) (wD G (beD 4) z12) (wD G (beD 5) z13)) (q0 := 0) (ci := 1) rfl rfl) rfl rfl hl.1 rfl (lv_room (Nat.le_of_ble_eq_true rfl)) dX0_tryLowers_114 ⟨Nat.zero_le _, Nat.zero_le _⟩) hP hD hS hA (pm7_013456_2 (wB0 G be beD kn z4 z5 z6 (upd z7 0 a2) (upd z8 0 x3) bd bm) (wD G (beD 0) d0) (wD G (beD 1) u34) (wD G (beD 2) z10) (wD G (beD 3) z11) (wD G (beD 4) z12) (wD G (beD 5) z13)) (fun w53 H locs h hP hD hS => ?_)
        obtain ⟨u38, rfl⟩ : ∃ z, z = w53 := ⟨_, rfl⟩
        have hP : va_P G.1 vwCl (wB G be beD kn z4 z5 z6 (upd z7 0 a2) (upd z8 0 x3) bd bm d0 u38 z10 z11 z12 z13) H := hP.perm (pm7_013456_2 (wB0 G be beD kn z4 z5 z6 (upd z7 0 a2) (upd z8 0 x3) bd bm) (wD G (beD 0) d0) (wD G (beD 1) u38) (wD G (beD 2) z10) (wD G (beD 3) z11) (wD G (beD 4) z12) (wD G (beD 5) z13)).symm
        have hD : va_D A (wB G be beD kn z4 z5 z6 (upd z7 0 a2) (upd z8 0 x3) bd bm d0 u38 z10 z11 z12 z13) := hD.perm (pm7_013456_2 (wB0 G be beD kn z4 z5 z6 (upd z7 0 a2) (upd z8 0 x3) bd bm) (wD G (beD 0) d0) (wD G (beD 1) u38) (wD G (beD 2) z10) (wD G (beD 3) z11) (wD G (beD 4) z12) (wD G (beD 5) z13)).symm
        try dsimp only at h
        refine lv_aload_n hx hb dX0_tryLowers_117 rfl (lv_at hl 0 rfl) ?_
        refine lv_iload_n hx hb dX0_tryLowers_118 rfl (lv_at hl 1 rfl) ?_
        refine lv_iconst (v := (1 : Int32)) hx hb dX0_tryLowers_119 (by decide) ?_
        refine lv_iadd hx hb dX0_tryLowers_120 ?_
        refine W.eq (g2 := F0 m 121 ls (.int (1 : Int32) :: .ref (be 0) :: [])) rfl ?_
        refine lv_iload_n hx hb dX0_tryLowers_121 rfl (lv_at hl 2 rfl) ?_
        refine lv_iconst (v := (1 : Int32)) hx hb dX0_tryLowers_122 (by decide) ?_
        refine lv_iadd hx hb dX0_tryLowers_123 ?_
        refine lv_iload_n hx hb dX0_tryLowers_124 rfl (lv_at hl 3 rfl) ?_
        refine lv_iconst (v := (1 : Int32)) hx hb dX0_tryLowers_125 (by decide) ?_
        refine lv_iload_n hx hb dX0_tryLowers_126 rfl (lv_at hl 2 rfl) ?_
        refine lv_ishl hx hb dX0_tryLowers_127 ?_
        refine lv_iconst (v := (1 : Int32)) hx hb dX0_tryLowers_128 (by decide) ?_
        refine lv_iload hx hb dX0_tryLowers_129 (lv_at hl 5 rfl) ?_
        refine lv_ishl hx hb dX0_tryLowers_131 ?_
        refine lv_ior hx hb dX0_tryLowers_132 ?_
        refine lv_iconst (v := (-1 : Int32)) hx hb dX0_tryLowers_133 (by decide) ?_
        refine lv_ixor hx hb dX0_tryLowers_134 ?_
        refine lv_iand hx hb dX0_tryLowers_135 ?_
        refine kp_v (wr := ([] : va_W)) (va_runV (As := [.int (1 : Int32), .int (a2 + (1 : Int32)), .int (a3 &&& (((jshl (1 : Int32) a2) ||| (jshl (1 : Int32) x3)) ^^^ (-1 : Int32)))]) (rest := []) ⟨hx, hb, hml, hown, hts⟩ (c_X0_extend_1 l G be beD _ kn z4 z5 z6 (upd z7 0 a2) (upd z8 0 x3) bd bm d0 u38 z10 z11 z12 z13 (a2 + (1 : Int32)) (a3 &&& (((jshl (1 : Int32) a2) ||| (jshl (1 : Int32) x3)) ^^^ (-1 : Int32))) h) (cwV 3 hts gX0_tryLowers_X0_extend rfl rfl rfl (by decide +kernel) ⟨Nat.le_of_ble_eq_true rfl, Nat.le_of_ble_eq_true rfl⟩) (kpVp hK hP hD hZ hS hA (pm_all _) (q0 := 0) (ci := 0) rfl rfl) rfl rfl hl.1 rfl (lv_room (Nat.le_of_ble_eq_true rfl)) dX0_tryLowers_136 ⟨Nat.zero_le _, Nat.zero_le _⟩) hP hD hS hA (pm_all _) (fun w52 H locs h hP hD hS => ?_)
        obtain ⟨u40, u41, u42, u43, u44, u45, u46, u47, u48⟩ := w52
        have hP : va_P G.1 vwCl (wB G be beD kn u40 u41 u42 u43 u44 bd bm d0 u38 u45 u46 u47 u48) H := hP.perm (pm_all _).symm
        have hD : va_D A (wB G be beD kn u40 u41 u42 u43 u44 bd bm d0 u38 u45 u46 u47 u48) := hD.perm (pm_all _).symm
        try dsimp only at h
        refine lv_iinc (v := (x3 + (1 : Int32))) (lv' := [(5, .int (x3 + (1 : Int32))), (0, .ref (be 0)), (1, .int (0 : Int32)), (2, .int a2), (3, .int a3), (4, .int ((bm a2.toNatClampNeg) &&& a3))]) hx hb dX0_tryLowers_139 hl (k := 5) rfl rfl (by decide) rfl (fun ls hl => ?_)
        refine lv_goto (tgt := 19) hx hb dX0_tryLowers_142 (by decide) ?_
        obtain ⟨n50, hn49, hI51⟩ := h
        exact ih18 n50 ((x3 + (1 : Int32)), u40, u41, u42, u43, u44, u38, u45, u46, u47, u48) hn49 hI51 _ _ _ ⟨hP, hD, hS, lv_sub hl [1, 2, 3, 4, 5, 0] rfl⟩
def wp_X0_extend_0 (a2 : Int32) (a3 : Int32) (ct : Int32) (bu : Nat → Int32) (bl : Nat → Int32) (tu : Nat → Int32) (tl : Nat → Int32) (bd : Nat → Int32) (bm : Nat → Int32) (d0 : Nat → Int32) (d1 : Nat → Int32) (d2 : Nat → Int32) (d3 : Nat → Int32) (d4 : Nat → Int32) (d5 : Nat → Int32) (K : Int32 → (Nat → Int32) → (Nat → Int32) → (Nat → Int32) → (Nat → Int32) → (Nat → Int32) → (Nat → Int32) → (Nat → Int32) → (Nat → Int32) → (Nat → Int32) → Prop) : Prop :=
 (Jn3 (fun (z2 : Int32) (z3 : Nat → Int32) (z4 : Nat → Int32) => (Lp11 a2 z2 z3 z4 tu tl d1 d2 d3 d4 d5 (fun (x7 : Int32) (z8 : Int32) (z9 : Nat → Int32) (z10 : Nat → Int32) (z11 : Nat → Int32) (z12 : Nat → Int32) (z13 : Nat → Int32) (z14 : Nat → Int32) (z15 : Nat → Int32) (z16 : Nat → Int32) (z17 : Nat → Int32) (J21 : Int32 → Int32 → (Nat → Int32) → (Nat → Int32) → (Nat → Int32) → (Nat → Int32) → (Nat → Int32) → (Nat → Int32) → (Nat → Int32) → (Nat → Int32) → (Nat → Int32) → Prop) => (((nI 10) ≤ x7 → K z8 z9 z10 z11 z12 z13 z14 z15 z16 z17) ∧
 (¬ ((nI 10) ≤ x7) → wp_X0_mostFolds a3 x7 (fun (r25 : Int32) => ((z8 < ((0 : Int32) + r25) → wp_X5_contains a3 x7 (fun (r27 : Int32) => ((r27 = 0 → J21 (x7 + (1 : Int32)) z8 z9 z10 z11 z12 z13 z14 z15 z16 z17) ∧
 (¬ (r27 = 0) → wp_X0_tryLowers_0 x7 a3 z8 z9 z10 z11 z12 bd bm d0 z13 z14 z15 z16 z17 (fun (u33 : Int32) (u34 : Nat → Int32) (u35 : Nat → Int32) (u36 : Nat → Int32) (u37 : Nat → Int32) (u38 : Nat → Int32) (u39 : Nat → Int32) (u40 : Nat → Int32) (u41 : Nat → Int32) (u42 : Nat → Int32) => J21 (x7 + (1 : Int32)) u33 u34 u35 u36 u37 u38 u39 u40 u41 u42))))) ∧
 (¬ (z8 < ((0 : Int32) + r25)) → K z8 z9 z10 z11 z12 z13 z14 z15 z16 z17))))))))
 (fun (J5 : Int32 → (Nat → Int32) → (Nat → Int32) → Prop) => (((0 : Int32) ≤ ct → J5 ct bu bl) ∧
 (¬ ((0 : Int32) ≤ ct) → wp_X0_keep_0 ct bu bl tu tl (fun (u50 : Int32) (u51 : Nat → Int32) (u52 : Nat → Int32) => J5 u50 u51 u52)))))
abbrev rm_X0_extend_0 : Room := { frames := 13, cells := 0, slots := 0, locals := 328 }
set_option maxHeartbeats 4000000 in
set_option maxRecDepth 100000 in
theorem c_X0_extend_0 (l : Launch) (G : GG) (be : Nat → Nat) (beD : Nat → Nat → Nat) (sz : Nat) (kn : Int32) (ct : Int32) (bu : Nat → Int32) (bl : Nat → Int32) (tu : Nat → Int32) (tl : Nat → Int32) (bd : Nat → Int32) (bm : Nat → Int32) (d0 : Nat → Int32) (d1 : Nat → Int32) (d2 : Nat → Int32) (d3 : Nat → Int32) (d4 : Nat → Int32) (d5 : Nat → Int32) (a2 : Int32) (a3 : Int32) {K : Int32 → (Nat → Int32) → (Nat → Int32) → (Nat → Int32) → (Nat → Int32) → (Nat → Int32) → (Nat → Int32) → (Nat → Int32) → (Nat → Int32) → (Nat → Int32) → Prop} (h : wp_X0_extend_0 a2 a3 ct bu bl tu tl bd bm d0 d1 d2 d3 d4 d5 K) : CV l yX0_extend wsX0_extend rm_X0_extend_0 G [.ref (be 0), .int (0 : Int32), .int a2, .int a3] (wB G be beD kn ct bu bl tu tl bd bm d0 d1 d2 d3 d4 d5) sz (fun u : Int32 × (Nat → Int32) × (Nat → Int32) × (Nat → Int32) × (Nat → Int32) × (Nat → Int32) × (Nat → Int32) × (Nat → Int32) × (Nat → Int32) × (Nat → Int32) => wB G be beD kn u.1 u.2.1 u.2.2.1 u.2.2.2.1 u.2.2.2.2.1 bd bm d0 u.2.2.2.2.2.1 u.2.2.2.2.2.2.1 u.2.2.2.2.2.2.2.1 u.2.2.2.2.2.2.2.2.1 u.2.2.2.2.2.2.2.2.2) (fun u => K u.1 u.2.1 u.2.2.1 u.2.2.2.1 u.2.2.2.2.1 u.2.2.2.2.2.1 u.2.2.2.2.2.2.1 u.2.2.2.2.2.2.2.1 u.2.2.2.2.2.2.2.2.1 u.2.2.2.2.2.2.2.2.2) := by
  refine Met.ofW (cc := cX0_extend) (maxL := 5) (ret := none) (by decide) rfl ?_
  intro p e s m args below meth c s₁ B hml hv
  obtain ⟨rfl, hsz, hP, hK, hD0, hZ⟩ := hv
  have hx := B.exec
  have hb := B.bytes
  have hr := B.returns
  have hts := atoms_spec (ws := wsX0_extend) B.pre
  have hown : s.vm.findClass RX0 = some m.cls := findClass_of_methodNamed B.named
  have hlocks := B.notSynchronized
  subst hsz
  have hD := hD0.self (sz := s.heap.size)
  generalize hAe : va_A (wB G be beD kn ct bu bl tu tl bd bm d0 d1 d2 d3 d4 d5) s.heap.size = A at hD hZ ⊢
  have hA : ∀ q : Nat, s.heap.size ≤ q → A q := fun q h => by rw [← hAe]; exact Or.inr h
  have hS : va_S A s.heap s.heap [] := va_S.rf
  have hl := lv_entry ([.ref (be 0), .int (0 : Int32), .int a2, .int a3]) (n := 5) (Nat.le_of_ble_eq_true rfl)
  rw [lg_entry_eq]
  generalize (lg_sl ([.ref (be 0), .int (0 : Int32), .int a2, .int a3]) ++ List.replicate (5 - (lg_sl ([.ref (be 0), .int (0 : Int32), .int a2, .int a3])).length) Slot.unset).toArray = ls at hl ⊢
  have hl : lv_has ls 5 [(0, .ref (be 0)), (1, .int (0 : Int32)), (2, .int a2), (3, .int a3)] := hl
  unfold wp_X0_extend_0 at h
  have hinX0 : ∀ w ∈ wsX00, w ∈ wsX0_extend := by decide +kernel
  refine lv_iload_n hx hb dX0_extend_0 rfl (lv_at hl 1 rfl) ?_
  refine lv_aload_n hx hb dX0_extend_1 rfl (lv_at hl 0 rfl) ?_
  refine va_get (D := G.1) (ci := 0) (v := .int ct) (C := RX0) (T := TX0) (N := 9) hx hb hts hinX0 hown hK.1 hP 0 rfl rfl 1 (by decide) (hts (.fieldLink RX0 15 "PlaFolder$BestFolding" "count" "I") (by decide +kernel)) (fun _ h9 => h9) rfl dX0_extend_2 ?_
  obtain ⟨J5, hJ54, h⟩ := h
  refine joinW (σ := Int32 × (Nat → Int32) × (Nat → Int32)) (J := fun q => J5 q.1 q.2.1 q.2.2) (pc := 13) (st := fun q => []) (P := fun q H locs ls => va_P G.1 vwCl (wB G be beD kn q.1 q.2.1 q.2.2 tu tl bd bm d0 d1 d2 d3 d4 d5) H ∧ va_D A (wB G be beD kn q.1 q.2.1 q.2.2 tu tl bd bm d0 d1 d2 d3 d4 d5) ∧ va_S A s.heap H locs ∧ lv_has ls 5 [(0, .ref (be 0)), (1, .int (0 : Int32)), (2, .int a2), (3, .int a3)]) ?_ (fun join6 => ?_)
  · rintro ⟨z2, z3, z4⟩ h H locs ls ⟨hP, hD, hS, hl⟩
    have hP : va_P G.1 vwCl (wB G be beD kn z2 z3 z4 tu tl bd bm d0 d1 d2 d3 d4 d5) H := hP
    have hD : va_D A (wB G be beD kn z2 z3 z4 tu tl bd bm d0 d1 d2 d3 d4 d5) := hD
    have hl : lv_has ls 5 [(0, .ref (be 0)), (1, .int (0 : Int32)), (2, .int a2), (3, .int a3)] := hl
    have h := hJ54 z2 z3 z4 h
    refine W.eq (g2 := F0 m 13 ls ([])) rfl ?_
    refine lv_iload_n hx hb dX0_extend_13 rfl (lv_at hl 2 rfl) ?_
    refine lv_istore (lv' := [(4, .int a2), (0, .ref (be 0)), (1, .int (0 : Int32)), (2, .int a2), (3, .int a3)]) hx hb dX0_extend_14 hl (by decide) rfl (fun ls hl => ?_)
    obtain ⟨I18, n19, h0, hst20⟩ := h
    refine loopW (σ := Int32 × Int32 × (Nat → Int32) × (Nat → Int32) × (Nat → Int32) × (Nat → Int32) × (Nat → Int32) × (Nat → Int32) × (Nat → Int32) × (Nat → Int32) × (Nat → Int32)) (P := fun q H locs ls => va_P G.1 vwCl (wB G be beD kn q.2.1 q.2.2.1 q.2.2.2.1 q.2.2.2.2.1 q.2.2.2.2.2.1 bd bm d0 q.2.2.2.2.2.2.1 q.2.2.2.2.2.2.2.1 q.2.2.2.2.2.2.2.2.1 q.2.2.2.2.2.2.2.2.2.1 q.2.2.2.2.2.2.2.2.2.2) H ∧ va_D A (wB G be beD kn q.2.1 q.2.2.1 q.2.2.2.1 q.2.2.2.2.1 q.2.2.2.2.2.1 bd bm d0 q.2.2.2.2.2.2.1 q.2.2.2.2.2.2.2.1 q.2.2.2.2.2.2.2.2.1 q.2.2.2.2.2.2.2.2.2.1 q.2.2.2.2.2.2.2.2.2.2) ∧ va_S A s.heap H locs ∧ lv_has ls 5 [(0, .ref (be 0)), (1, .int (0 : Int32)), (3, .int a3), (4, .int q.1)]) (I := fun n q => I18 n q.1 q.2.1 q.2.2.1 q.2.2.2.1 q.2.2.2.2.1 q.2.2.2.2.2.1 q.2.2.2.2.2.2.1 q.2.2.2.2.2.2.2.1 q.2.2.2.2.2.2.2.2.1 q.2.2.2.2.2.2.2.2.2.1 q.2.2.2.2.2.2.2.2.2.2) n19 (a2, z2, z3, z4, tu, tl, d1, d2, d3, d4, d5) h0 _ _ _ ⟨hP, hD, hS, lv_sub hl [1, 2, 4, 0] rfl⟩ ?_
    rintro n23 ⟨x7, z8, z9, z10, z11, z12, z13, z14, z15, z16, z17⟩ hI ih22 H locs ls ⟨hP, hD, hS, hl⟩
    have hP : va_P G.1 vwCl (wB G be beD kn z8 z9 z10 z11 z12 bd bm d0 z13 z14 z15 z16 z17) H := hP
    have hD : va_D A (wB G be beD kn z8 z9 z10 z11 z12 bd bm d0 z13 z14 z15 z16 z17) := hD
    have hl : lv_has ls 5 [(0, .ref (be 0)), (1, .int (0 : Int32)), (3, .int a3), (4, .int x7)] := hl
    have h := hst20 n23 x7 z8 z9 z10 z11 z12 z13 z14 z15 z16 z17 hI
    refine lv_iload hx hb dX0_extend_16 (lv_at hl 3 rfl) ?_
    refine lv_bipush (v := (nI 10)) hx hb dX0_extend_18 (by decide) ?_
    refine lv_icmp_ge (tgt := 62) hx hb dX0_extend_20 (by decide) (fun c_24 => ?_) (fun c_24 => ?_)
    · have h := h.1 c_24
      exact W.vret hx hb hr (fun t ht hW => ⟨⟨(z8, z9, z10, z11, z12, z13, z14, z15, z16, z17), rfl, h, by rw [ht]; exact hP, hD⟩, hS.F ht⟩) hS.2.2 dX0_extend_62
    · have h := h.2 c_24
      refine lv_iload_n hx hb dX0_extend_23 rfl (lv_at hl 1 rfl) ?_
      refine lv_iload_n hx hb dX0_extend_24 rfl (lv_at hl 2 rfl) ?_
      refine lv_iload hx hb dX0_extend_25 (lv_at hl 3 rfl) ?_
      refine kp_i (wr := wB G be beD kn z8 z9 z10 z11 z12 bd bm d0 z13 z14 z15 z16 z17) (va_runS (As := [.int a3, .int x7]) (rest := [.int (0 : Int32)]) ⟨hx, hb, hml, hown, hts⟩ (c_X0_mostFolds l G  _  a3 x7 h) (va_cwS 2 hts gX0_extend_X0_mostFolds rfl rfl rfl (by decide +kernel) ⟨Nat.le_of_ble_eq_true rfl, Nat.le_of_ble_eq_true rfl⟩) (kpSp hK hP hD hZ hS hA (pm_nil _)) rfl rfl hl.1 rfl (lv_room (Nat.le_of_ble_eq_true rfl)) dX0_extend_27 ⟨Nat.zero_le _, Nat.zero_le _⟩) hP hD hS hA (pm_nil _) (fun r25 w48 H locs h hP hD hS => ?_)
      have hP : va_P G.1 vwCl (wB G be beD kn z8 z9 z10 z11 z12 bd bm d0 z13 z14 z15 z16 z17) H := hP.perm (pm_nil _).symm
      have hD : va_D A (wB G be beD kn z8 z9 z10 z11 z12 bd bm d0 z13 z14 z15 z16 z17) := hD.perm (pm_nil _).symm
      try dsimp only at h
      refine lv_iadd hx hb dX0_extend_30 ?_
      refine lv_aload_n hx hb dX0_extend_31 rfl (lv_at hl 0 rfl) ?_
      refine va_get (D := G.1) (ci := 0) (v := .int z8) (C := RX0) (T := TX0) (N := 9) hx hb hts hinX0 hown hK.1 hP 0 rfl rfl 1 (by decide) (hts (.fieldLink RX0 15 "PlaFolder$BestFolding" "count" "I") (by decide +kernel)) (fun _ h9 => h9) rfl dX0_extend_32 ?_
      refine lv_icmp_gt (tgt := 39) hx hb dX0_extend_35 (by decide) (fun c_26 => ?_) (fun c_26 => ?_)
      · have h := h.1 c_26
        refine lv_iload_n hx hb dX0_extend_39 rfl (lv_at hl 2 rfl) ?_
        refine lv_iload hx hb dX0_extend_40 (lv_at hl 3 rfl) ?_
        refine kp_i (wr := wB G be beD kn z8 z9 z10 z11 z12 bd bm d0 z13 z14 z15 z16 z17) (va_runSN (As := [.int a3, .int x7]) (rest := []) ⟨hx, hb, hml, hown, hts⟩ (c_X5_contains l G  _  a3 x7 h) ⟨va_cnB 2 hts gX0_extend_X5_contains_n79 rfl rfl rfl (hK.2.M 35 (q := ("PlaFolder$BestFolding", 79, ⟨"PlaFolder", "contains", "(II)Z"⟩, "PlaFolder")) rfl) (hts (.initialized RX5) (by decide +kernel)) (by decide +kernel) ⟨Nat.le_of_ble_eq_true rfl, Nat.le_of_ble_eq_true rfl⟩, hts (.static yX5_contains) (by decide +kernel), trivial⟩ (kpSp hK hP hD hZ hS hA (pm_nil _)) rfl rfl hl.1 rfl (lv_room (Nat.le_of_ble_eq_true rfl)) dX0_extend_42 ⟨Nat.zero_le _, Nat.zero_le _⟩) hP hD hS hA (pm_nil _) (fun r27 w47 H locs h hP hD hS => ?_)
        have hP : va_P G.1 vwCl (wB G be beD kn z8 z9 z10 z11 z12 bd bm d0 z13 z14 z15 z16 z17) H := hP.perm (pm_nil _).symm
        have hD : va_D A (wB G be beD kn z8 z9 z10 z11 z12 bd bm d0 z13 z14 z15 z16 z17) := hD.perm (pm_nil _).symm
        try dsimp only at h
        refine lv_if_eq (tgt := 56) hx hb dX0_extend_45 (by decide) (fun c_28 => ?_) (fun c_28 => ?_)
        · have h := h.1 c_28
          refine lv_iinc (v := (x7 + (1 : Int32))) (lv' := [(4, .int (x7 + (1 : Int32))), (0, .ref (be 0)), (1, .int (0 : Int32)), (3, .int a3)]) hx hb dX0_extend_56 hl (k := 3) rfl rfl (by decide) rfl (fun ls hl => ?_)
          refine lv_goto (tgt := 16) hx hb dX0_extend_59 (by decide) ?_
          obtain ⟨n30, hn29, hI31⟩ := h
          exact ih22 n30 ((x7 + (1 : Int32)), z8, z9, z10, z11, z12, z13, z14, z15, z16, z17) hn29 hI31 _ _ _ ⟨hP, hD, hS, lv_sub hl [1, 2, 3, 0] rfl⟩
        · have h := h.2 c_28
          refine lv_aload_n hx hb dX0_extend_48 rfl (lv_at hl 0 rfl) ?_
          refine lv_iload_n hx hb dX0_extend_49 rfl (lv_at hl 1 rfl) ?_
          refine lv_iload hx hb dX0_extend_50 (lv_at hl 3 rfl) ?_
          refine lv_iload_n hx hb dX0_extend_52 rfl (lv_at hl 2 rfl) ?_
          refine kp_v (wr := ([] : va_W)) (va_runV (As := [.int (0 : Int32), .int x7, .int a3]) (rest := []) ⟨hx, hb, hml, hown, hts⟩ (c_X0_tryLowers_0 l G be beD _ kn z8 z9 z10 z11 z12 bd bm d0 z13 z14 z15 z16 z17 x7 a3 h) (cwV 3 hts gX0_extend_X0_tryLowers rfl rfl rfl (by decide +kernel) ⟨Nat.le_of_ble_eq_true rfl, Nat.le_of_ble_eq_true rfl⟩) (kpVp hK hP hD hZ hS hA (pm_all _) (q0 := 0) (ci := 0) rfl rfl) rfl rfl hl.1 rfl (lv_room (Nat.le_of_ble_eq_true rfl)) dX0_extend_53 ⟨Nat.zero_le _, Nat.zero_le _⟩) hP hD hS hA (pm_all _) (fun w46 H locs h hP hD hS => ?_)
          obtain ⟨u33, u34, u35, u36, u37, u38, u39, u40, u41, u42⟩ := w46
          have hP : va_P G.1 vwCl (wB G be beD kn u33 u34 u35 u36 u37 bd bm d0 u38 u39 u40 u41 u42) H := hP.perm (pm_all _).symm
          have hD : va_D A (wB G be beD kn u33 u34 u35 u36 u37 bd bm d0 u38 u39 u40 u41 u42) := hD.perm (pm_all _).symm
          try dsimp only at h
          refine lv_iinc (v := (x7 + (1 : Int32))) (lv' := [(4, .int (x7 + (1 : Int32))), (0, .ref (be 0)), (1, .int (0 : Int32)), (3, .int a3)]) hx hb dX0_extend_56 hl (k := 3) rfl rfl (by decide) rfl (fun ls hl => ?_)
          refine lv_goto (tgt := 16) hx hb dX0_extend_59 (by decide) ?_
          obtain ⟨n44, hn43, hI45⟩ := h
          exact ih22 n44 ((x7 + (1 : Int32)), u33, u34, u35, u36, u37, u38, u39, u40, u41, u42) hn43 hI45 _ _ _ ⟨hP, hD, hS, lv_sub hl [1, 2, 3, 0] rfl⟩
      · have h := h.2 c_26
        exact W.vret hx hb hr (fun t ht hW => ⟨⟨(z8, z9, z10, z11, z12, z13, z14, z15, z16, z17), rfl, h, by rw [ht]; exact hP, hD⟩, hS.F ht⟩) hS.2.2 dX0_extend_38
  · refine lv_icmp_le (tgt := 13) hx hb dX0_extend_5 (by decide) (fun c_1 => ?_) (fun c_1 => ?_)
    · have h := h.1 c_1
      exact join6 (ct, bu, bl) h _ _ _ ⟨hP, hD, hS, lv_sub hl [0, 1, 2, 3] rfl⟩
    · have h := h.2 c_1
      refine lv_aload_n hx hb dX0_extend_8 rfl (lv_at hl 0 rfl) ?_
      refine lv_iload_n hx hb dX0_extend_9 rfl (lv_at hl 1 rfl) ?_
      refine kp_v (wr := ([] : va_W)) (va_runV (As := [.int (0 : Int32)]) (rest := []) ⟨hx, hb, hml, hown, hts⟩ (c_X0_keep_0 l G be beD _ kn ct bu bl tu tl bd bm d0 d1 d2 d3 d4 d5  h) (cwV 1 hts gX0_extend_X0_keep rfl rfl rfl (by decide +kernel) ⟨Nat.le_of_ble_eq_true rfl, Nat.le_of_ble_eq_true rfl⟩) (kpVp hK hP hD hZ hS hA (pm_all _) (q0 := 0) (ci := 0) rfl rfl) rfl rfl hl.1 rfl (lv_room (Nat.le_of_ble_eq_true rfl)) dX0_extend_10 ⟨Nat.zero_le _, Nat.zero_le _⟩) hP hD hS hA (pm_all _) (fun w53 H locs h hP hD hS => ?_)
      obtain ⟨u50, u51, u52⟩ := w53
      have hP : va_P G.1 vwCl (wB G be beD kn u50 u51 u52 tu tl bd bm d0 d1 d2 d3 d4 d5) H := hP.perm (pm_all _).symm
      have hD : va_D A (wB G be beD kn u50 u51 u52 tu tl bd bm d0 d1 d2 d3 d4 d5) := hD.perm (pm_all _).symm
      try dsimp only at h
      exact join6 (u50, u51, u52) h _ _ _ ⟨hP, hD, hS, lv_sub hl [0, 1, 2, 3] rfl⟩
def wp_X0_search (kn : Int32) (ct : Int32) (bu : Nat → Int32) (bl : Nat → Int32) (tu : Nat → Int32) (tl : Nat → Int32) (bd : Nat → Int32) (bm : Nat → Int32) (d0 : Nat → Int32) (d1 : Nat → Int32) (d2 : Nat → Int32) (d3 : Nat → Int32) (d4 : Nat → Int32) (d5 : Nat → Int32) (inp : Int32) (otp : Int32) (tc : Int32) (on : Nat → Int32) (ze : Nat → Int32) (ou : Nat → Int32) (K : Int32 → Int32 → (Nat → Int32) → (Nat → Int32) → (Nat → Int32) → (Nat → Int32) → (Nat → Int32) → (Nat → Int32) → (Nat → Int32) → (Nat → Int32) → (Nat → Int32) → (Nat → Int32) → (Nat → Int32) → Prop) : Prop :=
 wp_X0_foldableColumns bd bm inp otp tc on ze ou (fun (r1 : Int32) (u2 : Nat → Int32) (u3 : Nat → Int32) => wp_X0_extend_0 (0 : Int32) r1 (0 : Int32) bu bl tu tl u2 u3 d0 d1 d2 d3 d4 d5 (fun (u5 : Int32) (u6 : Nat → Int32) (u7 : Nat → Int32) (u8 : Nat → Int32) (u9 : Nat → Int32) (u10 : Nat → Int32) (u11 : Nat → Int32) (u12 : Nat → Int32) (u13 : Nat → Int32) (u14 : Nat → Int32) => K (1 : Int32) u5 u6 u7 u8 u9 u2 u3 u10 u11 u12 u13 u14))
abbrev rm_X0_search : Room := { frames := 14, cells := 0, slots := 0, locals := 352 }
set_option maxHeartbeats 4000000 in
set_option maxRecDepth 100000 in
theorem c_X0_search (l : Launch) (G : GG) (be : Nat → Nat) (beD : Nat → Nat → Nat) (sd : Nat → Nat) (sz : Nat) (kn : Int32) (ct : Int32) (bu : Nat → Int32) (bl : Nat → Int32) (tu : Nat → Int32) (tl : Nat → Int32) (bd : Nat → Int32) (bm : Nat → Int32) (d0 : Nat → Int32) (d1 : Nat → Int32) (d2 : Nat → Int32) (d3 : Nat → Int32) (d4 : Nat → Int32) (d5 : Nat → Int32) (inp : Int32) (otp : Int32) (tc : Int32) (fc : Int32) (on : Nat → Int32) (ze : Nat → Int32) (ou : Nat → Int32) (wd : Nat → Int64) (lo : Nat → Int32) (up : Nat → Int32) {K : Int32 → Int32 → (Nat → Int32) → (Nat → Int32) → (Nat → Int32) → (Nat → Int32) → (Nat → Int32) → (Nat → Int32) → (Nat → Int32) → (Nat → Int32) → (Nat → Int32) → (Nat → Int32) → (Nat → Int32) → Prop} (h : wp_X0_search kn ct bu bl tu tl bd bm d0 d1 d2 d3 d4 d5 inp otp tc on ze ou K) : CV l yX0_search wsX0_search rm_X0_search G [.ref (be 0), .ref (sd 0)] (wB G be beD kn ct bu bl tu tl bd bm d0 d1 d2 d3 d4 d5 ++ (wS G sd inp otp tc fc on ze ou wd lo up)) sz (fun u : Int32 × Int32 × (Nat → Int32) × (Nat → Int32) × (Nat → Int32) × (Nat → Int32) × (Nat → Int32) × (Nat → Int32) × (Nat → Int32) × (Nat → Int32) × (Nat → Int32) × (Nat → Int32) × (Nat → Int32) => wB G be beD u.1 u.2.1 u.2.2.1 u.2.2.2.1 u.2.2.2.2.1 u.2.2.2.2.2.1 u.2.2.2.2.2.2.1 u.2.2.2.2.2.2.2.1 d0 u.2.2.2.2.2.2.2.2.1 u.2.2.2.2.2.2.2.2.2.1 u.2.2.2.2.2.2.2.2.2.2.1 u.2.2.2.2.2.2.2.2.2.2.2.1 u.2.2.2.2.2.2.2.2.2.2.2.2 ++ (wS G sd inp otp tc fc on ze ou wd lo up)) (fun u => K u.1 u.2.1 u.2.2.1 u.2.2.2.1 u.2.2.2.2.1 u.2.2.2.2.2.1 u.2.2.2.2.2.2.1 u.2.2.2.2.2.2.2.1 u.2.2.2.2.2.2.2.2.1 u.2.2.2.2.2.2.2.2.2.1 u.2.2.2.2.2.2.2.2.2.2.1 u.2.2.2.2.2.2.2.2.2.2.2.1 u.2.2.2.2.2.2.2.2.2.2.2.2) := by
  refine Met.ofW (cc := cX0_search) (maxL := 2) (ret := none) (by decide) rfl ?_
  intro p e s m args below meth c s₁ B hml hv
  obtain ⟨rfl, hsz, hP, hK, hD0, hZ⟩ := hv
  have hx := B.exec
  have hb := B.bytes
  have hr := B.returns
  have hts := atoms_spec (ws := wsX0_search) B.pre
  have hown : s.vm.findClass RX0 = some m.cls := findClass_of_methodNamed B.named
  have hlocks := B.notSynchronized
  subst hsz
  have hD := hD0.self (sz := s.heap.size)
  generalize hAe : va_A (wB G be beD kn ct bu bl tu tl bd bm d0 d1 d2 d3 d4 d5 ++ (wS G sd inp otp tc fc on ze ou wd lo up)) s.heap.size = A at hD hZ ⊢
  have hA : ∀ q : Nat, s.heap.size ≤ q → A q := fun q h => by rw [← hAe]; exact Or.inr h
  have hS : va_S A s.heap s.heap [] := va_S.rf
  have hl := lv_entry ([.ref (be 0), .ref (sd 0)]) (n := 2) (Nat.le_of_ble_eq_true rfl)
  rw [lg_entry_eq]
  generalize (lg_sl ([.ref (be 0), .ref (sd 0)]) ++ List.replicate (2 - (lg_sl ([.ref (be 0), .ref (sd 0)])).length) Slot.unset).toArray = ls at hl ⊢
  have hl : lv_has ls 2 [(0, .ref (be 0)), (1, .ref (sd 0))] := hl
  unfold wp_X0_search at h
  have hinX0 : ∀ w ∈ wsX00, w ∈ wsX0_search := by decide +kernel
  refine lv_aload_n hx hb dX0_search_0 rfl (lv_at hl 0 rfl) ?_
  refine lv_iconst (v := (0 : Int32)) hx hb dX0_search_1 (by decide) ?_
  refine va_put (D := G.1) (ci := 0) (v := .int (0 : Int32)) (ty := .int) (C := RX0) (T := TX0) (N := 9) hx hb hts hinX0 tyX0 tyX0_ok nmX0 hown hK.1 hP hD hS 0 rfl rfl 1 (by decide) (hts (.fieldLink RX0 15 "PlaFolder$BestFolding" "count" "I") (by decide +kernel)) (fun _ h9 => h9) rfl (by decide +kernel) rfl rfl (Nat.le_of_ble_eq_true rfl) dX0_search_2 (fun H locs hP hD hS => ?_)
  have hP : va_P G.1 vwCl (wB G be beD kn (0 : Int32) bu bl tu tl bd bm d0 d1 d2 d3 d4 d5 ++ (wS G sd inp otp tc fc on ze ou wd lo up)) H := hP
  have hD : va_D A (wB G be beD kn (0 : Int32) bu bl tu tl bd bm d0 d1 d2 d3 d4 d5 ++ (wS G sd inp otp tc fc on ze ou wd lo up)) := hD
  refine lv_aload_n hx hb dX0_search_5 rfl (lv_at hl 0 rfl) ?_
  refine lv_iconst (v := (0 : Int32)) hx hb dX0_search_6 (by decide) ?_
  refine lv_iconst (v := (0 : Int32)) hx hb dX0_search_7 (by decide) ?_
  refine lv_aload_n hx hb dX0_search_8 rfl (lv_at hl 0 rfl) ?_
  refine lv_aload_n hx hb dX0_search_9 rfl (lv_at hl 1 rfl) ?_
  refine kp_i (wr := ([] : va_W)) (va_runV (As := [.ref (sd 0)]) (rest := [.int (0 : Int32), .int (0 : Int32), .ref (be 0)]) ⟨hx, hb, hml, hown, hts⟩ (c_X0_foldableColumns l G be beD sd _ kn (0 : Int32) bu bl tu tl bd bm d0 d1 d2 d3 d4 d5 inp otp tc fc on ze ou wd lo up  h) (cwV 1 hts gX0_search_X0_foldableColumns rfl rfl rfl (by decide +kernel) ⟨Nat.le_of_ble_eq_true rfl, Nat.le_of_ble_eq_true rfl⟩) (kpVp hK hP hD hZ hS hA (pm_all _) (q0 := 0) (ci := 0) rfl rfl) rfl rfl hl.1 rfl (lv_room (Nat.le_of_ble_eq_true rfl)) dX0_search_10 ⟨Nat.zero_le _, Nat.zero_le _⟩) hP hD hS hA (pm_all _) (fun r1 w16 H locs h hP hD hS => ?_)
  obtain ⟨u2, u3⟩ := w16
  have hP : va_P G.1 vwCl (wB G be beD kn (0 : Int32) bu bl tu tl u2 u3 d0 d1 d2 d3 d4 d5 ++ (wS G sd inp otp tc fc on ze ou wd lo up)) H := hP.perm (pm_all _).symm
  have hD : va_D A (wB G be beD kn (0 : Int32) bu bl tu tl u2 u3 d0 d1 d2 d3 d4 d5 ++ (wS G sd inp otp tc fc on ze ou wd lo up)) := hD.perm (pm_all _).symm
  try dsimp only at h
  refine kp_v (wr := wS G sd inp otp tc fc on ze ou wd lo up) (va_runV (As := [.int (0 : Int32), .int (0 : Int32), .int r1]) (rest := []) ⟨hx, hb, hml, hown, hts⟩ (c_X0_extend_0 l G be beD _ kn (0 : Int32) bu bl tu tl u2 u3 d0 d1 d2 d3 d4 d5 (0 : Int32) r1 h) (cwV 3 hts gX0_search_X0_extend rfl rfl rfl (by decide +kernel) ⟨Nat.le_of_ble_eq_true rfl, Nat.le_of_ble_eq_true rfl⟩) (kpVp hK hP hD hZ hS hA (pm2_1_0 (wB G be beD kn (0 : Int32) bu bl tu tl u2 u3 d0 d1 d2 d3 d4 d5) (wS G sd inp otp tc fc on ze ou wd lo up)) (q0 := 0) (ci := 0) rfl rfl) rfl rfl hl.1 rfl (lv_room (Nat.le_of_ble_eq_true rfl)) dX0_search_13 ⟨Nat.zero_le _, Nat.zero_le _⟩) hP hD hS hA (pm2_1_0 (wB G be beD kn (0 : Int32) bu bl tu tl u2 u3 d0 d1 d2 d3 d4 d5) (wS G sd inp otp tc fc on ze ou wd lo up)) (fun w15 H locs h hP hD hS => ?_)
  obtain ⟨u5, u6, u7, u8, u9, u10, u11, u12, u13, u14⟩ := w15
  have hP : va_P G.1 vwCl (wB G be beD kn u5 u6 u7 u8 u9 u2 u3 d0 u10 u11 u12 u13 u14 ++ (wS G sd inp otp tc fc on ze ou wd lo up)) H := hP.perm (pm2_1_0 (wB G be beD kn u5 u6 u7 u8 u9 u2 u3 d0 u10 u11 u12 u13 u14) (wS G sd inp otp tc fc on ze ou wd lo up)).symm
  have hD : va_D A (wB G be beD kn u5 u6 u7 u8 u9 u2 u3 d0 u10 u11 u12 u13 u14 ++ (wS G sd inp otp tc fc on ze ou wd lo up)) := hD.perm (pm2_1_0 (wB G be beD kn u5 u6 u7 u8 u9 u2 u3 d0 u10 u11 u12 u13 u14) (wS G sd inp otp tc fc on ze ou wd lo up)).symm
  try dsimp only at h
  refine lv_aload_n hx hb dX0_search_16 rfl (lv_at hl 0 rfl) ?_
  refine lv_iconst (v := (1 : Int32)) hx hb dX0_search_17 (by decide) ?_
  refine va_put (D := G.1) (ci := 0) (v := .int (1 : Int32)) (ty := .boolean) (C := RX0) (T := TX0) (N := 9) hx hb hts hinX0 tyX0 tyX0_ok nmX0 hown hK.1 hP hD hS 0 rfl rfl 0 (by decide) (hts (.fieldLink RX0 9 "PlaFolder$BestFolding" "known" "Z") (by decide +kernel)) (fun _ h9 => h9) rfl (by decide +kernel) rfl rfl (Nat.le_of_ble_eq_true rfl) dX0_search_18 (fun H locs hP hD hS => ?_)
  have hP : va_P G.1 vwCl (wB G be beD (1 : Int32) u5 u6 u7 u8 u9 u2 u3 d0 u10 u11 u12 u13 u14 ++ (wS G sd inp otp tc fc on ze ou wd lo up)) H := hP
  have hD : va_D A (wB G be beD (1 : Int32) u5 u6 u7 u8 u9 u2 u3 d0 u10 u11 u12 u13 u14 ++ (wS G sd inp otp tc fc on ze ou wd lo up)) := hD
  exact W.vret hx hb hr (fun t ht hW => ⟨⟨((1 : Int32), u5, u6, u7, u8, u9, u2, u3, u10, u11, u12, u13, u14), rfl, h, by rw [ht]; exact hP, hD⟩, hS.F ht⟩) hS.2.2 dX0_search_21
