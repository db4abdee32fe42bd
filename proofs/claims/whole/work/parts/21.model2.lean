def wp_X6_undo (nw : Nat → Int32) (ps : Nat → Int32) (er : Nat → Int32) (st : Int32) (K : Int32 → (Nat → Int32) → (Nat → Int32) → Int32 → Prop) : Prop :=
 ((¬ st = 0 → (Lp2 (0 : Int32) nw (fun (x2 : Int32) (z3 : Nat → Int32) (J7 : Int32 → (Nat → Int32) → Prop) => (((nI 53) ≤ x2 → K (st - (1 : Int32)) z3 er (st - (1 : Int32))) ∧
 (¬ ((nI 53) ≤ x2) → (vp_in (((nI 53) * (st - (1 : Int32))) + x2) 265 ∧ (vp_in x2 53 ∧ J7 (x2 + (1 : Int32)) (upd z3 x2.toNatClampNeg (ps (((nI 53) * (st - (1 : Int32))) + x2).toNatClampNeg))))))))) ∧
 (st = 0 → wp_X6_error (-6 : Int32) er (fun (r16 : Int32) (u17 : Nat → Int32) => K r16 nw u17 st)))
abbrev rm_X6_undo : Room := { frames := 1, cells := 0, slots := 0, locals := 21 }
set_option maxHeartbeats 4000000 in
set_option maxRecDepth 100000 in
theorem c_X6_undo (l : Launch) (G : GG) (ad : Nat → Nat) (sz : Nat) (nw : Nat → Int32) (ps : Nat → Int32) (er : Nat → Int32) (us : Nat → Int32) (un : Nat → Int32) (od : Nat → Int32) (li : Nat → Int32) (st : Int32) (lm : Int32) (hs : Int64) {K : Int32 → (Nat → Int32) → (Nat → Int32) → Int32 → Prop} (h : wp_X6_undo nw ps er st K) : CI l yX6_undo wsX6_undo rm_X6_undo G [.ref (ad 0)] (wM G ad nw ps er us un od li st lm hs) sz (fun u : (Nat → Int32) × (Nat → Int32) × Int32 => wM G ad u.1 ps u.2.1 us un od li u.2.2 lm hs) (fun r u => K r u.1 u.2.1 u.2.2) := by
  refine Met.ofW (cc := cX6_undo) (maxL := 2) (ret := (some .int)) (by decide) rfl ?_
  intro p e s m args below meth c s₁ B hml hv
  obtain ⟨rfl, hsz, hP, hK, hD0, hZ⟩ := hv
  have hx := B.exec
  have hb := B.bytes
  have hr := B.returns
  have hts := atoms_spec (ws := wsX6_undo) B.pre
  have hown : s.vm.findClass RX6 = some m.cls := findClass_of_methodNamed B.named
  have hlocks := B.notSynchronized
  subst hsz
  have hD := hD0.self (sz := s.heap.size)
  generalize hAe : va_A (wM G ad nw ps er us un od li st lm hs) s.heap.size = A at hD hZ ⊢
  have hA : ∀ q : Nat, s.heap.size ≤ q → A q := fun q h => by rw [← hAe]; exact Or.inr h
  have hS : va_S A s.heap s.heap [] := va_S.rf
  have hl := lv_entry ([.ref (ad 0)]) (n := 2) (Nat.le_of_ble_eq_true rfl)
  rw [lg_entry_eq]
  generalize (lg_sl ([.ref (ad 0)]) ++ List.replicate (2 - (lg_sl ([.ref (ad 0)])).length) Slot.unset).toArray = ls at hl ⊢
  have hl : lv_has ls 2 [(0, .ref (ad 0))] := hl
  unfold wp_X6_undo at h
  have hinX6 : ∀ w ∈ wsX60, w ∈ wsX6_undo := by decide +kernel
  refine lv_aload_n hx hb dX6_undo_0 rfl (lv_at hl 0 rfl) ?_
  refine va_get (D := G.1) (ci := 6) (v := .int st) (C := RX6) (T := TX6) (N := 10) hx hb hts hinX6 hown hK.1 hP 0 rfl rfl 2 (by decide) (hts (.fieldLink RX6 38 "PlaFolderModel" "states" "I") (by decide +kernel)) (fun _ h9 => h9) rfl dX6_undo_1 ?_
  refine lv_if_ne (tgt := 14) hx hb dX6_undo_4 (by decide) (fun c_1 => ?_) (fun c_1 => ?_)
  · have h := h.1 c_1
    refine lv_aload_n hx hb dX6_undo_14 rfl (lv_at hl 0 rfl) ?_
    refine lv_dup hx hb dX6_undo_15 rfl ?_
    refine va_get (D := G.1) (ci := 6) (v := .int st) (C := RX6) (T := TX6) (N := 10) hx hb hts hinX6 hown hK.1 hP 0 rfl rfl 2 (by decide) (hts (.fieldLink RX6 38 "PlaFolderModel" "states" "I") (by decide +kernel)) (fun _ h9 => h9) rfl dX6_undo_16 ?_
    refine lv_iconst (v := (1 : Int32)) hx hb dX6_undo_19 (by decide) ?_
    refine lv_isub hx hb dX6_undo_20 ?_
    refine va_put (D := G.1) (ci := 6) (v := .int (st - (1 : Int32))) (ty := .int) (C := RX6) (T := TX6) (N := 10) hx hb hts hinX6 tyX6 tyX6_ok nmX6 hown hK.1 hP hD hS 0 rfl rfl 2 (by decide) (hts (.fieldLink RX6 38 "PlaFolderModel" "states" "I") (by decide +kernel)) (fun _ h9 => h9) rfl (by decide +kernel) rfl rfl (Nat.le_of_ble_eq_true rfl) dX6_undo_21 (fun H locs hP hD hS => ?_)
    have hP : va_P G.1 vwCl (wM G ad nw ps er us un od li (st - (1 : Int32)) lm hs) H := hP
    have hD : va_D A (wM G ad nw ps er us un od li (st - (1 : Int32)) lm hs) := hD
    refine lv_iconst (v := (0 : Int32)) hx hb dX6_undo_24 (by decide) ?_
    refine lv_istore_n (lv' := [(1, .int (0 : Int32)), (0, .ref (ad 0))]) hx hb dX6_undo_25 rfl hl (by decide) rfl (fun ls hl => ?_)
    obtain ⟨I4, n5, h0, hst6⟩ := h
    refine loopW (σ := Int32 × (Nat → Int32)) (P := fun q H locs ls => va_P G.1 vwCl (wM G ad q.2 ps er us un od li (st - (1 : Int32)) lm hs) H ∧ va_D A (wM G ad q.2 ps er us un od li (st - (1 : Int32)) lm hs) ∧ va_S A s.heap H locs ∧ lv_has ls 2 [(0, .ref (ad 0)), (1, .int q.1)]) (I := fun n q => I4 n q.1 q.2) n5 ((0 : Int32), nw) h0 _ _ _ ⟨hP, hD, hS, lv_sub hl [1, 0] rfl⟩ ?_
    rintro n9 ⟨x2, z3⟩ hI ih8 H locs ls ⟨hP, hD, hS, hl⟩
    have hP : va_P G.1 vwCl (wM G ad z3 ps er us un od li (st - (1 : Int32)) lm hs) H := hP
    have hD : va_D A (wM G ad z3 ps er us un od li (st - (1 : Int32)) lm hs) := hD
    have hl : lv_has ls 2 [(0, .ref (ad 0)), (1, .int x2)] := hl
    have h := hst6 n9 x2 z3 hI
    refine lv_iload_n hx hb dX6_undo_26 rfl (lv_at hl 1 rfl) ?_
    refine lv_bipush (v := (nI 53)) hx hb dX6_undo_27 (by decide) ?_
    refine lv_icmp_ge (tgt := 58) hx hb dX6_undo_29 (by decide) (fun c_10 => ?_) (fun c_10 => ?_)
    · have h := h.1 c_10
      refine lv_aload_n hx hb dX6_undo_58 rfl (lv_at hl 0 rfl) ?_
      refine va_get (D := G.1) (ci := 6) (v := .int (st - (1 : Int32))) (C := RX6) (T := TX6) (N := 10) hx hb hts hinX6 hown hK.1 hP 0 rfl rfl 2 (by decide) (hts (.fieldLink RX6 38 "PlaFolderModel" "states" "I") (by decide +kernel)) (fun _ h9 => h9) rfl dX6_undo_59 ?_
      exact W.iret hx hb hr (fun t ht hW => ⟨⟨_, (z3, er, (st - (1 : Int32))), rfl, h, by rw [ht]; exact hP, hD⟩, hS.F ht⟩) hS.2.2 dX6_undo_62
    · have h := h.2 c_10
      refine lv_aload_n hx hb dX6_undo_32 rfl (lv_at hl 0 rfl) ?_
      refine va_get (D := G.1) (ci := 6) (v := .ref (ad 1)) (C := RX6) (T := TX6) (N := 10) hx hb hts hinX6 hown hK.1 hP 0 rfl rfl 0 (by decide) (hts (.fieldLink RX6 7 "PlaFolderModel" "now" "[I") (by decide +kernel)) (fun _ h9 => h9) rfl dX6_undo_33 ?_
      refine lv_iload_n hx hb dX6_undo_36 rfl (lv_at hl 1 rfl) ?_
      refine lv_aload_n hx hb dX6_undo_37 rfl (lv_at hl 0 rfl) ?_
      refine va_get (D := G.1) (ci := 6) (v := .ref (ad 2)) (C := RX6) (T := TX6) (N := 10) hx hb hts hinX6 hown hK.1 hP 0 rfl rfl 1 (by decide) (hts (.fieldLink RX6 13 "PlaFolderModel" "past" "[I") (by decide +kernel)) (fun _ h9 => h9) rfl dX6_undo_38 ?_
      refine lv_bipush (v := (nI 53)) hx hb dX6_undo_41 (by decide) ?_
      refine lv_aload_n hx hb dX6_undo_43 rfl (lv_at hl 0 rfl) ?_
      refine va_get (D := G.1) (ci := 6) (v := .int (st - (1 : Int32))) (C := RX6) (T := TX6) (N := 10) hx hb hts hinX6 hown hK.1 hP 0 rfl rfl 2 (by decide) (hts (.fieldLink RX6 38 "PlaFolderModel" "states" "I") (by decide +kernel)) (fun _ h9 => h9) rfl dX6_undo_44 ?_
      refine lv_imul hx hb dX6_undo_47 ?_
      refine lv_iload_n hx hb dX6_undo_48 rfl (lv_at hl 1 rfl) ?_
      refine lv_iadd hx hb dX6_undo_49 ?_
      obtain ⟨hi11, h⟩ := h
      refine x_iald hx hb hK hP 2 rfl hi11 rfl dX6_undo_50 ?_
      obtain ⟨hi12, h⟩ := h
      refine x_iast hx hb hK hP hD hS 1 rfl hi12 rfl dX6_undo_51 (fun H locs hP hD hS => ?_)
      have hP : va_P G.1 vwCl (wM G ad (upd z3 x2.toNatClampNeg (ps (((nI 53) * (st - (1 : Int32))) + x2).toNatClampNeg)) ps er us un od li (st - (1 : Int32)) lm hs) H := hP
      have hD : va_D A (wM G ad (upd z3 x2.toNatClampNeg (ps (((nI 53) * (st - (1 : Int32))) + x2).toNatClampNeg)) ps er us un od li (st - (1 : Int32)) lm hs) := hD
      refine lv_iinc (v := (x2 + (1 : Int32))) (lv' := [(1, .int (x2 + (1 : Int32))), (0, .ref (ad 0))]) hx hb dX6_undo_52 hl (k := 1) rfl rfl (by decide) rfl (fun ls hl => ?_)
      refine lv_goto (tgt := 26) hx hb dX6_undo_55 (by decide) ?_
      obtain ⟨n14, hn13, hI15⟩ := h
      exact ih8 n14 ((x2 + (1 : Int32)), (upd z3 x2.toNatClampNeg (ps (((nI 53) * (st - (1 : Int32))) + x2).toNatClampNeg))) hn13 hI15 _ _ _ ⟨hP, hD, hS, lv_sub hl [1, 0] rfl⟩
  · have h := h.2 c_1
    refine lv_aload_n hx hb dX6_undo_7 rfl (lv_at hl 0 rfl) ?_
    refine lv_bipush (v := (-6 : Int32)) hx hb dX6_undo_8 (by decide) ?_
    refine kc_i (wr := ([] : va_W)) (va_runV (As := [.int (-6 : Int32)]) (rest := []) ⟨hx, hb, hml, hown, hts⟩ (c_X6_error l G ad _ nw ps er us un od li st lm hs (-6 : Int32) h) (cwV 1 hts gX6_undo_X6_error rfl rfl rfl (by decide +kernel) ⟨Nat.le_of_ble_eq_true rfl, Nat.le_of_ble_eq_true rfl⟩) (kpV hK hP hD hZ hS hA [0, 1, 2, 3, 4, 5, 6, 7] rfl (by decide) (q0 := 0) (ci := 6) rfl rfl) rfl rfl hl.1 rfl (lv_room (Nat.le_of_ble_eq_true rfl)) dX6_undo_10 ⟨Nat.zero_le _, Nat.zero_le _⟩) hP hD hS hA [0, 1, 2, 3, 4, 5, 6, 7] [] rfl rfl (by decide) (by decide) (fun r16 w18 H locs h hP hD hS => ?_)
    obtain ⟨u17, rfl⟩ : ∃ z, z = w18 := ⟨_, rfl⟩
    have hP : va_P G.1 vwCl (wM G ad nw ps u17 us un od li st lm hs) H := hP
    have hD : va_D A (wM G ad nw ps u17 us un od li st lm hs) := hD
    try dsimp only at h
    exact W.iret hx hb hr (fun t ht hW => ⟨⟨_, (nw, u17, st), rfl, h, by rw [ht]; exact hP, hD⟩, hS.F ht⟩) hS.2.2 dX6_undo_13
def wp_X6_setSize (a1 : Int32) (a2 : Int32) (nw : Nat → Int32) (ps : Nat → Int32) (er : Nat → Int32) (st : Int32) (K : Int32 → (Nat → Int32) → (Nat → Int32) → (Nat → Int32) → Int32 → Prop) : Prop :=
 wp_X6_in a1 (1 : Int32) (nI 6) (fun (r1 : Int32) => ((r1 = 0 → wp_X6_error (-2 : Int32) er (fun (r3 : Int32) (u4 : Nat → Int32) => K r3 nw ps u4 st)) ∧
 (¬ (r1 = 0) → wp_X6_in a2 (1 : Int32) (nI 4) (fun (r6 : Int32) => ((¬ r6 = 0 → wp_X6_save nw ps st (fun (u9 : Nat → Int32) (u10 : Int32) => wp_X6_noFolds (upd (upd (upd nw 0 a1) 1 a2) 2 (0 : Int32)) (fun (u12 : Nat → Int32) => K (nw 2) u12 u9 er u10))) ∧
 (r6 = 0 → wp_X6_error (-2 : Int32) er (fun (r15 : Int32) (u16 : Nat → Int32) => K r15 nw ps u16 st)))))))
abbrev rm_X6_setSize : Room := { frames := 1, cells := 0, slots := 0, locals := 22 }
set_option maxHeartbeats 4000000 in
set_option maxRecDepth 100000 in
theorem c_X6_setSize (l : Launch) (G : GG) (ad : Nat → Nat) (sz : Nat) (nw : Nat → Int32) (ps : Nat → Int32) (er : Nat → Int32) (us : Nat → Int32) (un : Nat → Int32) (od : Nat → Int32) (li : Nat → Int32) (st : Int32) (lm : Int32) (hs : Int64) (a1 : Int32) (a2 : Int32) {K : Int32 → (Nat → Int32) → (Nat → Int32) → (Nat → Int32) → Int32 → Prop} (h : wp_X6_setSize a1 a2 nw ps er st K) : CI l yX6_setSize wsX6_setSize rm_X6_setSize G [.ref (ad 0), .int a1, .int a2] (wM G ad nw ps er us un od li st lm hs) sz (fun u : (Nat → Int32) × (Nat → Int32) × (Nat → Int32) × Int32 => wM G ad u.1 u.2.1 u.2.2.1 us un od li u.2.2.2 lm hs) (fun r u => K r u.1 u.2.1 u.2.2.1 u.2.2.2) := by
  refine Met.ofW (cc := cX6_setSize) (maxL := 4) (ret := (some .int)) (by decide) rfl ?_
  intro p e s m args below meth c s₁ B hml hv
  obtain ⟨rfl, hsz, hP, hK, hD0, hZ⟩ := hv
  have hx := B.exec
  have hb := B.bytes
  have hr := B.returns
  have hts := atoms_spec (ws := wsX6_setSize) B.pre
  have hown : s.vm.findClass RX6 = some m.cls := findClass_of_methodNamed B.named
  have hlocks := B.notSynchronized
  subst hsz
  have hD := hD0.self (sz := s.heap.size)
  generalize hAe : va_A (wM G ad nw ps er us un od li st lm hs) s.heap.size = A at hD hZ ⊢
  have hA : ∀ q : Nat, s.heap.size ≤ q → A q := fun q h => by rw [← hAe]; exact Or.inr h
  have hS : va_S A s.heap s.heap [] := va_S.rf
  have hl := lv_entry ([.ref (ad 0), .int a1, .int a2]) (n := 4) (Nat.le_of_ble_eq_true rfl)
  rw [lg_entry_eq]
  generalize (lg_sl ([.ref (ad 0), .int a1, .int a2]) ++ List.replicate (4 - (lg_sl ([.ref (ad 0), .int a1, .int a2])).length) Slot.unset).toArray = ls at hl ⊢
  have hl : lv_has ls 4 [(0, .ref (ad 0)), (1, .int a1), (2, .int a2)] := hl
  unfold wp_X6_setSize at h
  have hinX6 : ∀ w ∈ wsX60, w ∈ wsX6_setSize := by decide +kernel
  refine lv_iload_n hx hb dX6_setSize_0 rfl (lv_at hl 1 rfl) ?_
  refine lv_iconst (v := (1 : Int32)) hx hb dX6_setSize_1 (by decide) ?_
  refine lv_bipush (v := (nI 6)) hx hb dX6_setSize_2 (by decide) ?_
  refine kc_i (wr := ([0, 1, 2, 3, 4, 5, 6, 7] : List Nat).filterMap (fun i => (wM G ad nw ps er us un od li st lm hs)[i]?)) (va_runS (As := [.int a1, .int (1 : Int32), .int (nI 6)]) (rest := []) ⟨hx, hb, hml, hown, hts⟩ (c_X6_in l G  _  a1 (1 : Int32) (nI 6) h) (va_cwS 3 hts gX6_setSize_X6_in rfl rfl rfl (by decide +kernel) ⟨Nat.le_of_ble_eq_true rfl, Nat.le_of_ble_eq_true rfl⟩) (kpS hK hP hD hZ hS hA [] rfl (by decide)) rfl rfl hl.1 rfl (lv_room (Nat.le_of_ble_eq_true rfl)) dX6_setSize_4 ⟨Nat.zero_le _, Nat.zero_le _⟩) hP hD hS hA [] [0, 1, 2, 3, 4, 5, 6, 7] rfl rfl (by decide) (by decide) (fun r1 w19 H locs h hP hD hS => ?_)
  have hP : va_P G.1 vwCl (wM G ad nw ps er us un od li st lm hs) H := hP
  have hD : va_D A (wM G ad nw ps er us un od li st lm hs) := hD
  try dsimp only at h
  refine lv_if_eq (tgt := 19) hx hb dX6_setSize_7 (by decide) (fun c_2 => ?_) (fun c_2 => ?_)
  · have h := h.1 c_2
    refine lv_aload_n hx hb dX6_setSize_19 rfl (lv_at hl 0 rfl) ?_
    refine lv_bipush (v := (-2 : Int32)) hx hb dX6_setSize_20 (by decide) ?_
    refine kc_i (wr := ([] : va_W)) (va_runV (As := [.int (-2 : Int32)]) (rest := []) ⟨hx, hb, hml, hown, hts⟩ (c_X6_error l G ad _ nw ps er us un od li st lm hs (-2 : Int32) h) (cwV 1 hts gX6_setSize_X6_error rfl rfl rfl (by decide +kernel) ⟨Nat.le_of_ble_eq_true rfl, Nat.le_of_ble_eq_true rfl⟩) (kpV hK hP hD hZ hS hA [0, 1, 2, 3, 4, 5, 6, 7] rfl (by decide) (q0 := 0) (ci := 6) rfl rfl) rfl rfl hl.1 rfl (lv_room (Nat.le_of_ble_eq_true rfl)) dX6_setSize_22 ⟨Nat.zero_le _, Nat.zero_le _⟩) hP hD hS hA [0, 1, 2, 3, 4, 5, 6, 7] [] rfl rfl (by decide) (by decide) (fun r3 w5 H locs h hP hD hS => ?_)
    obtain ⟨u4, rfl⟩ : ∃ z, z = w5 := ⟨_, rfl⟩
    have hP : va_P G.1 vwCl (wM G ad nw ps u4 us un od li st lm hs) H := hP
    have hD : va_D A (wM G ad nw ps u4 us un od li st lm hs) := hD
    try dsimp only at h
    exact W.iret hx hb hr (fun t ht hW => ⟨⟨_, (nw, ps, u4, st), rfl, h, by rw [ht]; exact hP, hD⟩, hS.F ht⟩) hS.2.2 dX6_setSize_25
  · have h := h.2 c_2
    refine lv_iload_n hx hb dX6_setSize_10 rfl (lv_at hl 2 rfl) ?_
    refine lv_iconst (v := (1 : Int32)) hx hb dX6_setSize_11 (by decide) ?_
    refine lv_iconst (v := (nI 4)) hx hb dX6_setSize_12 (by decide) ?_
    refine kc_i (wr := ([0, 1, 2, 3, 4, 5, 6, 7] : List Nat).filterMap (fun i => (wM G ad nw ps er us un od li st lm hs)[i]?)) (va_runS (As := [.int a2, .int (1 : Int32), .int (nI 4)]) (rest := []) ⟨hx, hb, hml, hown, hts⟩ (c_X6_in l G  _  a2 (1 : Int32) (nI 4) h) (va_cwS 3 hts gX6_setSize_X6_in rfl rfl rfl (by decide +kernel) ⟨Nat.le_of_ble_eq_true rfl, Nat.le_of_ble_eq_true rfl⟩) (kpS hK hP hD hZ hS hA [] rfl (by decide)) rfl rfl hl.1 rfl (lv_room (Nat.le_of_ble_eq_true rfl)) dX6_setSize_13 ⟨Nat.zero_le _, Nat.zero_le _⟩) hP hD hS hA [] [0, 1, 2, 3, 4, 5, 6, 7] rfl rfl (by decide) (by decide) (fun r6 w18 H locs h hP hD hS => ?_)
    have hP : va_P G.1 vwCl (wM G ad nw ps er us un od li st lm hs) H := hP
    have hD : va_D A (wM G ad nw ps er us un od li st lm hs) := hD
    try dsimp only at h
    refine lv_if_ne (tgt := 26) hx hb dX6_setSize_16 (by decide) (fun c_7 => ?_) (fun c_7 => ?_)
    · have h := h.1 c_7
      refine lv_aload_n hx hb dX6_setSize_26 rfl (lv_at hl 0 rfl) ?_
      refine kc_v (wr := ([] : va_W)) (va_runV (As := []) (rest := []) ⟨hx, hb, hml, hown, hts⟩ (c_X6_save l G ad _ nw ps er us un od li st lm hs  h) (cwV 0 hts gX6_setSize_X6_save rfl rfl rfl (by decide +kernel) ⟨Nat.le_of_ble_eq_true rfl, Nat.le_of_ble_eq_true rfl⟩) (kpV hK hP hD hZ hS hA [0, 1, 2, 3, 4, 5, 6, 7] rfl (by decide) (q0 := 0) (ci := 6) rfl rfl) rfl rfl hl.1 rfl (lv_room (Nat.le_of_ble_eq_true rfl)) dX6_setSize_27 ⟨Nat.zero_le _, Nat.zero_le _⟩) hP hD hS hA [0, 1, 2, 3, 4, 5, 6, 7] [] rfl rfl (by decide) (by decide) (fun w14 H locs h hP hD hS => ?_)
      obtain ⟨u9, u10⟩ := w14
      have hP : va_P G.1 vwCl (wM G ad nw u9 er us un od li u10 lm hs) H := hP
      have hD : va_D A (wM G ad nw u9 er us un od li u10 lm hs) := hD
      try dsimp only at h
      refine lv_aload_n hx hb dX6_setSize_30 rfl (lv_at hl 0 rfl) ?_
      refine va_get (D := G.1) (ci := 6) (v := .ref (ad 1)) (C := RX6) (T := TX6) (N := 10) hx hb hts hinX6 hown hK.1 hP 0 rfl rfl 0 (by decide) (hts (.fieldLink RX6 7 "PlaFolderModel" "now" "[I") (by decide +kernel)) (fun _ h9 => h9) rfl dX6_setSize_31 ?_
      refine lv_iconst (v := (nI 2)) hx hb dX6_setSize_34 (by decide) ?_
      refine x_iald hx hb hK hP 1 rfl (vin_c (by decide)) (k := 2) (by decide) dX6_setSize_35 ?_
      refine lv_istore_n (lv' := [(3, .int (nw 2)), (0, .ref (ad 0)), (1, .int a1), (2, .int a2)]) hx hb dX6_setSize_36 rfl hl (by decide) rfl (fun ls hl => ?_)
      refine lv_aload_n hx hb dX6_setSize_37 rfl (lv_at hl 1 rfl) ?_
      refine va_get (D := G.1) (ci := 6) (v := .ref (ad 1)) (C := RX6) (T := TX6) (N := 10) hx hb hts hinX6 hown hK.1 hP 0 rfl rfl 0 (by decide) (hts (.fieldLink RX6 7 "PlaFolderModel" "now" "[I") (by decide +kernel)) (fun _ h9 => h9) rfl dX6_setSize_38 ?_
      refine lv_iconst (v := (0 : Int32)) hx hb dX6_setSize_41 (by decide) ?_
      refine lv_iload_n hx hb dX6_setSize_42 rfl (lv_at hl 2 rfl) ?_
      refine x_iast hx hb hK hP hD hS 1 rfl (vin_c (by decide)) (k := 0) (by decide) dX6_setSize_43 (fun H locs hP hD hS => ?_)
      have hP : va_P G.1 vwCl (wM G ad (upd nw 0 a1) u9 er us un od li u10 lm hs) H := hP
      have hD : va_D A (wM G ad (upd nw 0 a1) u9 er us un od li u10 lm hs) := hD
      refine lv_aload_n hx hb dX6_setSize_44 rfl (lv_at hl 1 rfl) ?_
      refine va_get (D := G.1) (ci := 6) (v := .ref (ad 1)) (C := RX6) (T := TX6) (N := 10) hx hb hts hinX6 hown hK.1 hP 0 rfl rfl 0 (by decide) (hts (.fieldLink RX6 7 "PlaFolderModel" "now" "[I") (by decide +kernel)) (fun _ h9 => h9) rfl dX6_setSize_45 ?_
      refine lv_iconst (v := (1 : Int32)) hx hb dX6_setSize_48 (by decide) ?_
      refine lv_iload_n hx hb dX6_setSize_49 rfl (lv_at hl 3 rfl) ?_
      refine x_iast hx hb hK hP hD hS 1 rfl (vin_c (by decide)) (k := 1) (by decide) dX6_setSize_50 (fun H locs hP hD hS => ?_)
      have hP : va_P G.1 vwCl (wM G ad (upd (upd nw 0 a1) 1 a2) u9 er us un od li u10 lm hs) H := hP
      have hD : va_D A (wM G ad (upd (upd nw 0 a1) 1 a2) u9 er us un od li u10 lm hs) := hD
      refine lv_aload_n hx hb dX6_setSize_51 rfl (lv_at hl 1 rfl) ?_
      refine va_get (D := G.1) (ci := 6) (v := .ref (ad 1)) (C := RX6) (T := TX6) (N := 10) hx hb hts hinX6 hown hK.1 hP 0 rfl rfl 0 (by decide) (hts (.fieldLink RX6 7 "PlaFolderModel" "now" "[I") (by decide +kernel)) (fun _ h9 => h9) rfl dX6_setSize_52 ?_
      refine lv_iconst (v := (nI 2)) hx hb dX6_setSize_55 (by decide) ?_
      refine lv_iconst (v := (0 : Int32)) hx hb dX6_setSize_56 (by decide) ?_
      refine x_iast hx hb hK hP hD hS 1 rfl (vin_c (by decide)) (k := 2) (by decide) dX6_setSize_57 (fun H locs hP hD hS => ?_)
      have hP : va_P G.1 vwCl (wM G ad (upd (upd (upd nw 0 a1) 1 a2) 2 (0 : Int32)) u9 er us un od li u10 lm hs) H := hP
      have hD : va_D A (wM G ad (upd (upd (upd nw 0 a1) 1 a2) 2 (0 : Int32)) u9 er us un od li u10 lm hs) := hD
      refine lv_aload_n hx hb dX6_setSize_58 rfl (lv_at hl 1 rfl) ?_
      refine kc_v (wr := ([] : va_W)) (va_runV (As := []) (rest := []) ⟨hx, hb, hml, hown, hts⟩ (c_X6_noFolds l G ad _ (upd (upd (upd nw 0 a1) 1 a2) 2 (0 : Int32)) u9 er us un od li u10 lm hs  h) (cwV 0 hts gX6_setSize_X6_noFolds rfl rfl rfl (by decide +kernel) ⟨Nat.le_of_ble_eq_true rfl, Nat.le_of_ble_eq_true rfl⟩) (kpV hK hP hD hZ hS hA [0, 1, 2, 3, 4, 5, 6, 7] rfl (by decide) (q0 := 0) (ci := 6) rfl rfl) rfl rfl hl.1 rfl (lv_room (Nat.le_of_ble_eq_true rfl)) dX6_setSize_59 ⟨Nat.zero_le _, Nat.zero_le _⟩) hP hD hS hA [0, 1, 2, 3, 4, 5, 6, 7] [] rfl rfl (by decide) (by decide) (fun w13 H locs h hP hD hS => ?_)
      obtain ⟨u12, rfl⟩ : ∃ z, z = w13 := ⟨_, rfl⟩
      have hP : va_P G.1 vwCl (wM G ad u12 u9 er us un od li u10 lm hs) H := hP
      have hD : va_D A (wM G ad u12 u9 er us un od li u10 lm hs) := hD
      try dsimp only at h
      refine lv_iload_n hx hb dX6_setSize_62 rfl (lv_at hl 0 rfl) ?_
      exact W.iret hx hb hr (fun t ht hW => ⟨⟨_, (u12, u9, er, u10), rfl, h, by rw [ht]; exact hP, hD⟩, hS.F ht⟩) hS.2.2 dX6_setSize_63
    · have h := h.2 c_7
      refine lv_aload_n hx hb dX6_setSize_19 rfl (lv_at hl 0 rfl) ?_
      refine lv_bipush (v := (-2 : Int32)) hx hb dX6_setSize_20 (by decide) ?_
      refine kc_i (wr := ([] : va_W)) (va_runV (As := [.int (-2 : Int32)]) (rest := []) ⟨hx, hb, hml, hown, hts⟩ (c_X6_error l G ad _ nw ps er us un od li st lm hs (-2 : Int32) h) (cwV 1 hts gX6_setSize_X6_error rfl rfl rfl (by decide +kernel) ⟨Nat.le_of_ble_eq_true rfl, Nat.le_of_ble_eq_true rfl⟩) (kpV hK hP hD hZ hS hA [0, 1, 2, 3, 4, 5, 6, 7] rfl (by decide) (q0 := 0) (ci := 6) rfl rfl) rfl rfl hl.1 rfl (lv_room (Nat.le_of_ble_eq_true rfl)) dX6_setSize_22 ⟨Nat.zero_le _, Nat.zero_le _⟩) hP hD hS hA [0, 1, 2, 3, 4, 5, 6, 7] [] rfl rfl (by decide) (by decide) (fun r15 w17 H locs h hP hD hS => ?_)
      obtain ⟨u16, rfl⟩ : ∃ z, z = w17 := ⟨_, rfl⟩
      have hP : va_P G.1 vwCl (wM G ad nw ps u16 us un od li st lm hs) H := hP
      have hD : va_D A (wM G ad nw ps u16 us un od li st lm hs) := hD
      try dsimp only at h
      exact W.iret hx hb hr (fun t ht hW => ⟨⟨_, (nw, ps, u16, st), rfl, h, by rw [ht]; exact hP, hD⟩, hS.F ht⟩) hS.2.2 dX6_setSize_25
def wp_X6_isSet (a1 : Int32) (a2 : Int32) (K : Int32 → Prop) : Prop :=
 wp_X6_in a1 (0 : Int32) ((jshl (1 : Int32) a2) - (1 : Int32)) (fun (r1 : Int32) => ((r1 = 0 ∨ r1 = 1) ∧ K r1))
abbrev rm_X6_isSet : Room := { frames := 1, cells := 0, slots := 0, locals := 22 }
set_option maxHeartbeats 4000000 in
set_option maxRecDepth 100000 in
theorem c_X6_isSet (l : Launch) (G : GG) (ad : Nat → Nat) (sz : Nat) (nw : Nat → Int32) (ps : Nat → Int32) (er : Nat → Int32) (us : Nat → Int32) (un : Nat → Int32) (od : Nat → Int32) (li : Nat → Int32) (st : Int32) (lm : Int32) (hs : Int64) (a1 : Int32) (a2 : Int32) {K : Int32 → Prop} (h : wp_X6_isSet a1 a2 K) : CI l yX6_isSet wsX6_isSet rm_X6_isSet G [.ref (ad 0), .int a1, .int a2] (wM G ad nw ps er us un od li st lm hs) sz (fun u : Unit => wM G ad nw ps er us un od li st lm hs) (fun r u => K r ) := by
  refine Met.ofW (cc := cX6_isSet) (maxL := 3) (ret := (some .boolean)) (by decide) rfl ?_
  intro p e s m args below meth c s₁ B hml hv
  obtain ⟨rfl, hsz, hP, hK, hD0, hZ⟩ := hv
  have hx := B.exec
  have hb := B.bytes
  have hr := B.returns
  have hts := atoms_spec (ws := wsX6_isSet) B.pre
  have hown : s.vm.findClass RX6 = some m.cls := findClass_of_methodNamed B.named
  have hlocks := B.notSynchronized
  subst hsz
  have hD := hD0.self (sz := s.heap.size)
  generalize hAe : va_A (wM G ad nw ps er us un od li st lm hs) s.heap.size = A at hD hZ ⊢
  have hA : ∀ q : Nat, s.heap.size ≤ q → A q := fun q h => by rw [← hAe]; exact Or.inr h
  have hS : va_S A s.heap s.heap [] := va_S.rf
  have hl := lv_entry ([.ref (ad 0), .int a1, .int a2]) (n := 3) (Nat.le_of_ble_eq_true rfl)
  rw [lg_entry_eq]
  generalize (lg_sl ([.ref (ad 0), .int a1, .int a2]) ++ List.replicate (3 - (lg_sl ([.ref (ad 0), .int a1, .int a2])).length) Slot.unset).toArray = ls at hl ⊢
  have hl : lv_has ls 3 [(0, .ref (ad 0)), (1, .int a1), (2, .int a2)] := hl
  unfold wp_X6_isSet at h
  refine lv_iload_n hx hb dX6_isSet_0 rfl (lv_at hl 1 rfl) ?_
  refine lv_iconst (v := (0 : Int32)) hx hb dX6_isSet_1 (by decide) ?_
  refine lv_iconst (v := (1 : Int32)) hx hb dX6_isSet_2 (by decide) ?_
  refine lv_iload_n hx hb dX6_isSet_3 rfl (lv_at hl 2 rfl) ?_
  refine lv_ishl hx hb dX6_isSet_4 ?_
  refine lv_iconst (v := (1 : Int32)) hx hb dX6_isSet_5 (by decide) ?_
  refine lv_isub hx hb dX6_isSet_6 ?_
  refine kc_i (wr := ([0, 1, 2, 3, 4, 5, 6, 7] : List Nat).filterMap (fun i => (wM G ad nw ps er us un od li st lm hs)[i]?)) (va_runS (As := [.int a1, .int (0 : Int32), .int ((jshl (1 : Int32) a2) - (1 : Int32))]) (rest := []) ⟨hx, hb, hml, hown, hts⟩ (c_X6_in l G  _  a1 (0 : Int32) ((jshl (1 : Int32) a2) - (1 : Int32)) h) (va_cwS 3 hts gX6_isSet_X6_in rfl rfl rfl (by decide +kernel) ⟨Nat.le_of_ble_eq_true rfl, Nat.le_of_ble_eq_true rfl⟩) (kpS hK hP hD hZ hS hA [] rfl (by decide)) rfl rfl hl.1 rfl (lv_room (Nat.le_of_ble_eq_true rfl)) dX6_isSet_7 ⟨Nat.zero_le _, Nat.zero_le _⟩) hP hD hS hA [] [0, 1, 2, 3, 4, 5, 6, 7] rfl rfl (by decide) (by decide) (fun r1 w3 H locs h hP hD hS => ?_)
  have hP : va_P G.1 vwCl (wM G ad nw ps er us un od li st lm hs) H := hP
  have hD : va_D A (wM G ad nw ps er us un od li st lm hs) := hD
  try dsimp only at h
  obtain ⟨hz2, h⟩ := h
  exact W.zret hx hb hr (nar_b hz2) (fun t ht hW => ⟨⟨_, (), rfl, h, by rw [ht]; exact hP, hD⟩, hS.F ht⟩) hS.2.2 dX6_isSet_10
def wp_X6_addTerm (a1 : Int32) (a2 : Int32) (a3 : Int32) (nw : Nat → Int32) (ps : Nat → Int32) (er : Nat → Int32) (st : Int32) (K : Int32 → (Nat → Int32) → (Nat → Int32) → (Nat → Int32) → Int32 → Prop) : Prop :=
 wp_X6_isSet a1 (nw 0) (fun (r1 : Int32) => ((r1 = 0 → wp_X6_error (-2 : Int32) er (fun (r3 : Int32) (u4 : Nat → Int32) => K r3 nw ps u4 st)) ∧
 (¬ (r1 = 0) → wp_X6_isSet a2 (nw 0) (fun (r6 : Int32) => ((r6 = 0 → wp_X6_error (-2 : Int32) er (fun (r8 : Int32) (u9 : Nat → Int32) => K r8 nw ps u9 st)) ∧
 (¬ (r6 = 0) → wp_X6_isSet a3 (nw 1) (fun (r11 : Int32) => ((r11 = 0 → wp_X6_error (-2 : Int32) er (fun (r13 : Int32) (u14 : Nat → Int32) => K r13 nw ps u14 st)) ∧
 (¬ (r11 = 0) → ((¬ (a1 &&& a2) = 0 → wp_X6_error (-2 : Int32) er (fun (r17 : Int32) (u18 : Nat → Int32) => K r17 nw ps u18 st)) ∧
 ((a1 &&& a2) = 0 → ((¬ a3 = 0 → ((¬ (nw 2) = (nI 10) → wp_X6_save nw ps st (fun (u23 : Nat → Int32) (u24 : Int32) => (vp_in ((nI 3) + (nw 2)) 53 ∧ (vp_in ((nI 13) + (nw 2)) 53 ∧ (vp_in ((nI 23) + (nw 2)) 53 ∧ wp_X6_noFolds (upd (upd (upd (upd nw (((nI 3) + (nw 2)).toNatClampNeg) a1) (((nI 13) + (nw 2)).toNatClampNeg) a2) (((nI 23) + (nw 2)).toNatClampNeg) a3) 2 (((upd (upd (upd nw (((nI 3) + (nw 2)).toNatClampNeg) a1) (((nI 13) + (nw 2)).toNatClampNeg) a2) (((nI 23) + (nw 2)).toNatClampNeg) a3) 2) + (1 : Int32))) (fun (u29 : Nat → Int32) => K (nw 2) u29 u23 er u24)))))) ∧
 ((nw 2) = (nI 10) → wp_X6_error (-5 : Int32) er (fun (r32 : Int32) (u33 : Nat → Int32) => K r32 nw ps u33 st)))) ∧
 (a3 = 0 → wp_X6_error (-2 : Int32) er (fun (r35 : Int32) (u36 : Nat → Int32) => K r35 nw ps u36 st))))))))))))))
abbrev rm_X6_addTerm : Room := { frames := 2, cells := 0, slots := 0, locals := 44 }
set_option maxHeartbeats 4000000 in
set_option maxRecDepth 100000 in
theorem c_X6_addTerm (l : Launch) (G : GG) (ad : Nat → Nat) (sz : Nat) (nw : Nat → Int32) (ps : Nat → Int32) (er : Nat → Int32) (us : Nat → Int32) (un : Nat → Int32) (od : Nat → Int32) (li : Nat → Int32) (st : Int32) (lm : Int32) (hs : Int64) (a1 : Int32) (a2 : Int32) (a3 : Int32) {K : Int32 → (Nat → Int32) → (Nat → Int32) → (Nat → Int32) → Int32 → Prop} (h : wp_X6_addTerm a1 a2 a3 nw ps er st K) : CI l yX6_addTerm wsX6_addTerm rm_X6_addTerm G [.ref (ad 0), .int a1, .int a2, .int a3] (wM G ad nw ps er us un od li st lm hs) sz (fun u : (Nat → Int32) × (Nat → Int32) × (Nat → Int32) × Int32 => wM G ad u.1 u.2.1 u.2.2.1 us un od li u.2.2.2 lm hs) (fun r u => K r u.1 u.2.1 u.2.2.1 u.2.2.2) := by
  refine Met.ofW (cc := cX6_addTerm) (maxL := 5) (ret := (some .int)) (by decide) rfl ?_
  intro p e s m args below meth c s₁ B hml hv
  obtain ⟨rfl, hsz, hP, hK, hD0, hZ⟩ := hv
  have hx := B.exec
  have hb := B.bytes
  have hr := B.returns
  have hts := atoms_spec (ws := wsX6_addTerm) B.pre
  have hown : s.vm.findClass RX6 = some m.cls := findClass_of_methodNamed B.named
  have hlocks := B.notSynchronized
  subst hsz
  have hD := hD0.self (sz := s.heap.size)
  generalize hAe : va_A (wM G ad nw ps er us un od li st lm hs) s.heap.size = A at hD hZ ⊢
  have hA : ∀ q : Nat, s.heap.size ≤ q → A q := fun q h => by rw [← hAe]; exact Or.inr h
  have hS : va_S A s.heap s.heap [] := va_S.rf
  have hl := lv_entry ([.ref (ad 0), .int a1, .int a2, .int a3]) (n := 5) (Nat.le_of_ble_eq_true rfl)
  rw [lg_entry_eq]
  generalize (lg_sl ([.ref (ad 0), .int a1, .int a2, .int a3]) ++ List.replicate (5 - (lg_sl ([.ref (ad 0), .int a1, .int a2, .int a3])).length) Slot.unset).toArray = ls at hl ⊢
  have hl : lv_has ls 5 [(0, .ref (ad 0)), (1, .int a1), (2, .int a2), (3, .int a3)] := hl
  unfold wp_X6_addTerm at h
  have hinX6 : ∀ w ∈ wsX60, w ∈ wsX6_addTerm := by decide +kernel
  refine lv_aload_n hx hb dX6_addTerm_0 rfl (lv_at hl 0 rfl) ?_
  refine lv_iload_n hx hb dX6_addTerm_1 rfl (lv_at hl 1 rfl) ?_
  refine lv_aload_n hx hb dX6_addTerm_2 rfl (lv_at hl 0 rfl) ?_
  refine va_get (D := G.1) (ci := 6) (v := .ref (ad 1)) (C := RX6) (T := TX6) (N := 10) hx hb hts hinX6 hown hK.1 hP 0 rfl rfl 0 (by decide) (hts (.fieldLink RX6 7 "PlaFolderModel" "now" "[I") (by decide +kernel)) (fun _ h9 => h9) rfl dX6_addTerm_3 ?_
  refine lv_iconst (v := (0 : Int32)) hx hb dX6_addTerm_6 (by decide) ?_
  refine x_iald hx hb hK hP 1 rfl (vin_c (by decide)) (k := 0) (by decide) dX6_addTerm_7 ?_
  refine kc_i (wr := ([] : va_W)) (va_runV (As := [.int a1, .int (nw 0)]) (rest := []) ⟨hx, hb, hml, hown, hts⟩ (c_X6_isSet l G ad _ nw ps er us un od li st lm hs a1 (nw 0) h) (cwV 2 hts gX6_addTerm_X6_isSet rfl rfl rfl (by decide +kernel) ⟨Nat.le_of_ble_eq_true rfl, Nat.le_of_ble_eq_true rfl⟩) (kpV hK hP hD hZ hS hA [0, 1, 2, 3, 4, 5, 6, 7] rfl (by decide) (q0 := 0) (ci := 6) rfl rfl) rfl rfl hl.1 rfl (lv_room (Nat.le_of_ble_eq_true rfl)) dX6_addTerm_8 ⟨Nat.zero_le _, Nat.zero_le _⟩) hP hD hS hA [0, 1, 2, 3, 4, 5, 6, 7] [] rfl rfl (by decide) (by decide) (fun r1 w40 H locs h hP hD hS => ?_)
  have hP : va_P G.1 vwCl (wM G ad nw ps er us un od li st lm hs) H := hP
  have hD : va_D A (wM G ad nw ps er us un od li st lm hs) := hD
  try dsimp only at h
  refine lv_if_eq (tgt := 52) hx hb dX6_addTerm_11 (by decide) (fun c_2 => ?_) (fun c_2 => ?_)
  · have h := h.1 c_2
    refine lv_aload_n hx hb dX6_addTerm_52 rfl (lv_at hl 0 rfl) ?_
    refine lv_bipush (v := (-2 : Int32)) hx hb dX6_addTerm_53 (by decide) ?_
    refine kc_i (wr := ([] : va_W)) (va_runV (As := [.int (-2 : Int32)]) (rest := []) ⟨hx, hb, hml, hown, hts⟩ (c_X6_error l G ad _ nw ps er us un od li st lm hs (-2 : Int32) h) (cwV 1 hts gX6_addTerm_X6_error rfl rfl rfl (by decide +kernel) ⟨Nat.le_of_ble_eq_true rfl, Nat.le_of_ble_eq_true rfl⟩) (kpV hK hP hD hZ hS hA [0, 1, 2, 3, 4, 5, 6, 7] rfl (by decide) (q0 := 0) (ci := 6) rfl rfl) rfl rfl hl.1 rfl (lv_room (Nat.le_of_ble_eq_true rfl)) dX6_addTerm_55 ⟨Nat.zero_le _, Nat.zero_le _⟩) hP hD hS hA [0, 1, 2, 3, 4, 5, 6, 7] [] rfl rfl (by decide) (by decide) (fun r3 w5 H locs h hP hD hS => ?_)
    obtain ⟨u4, rfl⟩ : ∃ z, z = w5 := ⟨_, rfl⟩
    have hP : va_P G.1 vwCl (wM G ad nw ps u4 us un od li st lm hs) H := hP
    have hD : va_D A (wM G ad nw ps u4 us un od li st lm hs) := hD
    try dsimp only at h
    exact W.iret hx hb hr (fun t ht hW => ⟨⟨_, (nw, ps, u4, st), rfl, h, by rw [ht]; exact hP, hD⟩, hS.F ht⟩) hS.2.2 dX6_addTerm_58
  · have h := h.2 c_2
    refine lv_aload_n hx hb dX6_addTerm_14 rfl (lv_at hl 0 rfl) ?_
    refine lv_iload_n hx hb dX6_addTerm_15 rfl (lv_at hl 2 rfl) ?_
    refine lv_aload_n hx hb dX6_addTerm_16 rfl (lv_at hl 0 rfl) ?_
    refine va_get (D := G.1) (ci := 6) (v := .ref (ad 1)) (C := RX6) (T := TX6) (N := 10) hx hb hts hinX6 hown hK.1 hP 0 rfl rfl 0 (by decide) (hts (.fieldLink RX6 7 "PlaFolderModel" "now" "[I") (by decide +kernel)) (fun _ h9 => h9) rfl dX6_addTerm_17 ?_
    refine lv_iconst (v := (0 : Int32)) hx hb dX6_addTerm_20 (by decide) ?_
    refine x_iald hx hb hK hP 1 rfl (vin_c (by decide)) (k := 0) (by decide) dX6_addTerm_21 ?_
    refine kc_i (wr := ([] : va_W)) (va_runV (As := [.int a2, .int (nw 0)]) (rest := []) ⟨hx, hb, hml, hown, hts⟩ (c_X6_isSet l G ad _ nw ps er us un od li st lm hs a2 (nw 0) h) (cwV 2 hts gX6_addTerm_X6_isSet rfl rfl rfl (by decide +kernel) ⟨Nat.le_of_ble_eq_true rfl, Nat.le_of_ble_eq_true rfl⟩) (kpV hK hP hD hZ hS hA [0, 1, 2, 3, 4, 5, 6, 7] rfl (by decide) (q0 := 0) (ci := 6) rfl rfl) rfl rfl hl.1 rfl (lv_room (Nat.le_of_ble_eq_true rfl)) dX6_addTerm_22 ⟨Nat.zero_le _, Nat.zero_le _⟩) hP hD hS hA [0, 1, 2, 3, 4, 5, 6, 7] [] rfl rfl (by decide) (by decide) (fun r6 w39 H locs h hP hD hS => ?_)
    have hP : va_P G.1 vwCl (wM G ad nw ps er us un od li st lm hs) H := hP
    have hD : va_D A (wM G ad nw ps er us un od li st lm hs) := hD
    try dsimp only at h
    refine lv_if_eq (tgt := 52) hx hb dX6_addTerm_25 (by decide) (fun c_7 => ?_) (fun c_7 => ?_)
    · have h := h.1 c_7
      refine lv_aload_n hx hb dX6_addTerm_52 rfl (lv_at hl 0 rfl) ?_
      refine lv_bipush (v := (-2 : Int32)) hx hb dX6_addTerm_53 (by decide) ?_
      refine kc_i (wr := ([] : va_W)) (va_runV (As := [.int (-2 : Int32)]) (rest := []) ⟨hx, hb, hml, hown, hts⟩ (c_X6_error l G ad _ nw ps er us un od li st lm hs (-2 : Int32) h) (cwV 1 hts gX6_addTerm_X6_error rfl rfl rfl (by decide +kernel) ⟨Nat.le_of_ble_eq_true rfl, Nat.le_of_ble_eq_true rfl⟩) (kpV hK hP hD hZ hS hA [0, 1, 2, 3, 4, 5, 6, 7] rfl (by decide) (q0 := 0) (ci := 6) rfl rfl) rfl rfl hl.1 rfl (lv_room (Nat.le_of_ble_eq_true rfl)) dX6_addTerm_55 ⟨Nat.zero_le _, Nat.zero_le _⟩) hP hD hS hA [0, 1, 2, 3, 4, 5, 6, 7] [] rfl rfl (by decide) (by decide) (fun r8 w10 H locs h hP hD hS => ?_)
      obtain ⟨u9, rfl⟩ : ∃ z, z = w10 := ⟨_, rfl⟩
      have hP : va_P G.1 vwCl (wM G ad nw ps u9 us un od li st lm hs) H := hP
      have hD : va_D A (wM G ad nw ps u9 us un od li st lm hs) := hD
      try dsimp only at h
      exact W.iret hx hb hr (fun t ht hW => ⟨⟨_, (nw, ps, u9, st), rfl, h, by rw [ht]; exact hP, hD⟩, hS.F ht⟩) hS.2.2 dX6_addTerm_58
    · have h := h.2 c_7
      refine lv_aload_n hx hb dX6_addTerm_28 rfl (lv_at hl 0 rfl) ?_
      refine lv_iload_n hx hb dX6_addTerm_29 rfl (lv_at hl 3 rfl) ?_
      refine lv_aload_n hx hb dX6_addTerm_30 rfl (lv_at hl 0 rfl) ?_
      refine va_get (D := G.1) (ci := 6) (v := .ref (ad 1)) (C := RX6) (T := TX6) (N := 10) hx hb hts hinX6 hown hK.1 hP 0 rfl rfl 0 (by decide) (hts (.fieldLink RX6 7 "PlaFolderModel" "now" "[I") (by decide +kernel)) (fun _ h9 => h9) rfl dX6_addTerm_31 ?_
      refine lv_iconst (v := (1 : Int32)) hx hb dX6_addTerm_34 (by decide) ?_
      refine x_iald hx hb hK hP 1 rfl (vin_c (by decide)) (k := 1) (by decide) dX6_addTerm_35 ?_
      refine kc_i (wr := ([] : va_W)) (va_runV (As := [.int a3, .int (nw 1)]) (rest := []) ⟨hx, hb, hml, hown, hts⟩ (c_X6_isSet l G ad _ nw ps er us un od li st lm hs a3 (nw 1) h) (cwV 2 hts gX6_addTerm_X6_isSet rfl rfl rfl (by decide +kernel) ⟨Nat.le_of_ble_eq_true rfl, Nat.le_of_ble_eq_true rfl⟩) (kpV hK hP hD hZ hS hA [0, 1, 2, 3, 4, 5, 6, 7] rfl (by decide) (q0 := 0) (ci := 6) rfl rfl) rfl rfl hl.1 rfl (lv_room (Nat.le_of_ble_eq_true rfl)) dX6_addTerm_36 ⟨Nat.zero_le _, Nat.zero_le _⟩) hP hD hS hA [0, 1, 2, 3, 4, 5, 6, 7] [] rfl rfl (by decide) (by decide) (fun r11 w38 H locs h hP hD hS => ?_)
      have hP : va_P G.1 vwCl (wM G ad nw ps er us un od li st lm hs) H := hP
      have hD : va_D A (wM G ad nw ps er us un od li st lm hs) := hD
      try dsimp only at h
      refine lv_if_eq (tgt := 52) hx hb dX6_addTerm_39 (by decide) (fun c_12 => ?_) (fun c_12 => ?_)
      · have h := h.1 c_12
        refine lv_aload_n hx hb dX6_addTerm_52 rfl (lv_at hl 0 rfl) ?_
        refine lv_bipush (v := (-2 : Int32)) hx hb dX6_addTerm_53 (by decide) ?_
        refine kc_i (wr := ([] : va_W)) (va_runV (As := [.int (-2 : Int32)]) (rest := []) ⟨hx, hb, hml, hown, hts⟩ (c_X6_error l G ad _ nw ps er us un od li st lm hs (-2 : Int32) h) (cwV 1 hts gX6_addTerm_X6_error rfl rfl rfl (by decide +kernel) ⟨Nat.le_of_ble_eq_true rfl, Nat.le_of_ble_eq_true rfl⟩) (kpV hK hP hD hZ hS hA [0, 1, 2, 3, 4, 5, 6, 7] rfl (by decide) (q0 := 0) (ci := 6) rfl rfl) rfl rfl hl.1 rfl (lv_room (Nat.le_of_ble_eq_true rfl)) dX6_addTerm_55 ⟨Nat.zero_le _, Nat.zero_le _⟩) hP hD hS hA [0, 1, 2, 3, 4, 5, 6, 7] [] rfl rfl (by decide) (by decide) (fun r13 w15 H locs h hP hD hS => ?_)
        obtain ⟨u14, rfl⟩ : ∃ z, z = w15 := ⟨_, rfl⟩
        have hP : va_P G.1 vwCl (wM G ad nw ps u14 us un od li st lm hs) H := hP
        have hD : va_D A (wM G ad nw ps u14 us un od li st lm hs) := hD
        try dsimp only at h
        exact W.iret hx hb hr (fun t ht hW => ⟨⟨_, (nw, ps, u14, st), rfl, h, by rw [ht]; exact hP, hD⟩, hS.F ht⟩) hS.2.2 dX6_addTerm_58
      · have h := h.2 c_12
        refine lv_iload_n hx hb dX6_addTerm_42 rfl (lv_at hl 1 rfl) ?_
        refine lv_iload_n hx hb dX6_addTerm_43 rfl (lv_at hl 2 rfl) ?_
        refine lv_iand hx hb dX6_addTerm_44 ?_
        refine lv_if_ne (tgt := 52) hx hb dX6_addTerm_45 (by decide) (fun c_16 => ?_) (fun c_16 => ?_)
        · have h := h.1 c_16
          refine lv_aload_n hx hb dX6_addTerm_52 rfl (lv_at hl 0 rfl) ?_
          refine lv_bipush (v := (-2 : Int32)) hx hb dX6_addTerm_53 (by decide) ?_
          refine kc_i (wr := ([] : va_W)) (va_runV (As := [.int (-2 : Int32)]) (rest := []) ⟨hx, hb, hml, hown, hts⟩ (c_X6_error l G ad _ nw ps er us un od li st lm hs (-2 : Int32) h) (cwV 1 hts gX6_addTerm_X6_error rfl rfl rfl (by decide +kernel) ⟨Nat.le_of_ble_eq_true rfl, Nat.le_of_ble_eq_true rfl⟩) (kpV hK hP hD hZ hS hA [0, 1, 2, 3, 4, 5, 6, 7] rfl (by decide) (q0 := 0) (ci := 6) rfl rfl) rfl rfl hl.1 rfl (lv_room (Nat.le_of_ble_eq_true rfl)) dX6_addTerm_55 ⟨Nat.zero_le _, Nat.zero_le _⟩) hP hD hS hA [0, 1, 2, 3, 4, 5, 6, 7] [] rfl rfl (by decide) (by decide) (fun r17 w19 H locs h hP hD hS => ?_)
          obtain ⟨u18, rfl⟩ : ∃ z, z = w19 := ⟨_, rfl⟩
          have hP : va_P G.1 vwCl (wM G ad nw ps u18 us un od li st lm hs) H := hP
          have hD : va_D A (wM G ad nw ps u18 us un od li st lm hs) := hD
          try dsimp only at h
          exact W.iret hx hb hr (fun t ht hW => ⟨⟨_, (nw, ps, u18, st), rfl, h, by rw [ht]; exact hP, hD⟩, hS.F ht⟩) hS.2.2 dX6_addTerm_58
        · have h := h.2 c_16
          refine lv_iload_n hx hb dX6_addTerm_48 rfl (lv_at hl 3 rfl) ?_
          refine lv_if_ne (tgt := 59) hx hb dX6_addTerm_49 (by decide) (fun c_20 => ?_) (fun c_20 => ?_)
          · have h := h.1 c_20
            refine lv_aload_n hx hb dX6_addTerm_59 rfl (lv_at hl 0 rfl) ?_
            refine va_get (D := G.1) (ci := 6) (v := .ref (ad 1)) (C := RX6) (T := TX6) (N := 10) hx hb hts hinX6 hown hK.1 hP 0 rfl rfl 0 (by decide) (hts (.fieldLink RX6 7 "PlaFolderModel" "now" "[I") (by decide +kernel)) (fun _ h9 => h9) rfl dX6_addTerm_60 ?_
            refine lv_iconst (v := (nI 2)) hx hb dX6_addTerm_63 (by decide) ?_
            refine x_iald hx hb hK hP 1 rfl (vin_c (by decide)) (k := 2) (by decide) dX6_addTerm_64 ?_
            refine lv_bipush (v := (nI 10)) hx hb dX6_addTerm_65 (by decide) ?_
            refine lv_icmp_ne (tgt := 77) hx hb dX6_addTerm_67 (by decide) (fun c_21 => ?_) (fun c_21 => ?_)
            · have h := h.1 c_21
              refine lv_aload_n hx hb dX6_addTerm_77 rfl (lv_at hl 0 rfl) ?_
              refine kc_v (wr := ([] : va_W)) (va_runV (As := []) (rest := []) ⟨hx, hb, hml, hown, hts⟩ (c_X6_save l G ad _ nw ps er us un od li st lm hs  h) (cwV 0 hts gX6_addTerm_X6_save rfl rfl rfl (by decide +kernel) ⟨Nat.le_of_ble_eq_true rfl, Nat.le_of_ble_eq_true rfl⟩) (kpV hK hP hD hZ hS hA [0, 1, 2, 3, 4, 5, 6, 7] rfl (by decide) (q0 := 0) (ci := 6) rfl rfl) rfl rfl hl.1 rfl (lv_room (Nat.le_of_ble_eq_true rfl)) dX6_addTerm_78 ⟨Nat.zero_le _, Nat.zero_le _⟩) hP hD hS hA [0, 1, 2, 3, 4, 5, 6, 7] [] rfl rfl (by decide) (by decide) (fun w31 H locs h hP hD hS => ?_)
              obtain ⟨u23, u24⟩ := w31
              have hP : va_P G.1 vwCl (wM G ad nw u23 er us un od li u24 lm hs) H := hP
              have hD : va_D A (wM G ad nw u23 er us un od li u24 lm hs) := hD
              try dsimp only at h
              refine lv_aload_n hx hb dX6_addTerm_81 rfl (lv_at hl 0 rfl) ?_
              refine va_get (D := G.1) (ci := 6) (v := .ref (ad 1)) (C := RX6) (T := TX6) (N := 10) hx hb hts hinX6 hown hK.1 hP 0 rfl rfl 0 (by decide) (hts (.fieldLink RX6 7 "PlaFolderModel" "now" "[I") (by decide +kernel)) (fun _ h9 => h9) rfl dX6_addTerm_82 ?_
              refine lv_iconst (v := (nI 2)) hx hb dX6_addTerm_85 (by decide) ?_
              refine x_iald hx hb hK hP 1 rfl (vin_c (by decide)) (k := 2) (by decide) dX6_addTerm_86 ?_
              refine lv_istore (lv' := [(4, .int (nw 2)), (0, .ref (ad 0)), (1, .int a1), (2, .int a2), (3, .int a3)]) hx hb dX6_addTerm_87 hl (by decide) rfl (fun ls hl => ?_)
              refine lv_aload_n hx hb dX6_addTerm_89 rfl (lv_at hl 1 rfl) ?_
              refine va_get (D := G.1) (ci := 6) (v := .ref (ad 1)) (C := RX6) (T := TX6) (N := 10) hx hb hts hinX6 hown hK.1 hP 0 rfl rfl 0 (by decide) (hts (.fieldLink RX6 7 "PlaFolderModel" "now" "[I") (by decide +kernel)) (fun _ h9 => h9) rfl dX6_addTerm_90 ?_
              refine lv_iconst (v := (nI 3)) hx hb dX6_addTerm_93 (by decide) ?_
              refine lv_iload hx hb dX6_addTerm_94 (lv_at hl 0 rfl) ?_
              refine lv_iadd hx hb dX6_addTerm_96 ?_
              refine lv_iload_n hx hb dX6_addTerm_97 rfl (lv_at hl 2 rfl) ?_
              obtain ⟨hi25, h⟩ := h
              refine x_iast hx hb hK hP hD hS 1 rfl hi25 rfl dX6_addTerm_98 (fun H locs hP hD hS => ?_)
              have hP : va_P G.1 vwCl (wM G ad (upd nw (((nI 3) + (nw 2)).toNatClampNeg) a1) u23 er us un od li u24 lm hs) H := hP
              have hD : va_D A (wM G ad (upd nw (((nI 3) + (nw 2)).toNatClampNeg) a1) u23 er us un od li u24 lm hs) := hD
              refine lv_aload_n hx hb dX6_addTerm_99 rfl (lv_at hl 1 rfl) ?_
              refine va_get (D := G.1) (ci := 6) (v := .ref (ad 1)) (C := RX6) (T := TX6) (N := 10) hx hb hts hinX6 hown hK.1 hP 0 rfl rfl 0 (by decide) (hts (.fieldLink RX6 7 "PlaFolderModel" "now" "[I") (by decide +kernel)) (fun _ h9 => h9) rfl dX6_addTerm_100 ?_
              refine lv_bipush (v := (nI 13)) hx hb dX6_addTerm_103 (by decide) ?_
              refine lv_iload hx hb dX6_addTerm_105 (lv_at hl 0 rfl) ?_
              refine lv_iadd hx hb dX6_addTerm_107 ?_
              refine lv_iload_n hx hb dX6_addTerm_108 rfl (lv_at hl 3 rfl) ?_
              obtain ⟨hi26, h⟩ := h
              refine x_iast hx hb hK hP hD hS 1 rfl hi26 rfl dX6_addTerm_109 (fun H locs hP hD hS => ?_)
              have hP : va_P G.1 vwCl (wM G ad (upd (upd nw (((nI 3) + (nw 2)).toNatClampNeg) a1) (((nI 13) + (nw 2)).toNatClampNeg) a2) u23 er us un od li u24 lm hs) H := hP
              have hD : va_D A (wM G ad (upd (upd nw (((nI 3) + (nw 2)).toNatClampNeg) a1) (((nI 13) + (nw 2)).toNatClampNeg) a2) u23 er us un od li u24 lm hs) := hD
              refine lv_aload_n hx hb dX6_addTerm_110 rfl (lv_at hl 1 rfl) ?_
              refine va_get (D := G.1) (ci := 6) (v := .ref (ad 1)) (C := RX6) (T := TX6) (N := 10) hx hb hts hinX6 hown hK.1 hP 0 rfl rfl 0 (by decide) (hts (.fieldLink RX6 7 "PlaFolderModel" "now" "[I") (by decide +kernel)) (fun _ h9 => h9) rfl dX6_addTerm_111 ?_
              refine lv_bipush (v := (nI 23)) hx hb dX6_addTerm_114 (by decide) ?_
              refine lv_iload hx hb dX6_addTerm_116 (lv_at hl 0 rfl) ?_
              refine lv_iadd hx hb dX6_addTerm_118 ?_
              refine lv_iload_n hx hb dX6_addTerm_119 rfl (lv_at hl 4 rfl) ?_
              obtain ⟨hi27, h⟩ := h
              refine x_iast hx hb hK hP hD hS 1 rfl hi27 rfl dX6_addTerm_120 (fun H locs hP hD hS => ?_)
              have hP : va_P G.1 vwCl (wM G ad (upd (upd (upd nw (((nI 3) + (nw 2)).toNatClampNeg) a1) (((nI 13) + (nw 2)).toNatClampNeg) a2) (((nI 23) + (nw 2)).toNatClampNeg) a3) u23 er us un od li u24 lm hs) H := hP
              have hD : va_D A (wM G ad (upd (upd (upd nw (((nI 3) + (nw 2)).toNatClampNeg) a1) (((nI 13) + (nw 2)).toNatClampNeg) a2) (((nI 23) + (nw 2)).toNatClampNeg) a3) u23 er us un od li u24 lm hs) := hD
              refine lv_aload_n hx hb dX6_addTerm_121 rfl (lv_at hl 1 rfl) ?_
              refine va_get (D := G.1) (ci := 6) (v := .ref (ad 1)) (C := RX6) (T := TX6) (N := 10) hx hb hts hinX6 hown hK.1 hP 0 rfl rfl 0 (by decide) (hts (.fieldLink RX6 7 "PlaFolderModel" "now" "[I") (by decide +kernel)) (fun _ h9 => h9) rfl dX6_addTerm_122 ?_
              refine lv_iconst (v := (nI 2)) hx hb dX6_addTerm_125 (by decide) ?_
              refine lv_dup2_11 hx hb dX6_addTerm_126 rfl rfl ?_
              refine x_iald hx hb hK hP 1 rfl (vin_c (by decide)) (k := 2) (by decide) dX6_addTerm_127 ?_
              refine lv_iconst (v := (1 : Int32)) hx hb dX6_addTerm_128 (by decide) ?_
              refine lv_iadd hx hb dX6_addTerm_129 ?_
              refine x_iast hx hb hK hP hD hS 1 rfl (vin_c (by decide)) (k := 2) (by decide) dX6_addTerm_130 (fun H locs hP hD hS => ?_)
              have hP : va_P G.1 vwCl (wM G ad (upd (upd (upd (upd nw (((nI 3) + (nw 2)).toNatClampNeg) a1) (((nI 13) + (nw 2)).toNatClampNeg) a2) (((nI 23) + (nw 2)).toNatClampNeg) a3) 2 (((upd (upd (upd nw (((nI 3) + (nw 2)).toNatClampNeg) a1) (((nI 13) + (nw 2)).toNatClampNeg) a2) (((nI 23) + (nw 2)).toNatClampNeg) a3) 2) + (1 : Int32))) u23 er us un od li u24 lm hs) H := hP
              have hD : va_D A (wM G ad (upd (upd (upd (upd nw (((nI 3) + (nw 2)).toNatClampNeg) a1) (((nI 13) + (nw 2)).toNatClampNeg) a2) (((nI 23) + (nw 2)).toNatClampNeg) a3) 2 (((upd (upd (upd nw (((nI 3) + (nw 2)).toNatClampNeg) a1) (((nI 13) + (nw 2)).toNatClampNeg) a2) (((nI 23) + (nw 2)).toNatClampNeg) a3) 2) + (1 : Int32))) u23 er us un od li u24 lm hs) := hD
              refine lv_aload_n hx hb dX6_addTerm_131 rfl (lv_at hl 1 rfl) ?_
              refine kc_v (wr := ([] : va_W)) (va_runV (As := []) (rest := []) ⟨hx, hb, hml, hown, hts⟩ (c_X6_noFolds l G ad _ (upd (upd (upd (upd nw (((nI 3) + (nw 2)).toNatClampNeg) a1) (((nI 13) + (nw 2)).toNatClampNeg) a2) (((nI 23) + (nw 2)).toNatClampNeg) a3) 2 (((upd (upd (upd nw (((nI 3) + (nw 2)).toNatClampNeg) a1) (((nI 13) + (nw 2)).toNatClampNeg) a2) (((nI 23) + (nw 2)).toNatClampNeg) a3) 2) + (1 : Int32))) u23 er us un od li u24 lm hs  h) (cwV 0 hts gX6_addTerm_X6_noFolds rfl rfl rfl (by decide +kernel) ⟨Nat.le_of_ble_eq_true rfl, Nat.le_of_ble_eq_true rfl⟩) (kpV hK hP hD hZ hS hA [0, 1, 2, 3, 4, 5, 6, 7] rfl (by decide) (q0 := 0) (ci := 6) rfl rfl) rfl rfl hl.1 rfl (lv_room (Nat.le_of_ble_eq_true rfl)) dX6_addTerm_132 ⟨Nat.zero_le _, Nat.zero_le _⟩) hP hD hS hA [0, 1, 2, 3, 4, 5, 6, 7] [] rfl rfl (by decide) (by decide) (fun w30 H locs h hP hD hS => ?_)
              obtain ⟨u29, rfl⟩ : ∃ z, z = w30 := ⟨_, rfl⟩
              have hP : va_P G.1 vwCl (wM G ad u29 u23 er us un od li u24 lm hs) H := hP
              have hD : va_D A (wM G ad u29 u23 er us un od li u24 lm hs) := hD
              try dsimp only at h
              refine lv_iload hx hb dX6_addTerm_135 (lv_at hl 0 rfl) ?_
              exact W.iret hx hb hr (fun t ht hW => ⟨⟨_, (u29, u23, er, u24), rfl, h, by rw [ht]; exact hP, hD⟩, hS.F ht⟩) hS.2.2 dX6_addTerm_137
            · have h := h.2 c_21
              refine lv_aload_n hx hb dX6_addTerm_70 rfl (lv_at hl 0 rfl) ?_
              refine lv_bipush (v := (-5 : Int32)) hx hb dX6_addTerm_71 (by decide) ?_
              refine kc_i (wr := ([] : va_W)) (va_runV (As := [.int (-5 : Int32)]) (rest := []) ⟨hx, hb, hml, hown, hts⟩ (c_X6_error l G ad _ nw ps er us un od li st lm hs (-5 : Int32) h) (cwV 1 hts gX6_addTerm_X6_error rfl rfl rfl (by decide +kernel) ⟨Nat.le_of_ble_eq_true rfl, Nat.le_of_ble_eq_true rfl⟩) (kpV hK hP hD hZ hS hA [0, 1, 2, 3, 4, 5, 6, 7] rfl (by decide) (q0 := 0) (ci := 6) rfl rfl) rfl rfl hl.1 rfl (lv_room (Nat.le_of_ble_eq_true rfl)) dX6_addTerm_73 ⟨Nat.zero_le _, Nat.zero_le _⟩) hP hD hS hA [0, 1, 2, 3, 4, 5, 6, 7] [] rfl rfl (by decide) (by decide) (fun r32 w34 H locs h hP hD hS => ?_)
              obtain ⟨u33, rfl⟩ : ∃ z, z = w34 := ⟨_, rfl⟩
              have hP : va_P G.1 vwCl (wM G ad nw ps u33 us un od li st lm hs) H := hP
              have hD : va_D A (wM G ad nw ps u33 us un od li st lm hs) := hD
              try dsimp only at h
              exact W.iret hx hb hr (fun t ht hW => ⟨⟨_, (nw, ps, u33, st), rfl, h, by rw [ht]; exact hP, hD⟩, hS.F ht⟩) hS.2.2 dX6_addTerm_76
          · have h := h.2 c_20
            refine lv_aload_n hx hb dX6_addTerm_52 rfl (lv_at hl 0 rfl) ?_
            refine lv_bipush (v := (-2 : Int32)) hx hb dX6_addTerm_53 (by decide) ?_
            refine kc_i (wr := ([] : va_W)) (va_runV (As := [.int (-2 : Int32)]) (rest := []) ⟨hx, hb, hml, hown, hts⟩ (c_X6_error l G ad _ nw ps er us un od li st lm hs (-2 : Int32) h) (cwV 1 hts gX6_addTerm_X6_error rfl rfl rfl (by decide +kernel) ⟨Nat.le_of_ble_eq_true rfl, Nat.le_of_ble_eq_true rfl⟩) (kpV hK hP hD hZ hS hA [0, 1, 2, 3, 4, 5, 6, 7] rfl (by decide) (q0 := 0) (ci := 6) rfl rfl) rfl rfl hl.1 rfl (lv_room (Nat.le_of_ble_eq_true rfl)) dX6_addTerm_55 ⟨Nat.zero_le _, Nat.zero_le _⟩) hP hD hS hA [0, 1, 2, 3, 4, 5, 6, 7] [] rfl rfl (by decide) (by decide) (fun r35 w37 H locs h hP hD hS => ?_)
            obtain ⟨u36, rfl⟩ : ∃ z, z = w37 := ⟨_, rfl⟩
            have hP : va_P G.1 vwCl (wM G ad nw ps u36 us un od li st lm hs) H := hP
            have hD : va_D A (wM G ad nw ps u36 us un od li st lm hs) := hD
            try dsimp only at h
            exact W.iret hx hb hr (fun t ht hW => ⟨⟨_, (nw, ps, u36, st), rfl, h, by rw [ht]; exact hP, hD⟩, hS.F ht⟩) hS.2.2 dX6_addTerm_58
def wp_X6_drop (a1 : Int32) (nw : Nat → Int32) (K : (Nat → Int32) → Prop) : Prop :=
 (Lp2 a1 (upd nw 2 ((nw 2) - (1 : Int32))) (fun (x1 : Int32) (z2 : Nat → Int32) (J6 : Int32 → (Nat → Int32) → Prop) => (((z2 2) ≤ x1 → wp_X6_noFolds z2 (fun (u11 : Nat → Int32) => K u11)) ∧
 (¬ ((z2 2) ≤ x1) → (vp_in (((nI 3) + x1) + (1 : Int32)) 53 ∧ (vp_in ((nI 3) + x1) 53 ∧ (vp_in (((nI 13) + x1) + (1 : Int32)) 53 ∧ (vp_in ((nI 13) + x1) 53 ∧ (vp_in (((nI 23) + x1) + (1 : Int32)) 53 ∧ (vp_in ((nI 23) + x1) 53 ∧ J6 (x1 + (1 : Int32)) (upd (upd (upd z2 (((nI 3) + x1).toNatClampNeg) (z2 (((nI 3) + x1) + (1 : Int32)).toNatClampNeg)) (((nI 13) + x1).toNatClampNeg) ((upd z2 (((nI 3) + x1).toNatClampNeg) (z2 (((nI 3) + x1) + (1 : Int32)).toNatClampNeg)) (((nI 13) + x1) + (1 : Int32)).toNatClampNeg)) (((nI 23) + x1).toNatClampNeg) ((upd (upd z2 (((nI 3) + x1).toNatClampNeg) (z2 (((nI 3) + x1) + (1 : Int32)).toNatClampNeg)) (((nI 13) + x1).toNatClampNeg) ((upd z2 (((nI 3) + x1).toNatClampNeg) (z2 (((nI 3) + x1) + (1 : Int32)).toNatClampNeg)) (((nI 13) + x1) + (1 : Int32)).toNatClampNeg)) (((nI 23) + x1) + (1 : Int32)).toNatClampNeg))))))))))))
abbrev rm_X6_drop : Room := { frames := 1, cells := 0, slots := 0, locals := 21 }
set_option maxHeartbeats 4000000 in
set_option maxRecDepth 100000 in
theorem c_X6_drop (l : Launch) (G : GG) (ad : Nat → Nat) (sz : Nat) (nw : Nat → Int32) (ps : Nat → Int32) (er : Nat → Int32) (us : Nat → Int32) (un : Nat → Int32) (od : Nat → Int32) (li : Nat → Int32) (st : Int32) (lm : Int32) (hs : Int64) (a1 : Int32) {K : (Nat → Int32) → Prop} (h : wp_X6_drop a1 nw K) : CV l yX6_drop wsX6_drop rm_X6_drop G [.ref (ad 0), .int a1] (wM G ad nw ps er us un od li st lm hs) sz (fun u : (Nat → Int32) => wM G ad u ps er us un od li st lm hs) (fun u => K u) := by
  refine Met.ofW (cc := cX6_drop) (maxL := 3) (ret := none) (by decide) rfl ?_
  intro p e s m args below meth c s₁ B hml hv
  obtain ⟨rfl, hsz, hP, hK, hD0, hZ⟩ := hv
  have hx := B.exec
  have hb := B.bytes
  have hr := B.returns
  have hts := atoms_spec (ws := wsX6_drop) B.pre
  have hown : s.vm.findClass RX6 = some m.cls := findClass_of_methodNamed B.named
  have hlocks := B.notSynchronized
  subst hsz
  have hD := hD0.self (sz := s.heap.size)
  generalize hAe : va_A (wM G ad nw ps er us un od li st lm hs) s.heap.size = A at hD hZ ⊢
  have hA : ∀ q : Nat, s.heap.size ≤ q → A q := fun q h => by rw [← hAe]; exact Or.inr h
  have hS : va_S A s.heap s.heap [] := va_S.rf
  have hl := lv_entry ([.ref (ad 0), .int a1]) (n := 3) (Nat.le_of_ble_eq_true rfl)
  rw [lg_entry_eq]
  generalize (lg_sl ([.ref (ad 0), .int a1]) ++ List.replicate (3 - (lg_sl ([.ref (ad 0), .int a1])).length) Slot.unset).toArray = ls at hl ⊢
  have hl : lv_has ls 3 [(0, .ref (ad 0)), (1, .int a1)] := hl
  unfold wp_X6_drop at h
  have hinX6 : ∀ w ∈ wsX60, w ∈ wsX6_drop := by decide +kernel
  refine lv_aload_n hx hb dX6_drop_0 rfl (lv_at hl 0 rfl) ?_
  refine va_get (D := G.1) (ci := 6) (v := .ref (ad 1)) (C := RX6) (T := TX6) (N := 10) hx hb hts hinX6 hown hK.1 hP 0 rfl rfl 0 (by decide) (hts (.fieldLink RX6 7 "PlaFolderModel" "now" "[I") (by decide +kernel)) (fun _ h9 => h9) rfl dX6_drop_1 ?_
  refine lv_iconst (v := (nI 2)) hx hb dX6_drop_4 (by decide) ?_
  refine lv_dup2_11 hx hb dX6_drop_5 rfl rfl ?_
  refine x_iald hx hb hK hP 1 rfl (vin_c (by decide)) (k := 2) (by decide) dX6_drop_6 ?_
  refine lv_iconst (v := (1 : Int32)) hx hb dX6_drop_7 (by decide) ?_
  refine lv_isub hx hb dX6_drop_8 ?_
  refine x_iast hx hb hK hP hD hS 1 rfl (vin_c (by decide)) (k := 2) (by decide) dX6_drop_9 (fun H locs hP hD hS => ?_)
  have hP : va_P G.1 vwCl (wM G ad (upd nw 2 ((nw 2) - (1 : Int32))) ps er us un od li st lm hs) H := hP
  have hD : va_D A (wM G ad (upd nw 2 ((nw 2) - (1 : Int32))) ps er us un od li st lm hs) := hD
  refine lv_iload_n hx hb dX6_drop_10 rfl (lv_at hl 1 rfl) ?_
  refine lv_istore_n (lv' := [(2, .int a1), (0, .ref (ad 0)), (1, .int a1)]) hx hb dX6_drop_11 rfl hl (by decide) rfl (fun ls hl => ?_)
  obtain ⟨I3, n4, h0, hst5⟩ := h
  refine loopW (σ := Int32 × (Nat → Int32)) (P := fun q H locs ls => va_P G.1 vwCl (wM G ad q.2 ps er us un od li st lm hs) H ∧ va_D A (wM G ad q.2 ps er us un od li st lm hs) ∧ va_S A s.heap H locs ∧ lv_has ls 3 [(0, .ref (ad 0)), (2, .int q.1)]) (I := fun n q => I3 n q.1 q.2) n4 (a1, (upd nw 2 ((nw 2) - (1 : Int32)))) h0 _ _ _ ⟨hP, hD, hS, lv_sub hl [1, 0] rfl⟩ ?_
  rintro n8 ⟨x1, z2⟩ hI ih7 H locs ls ⟨hP, hD, hS, hl⟩
  have hP : va_P G.1 vwCl (wM G ad z2 ps er us un od li st lm hs) H := hP
  have hD : va_D A (wM G ad z2 ps er us un od li st lm hs) := hD
  have hl : lv_has ls 3 [(0, .ref (ad 0)), (2, .int x1)] := hl
  have h := hst5 n8 x1 z2 hI
  refine lv_iload_n hx hb dX6_drop_12 rfl (lv_at hl 1 rfl) ?_
  refine lv_aload_n hx hb dX6_drop_13 rfl (lv_at hl 0 rfl) ?_
  refine va_get (D := G.1) (ci := 6) (v := .ref (ad 1)) (C := RX6) (T := TX6) (N := 10) hx hb hts hinX6 hown hK.1 hP 0 rfl rfl 0 (by decide) (hts (.fieldLink RX6 7 "PlaFolderModel" "now" "[I") (by decide +kernel)) (fun _ h9 => h9) rfl dX6_drop_14 ?_
  refine lv_iconst (v := (nI 2)) hx hb dX6_drop_17 (by decide) ?_
  refine x_iald hx hb hK hP 1 rfl (vin_c (by decide)) (k := 2) (by decide) dX6_drop_18 ?_
  refine lv_icmp_ge (tgt := 86) hx hb dX6_drop_19 (by decide) (fun c_9 => ?_) (fun c_9 => ?_)
  · have h := h.1 c_9
    refine lv_aload_n hx hb dX6_drop_86 rfl (lv_at hl 0 rfl) ?_
    refine kc_v (wr := ([] : va_W)) (va_runV (As := []) (rest := []) ⟨hx, hb, hml, hown, hts⟩ (c_X6_noFolds l G ad _ z2 ps er us un od li st lm hs  h) (cwV 0 hts gX6_drop_X6_noFolds rfl rfl rfl (by decide +kernel) ⟨Nat.le_of_ble_eq_true rfl, Nat.le_of_ble_eq_true rfl⟩) (kpV hK hP hD hZ hS hA [0, 1, 2, 3, 4, 5, 6, 7] rfl (by decide) (q0 := 0) (ci := 6) rfl rfl) rfl rfl hl.1 rfl (lv_room (Nat.le_of_ble_eq_true rfl)) dX6_drop_87 ⟨Nat.zero_le _, Nat.zero_le _⟩) hP hD hS hA [0, 1, 2, 3, 4, 5, 6, 7] [] rfl rfl (by decide) (by decide) (fun w12 H locs h hP hD hS => ?_)
    obtain ⟨u11, rfl⟩ : ∃ z, z = w12 := ⟨_, rfl⟩
    have hP : va_P G.1 vwCl (wM G ad u11 ps er us un od li st lm hs) H := hP
    have hD : va_D A (wM G ad u11 ps er us un od li st lm hs) := hD
    try dsimp only at h
    exact W.vret hx hb hr (fun t ht hW => ⟨⟨u11, rfl, h, by rw [ht]; exact hP, hD⟩, hS.F ht⟩) hS.2.2 dX6_drop_90
  · have h := h.2 c_9
    refine lv_aload_n hx hb dX6_drop_22 rfl (lv_at hl 0 rfl) ?_
    refine va_get (D := G.1) (ci := 6) (v := .ref (ad 1)) (C := RX6) (T := TX6) (N := 10) hx hb hts hinX6 hown hK.1 hP 0 rfl rfl 0 (by decide) (hts (.fieldLink RX6 7 "PlaFolderModel" "now" "[I") (by decide +kernel)) (fun _ h9 => h9) rfl dX6_drop_23 ?_
    refine lv_iconst (v := (nI 3)) hx hb dX6_drop_26 (by decide) ?_
    refine lv_iload_n hx hb dX6_drop_27 rfl (lv_at hl 1 rfl) ?_
    refine lv_iadd hx hb dX6_drop_28 ?_
    refine lv_aload_n hx hb dX6_drop_29 rfl (lv_at hl 0 rfl) ?_
    refine va_get (D := G.1) (ci := 6) (v := .ref (ad 1)) (C := RX6) (T := TX6) (N := 10) hx hb hts hinX6 hown hK.1 hP 0 rfl rfl 0 (by decide) (hts (.fieldLink RX6 7 "PlaFolderModel" "now" "[I") (by decide +kernel)) (fun _ h9 => h9) rfl dX6_drop_30 ?_
    refine lv_iconst (v := (nI 3)) hx hb dX6_drop_33 (by decide) ?_
    refine lv_iload_n hx hb dX6_drop_34 rfl (lv_at hl 1 rfl) ?_
    refine lv_iadd hx hb dX6_drop_35 ?_
    refine lv_iconst (v := (1 : Int32)) hx hb dX6_drop_36 (by decide) ?_
    refine lv_iadd hx hb dX6_drop_37 ?_
    obtain ⟨hi13, h⟩ := h
    refine x_iald hx hb hK hP 1 rfl hi13 rfl dX6_drop_38 ?_
    obtain ⟨hi14, h⟩ := h
    refine x_iast hx hb hK hP hD hS 1 rfl hi14 rfl dX6_drop_39 (fun H locs hP hD hS => ?_)
    have hP : va_P G.1 vwCl (wM G ad (upd z2 (((nI 3) + x1).toNatClampNeg) (z2 (((nI 3) + x1) + (1 : Int32)).toNatClampNeg)) ps er us un od li st lm hs) H := hP
    have hD : va_D A (wM G ad (upd z2 (((nI 3) + x1).toNatClampNeg) (z2 (((nI 3) + x1) + (1 : Int32)).toNatClampNeg)) ps er us un od li st lm hs) := hD
    refine lv_aload_n hx hb dX6_drop_40 rfl (lv_at hl 0 rfl) ?_
    refine va_get (D := G.1) (ci := 6) (v := .ref (ad 1)) (C := RX6) (T := TX6) (N := 10) hx hb hts hinX6 hown hK.1 hP 0 rfl rfl 0 (by decide) (hts (.fieldLink RX6 7 "PlaFolderModel" "now" "[I") (by decide +kernel)) (fun _ h9 => h9) rfl dX6_drop_41 ?_
    refine lv_bipush (v := (nI 13)) hx hb dX6_drop_44 (by decide) ?_
    refine lv_iload_n hx hb dX6_drop_46 rfl (lv_at hl 1 rfl) ?_
    refine lv_iadd hx hb dX6_drop_47 ?_
    refine lv_aload_n hx hb dX6_drop_48 rfl (lv_at hl 0 rfl) ?_
    refine va_get (D := G.1) (ci := 6) (v := .ref (ad 1)) (C := RX6) (T := TX6) (N := 10) hx hb hts hinX6 hown hK.1 hP 0 rfl rfl 0 (by decide) (hts (.fieldLink RX6 7 "PlaFolderModel" "now" "[I") (by decide +kernel)) (fun _ h9 => h9) rfl dX6_drop_49 ?_
    refine lv_bipush (v := (nI 13)) hx hb dX6_drop_52 (by decide) ?_
    refine lv_iload_n hx hb dX6_drop_54 rfl (lv_at hl 1 rfl) ?_
    refine lv_iadd hx hb dX6_drop_55 ?_
    refine lv_iconst (v := (1 : Int32)) hx hb dX6_drop_56 (by decide) ?_
    refine lv_iadd hx hb dX6_drop_57 ?_
    obtain ⟨hi15, h⟩ := h
    refine x_iald hx hb hK hP 1 rfl hi15 rfl dX6_drop_58 ?_
    obtain ⟨hi16, h⟩ := h
    refine x_iast hx hb hK hP hD hS 1 rfl hi16 rfl dX6_drop_59 (fun H locs hP hD hS => ?_)
    have hP : va_P G.1 vwCl (wM G ad (upd (upd z2 (((nI 3) + x1).toNatClampNeg) (z2 (((nI 3) + x1) + (1 : Int32)).toNatClampNeg)) (((nI 13) + x1).toNatClampNeg) ((upd z2 (((nI 3) + x1).toNatClampNeg) (z2 (((nI 3) + x1) + (1 : Int32)).toNatClampNeg)) (((nI 13) + x1) + (1 : Int32)).toNatClampNeg)) ps er us un od li st lm hs) H := hP
    have hD : va_D A (wM G ad (upd (upd z2 (((nI 3) + x1).toNatClampNeg) (z2 (((nI 3) + x1) + (1 : Int32)).toNatClampNeg)) (((nI 13) + x1).toNatClampNeg) ((upd z2 (((nI 3) + x1).toNatClampNeg) (z2 (((nI 3) + x1) + (1 : Int32)).toNatClampNeg)) (((nI 13) + x1) + (1 : Int32)).toNatClampNeg)) ps er us un od li st lm hs) := hD
    refine lv_aload_n hx hb dX6_drop_60 rfl (lv_at hl 0 rfl) ?_
    refine va_get (D := G.1) (ci := 6) (v := .ref (ad 1)) (C := RX6) (T := TX6) (N := 10) hx hb hts hinX6 hown hK.1 hP 0 rfl rfl 0 (by decide) (hts (.fieldLink RX6 7 "PlaFolderModel" "now" "[I") (by decide +kernel)) (fun _ h9 => h9) rfl dX6_drop_61 ?_
    refine lv_bipush (v := (nI 23)) hx hb dX6_drop_64 (by decide) ?_
    refine lv_iload_n hx hb dX6_drop_66 rfl (lv_at hl 1 rfl) ?_
    refine lv_iadd hx hb dX6_drop_67 ?_
    refine lv_aload_n hx hb dX6_drop_68 rfl (lv_at hl 0 rfl) ?_
    refine va_get (D := G.1) (ci := 6) (v := .ref (ad 1)) (C := RX6) (T := TX6) (N := 10) hx hb hts hinX6 hown hK.1 hP 0 rfl rfl 0 (by decide) (hts (.fieldLink RX6 7 "PlaFolderModel" "now" "[I") (by decide +kernel)) (fun _ h9 => h9) rfl dX6_drop_69 ?_
    refine lv_bipush (v := (nI 23)) hx hb dX6_drop_72 (by decide) ?_
    refine lv_iload_n hx hb dX6_drop_74 rfl (lv_at hl 1 rfl) ?_
    refine lv_iadd hx hb dX6_drop_75 ?_
    refine lv_iconst (v := (1 : Int32)) hx hb dX6_drop_76 (by decide) ?_
    refine lv_iadd hx hb dX6_drop_77 ?_
    obtain ⟨hi17, h⟩ := h
    refine x_iald hx hb hK hP 1 rfl hi17 rfl dX6_drop_78 ?_
    obtain ⟨hi18, h⟩ := h
    refine x_iast hx hb hK hP hD hS 1 rfl hi18 rfl dX6_drop_79 (fun H locs hP hD hS => ?_)
    have hP : va_P G.1 vwCl (wM G ad (upd (upd (upd z2 (((nI 3) + x1).toNatClampNeg) (z2 (((nI 3) + x1) + (1 : Int32)).toNatClampNeg)) (((nI 13) + x1).toNatClampNeg) ((upd z2 (((nI 3) + x1).toNatClampNeg) (z2 (((nI 3) + x1) + (1 : Int32)).toNatClampNeg)) (((nI 13) + x1) + (1 : Int32)).toNatClampNeg)) (((nI 23) + x1).toNatClampNeg) ((upd (upd z2 (((nI 3) + x1).toNatClampNeg) (z2 (((nI 3) + x1) + (1 : Int32)).toNatClampNeg)) (((nI 13) + x1).toNatClampNeg) ((upd z2 (((nI 3) + x1).toNatClampNeg) (z2 (((nI 3) + x1) + (1 : Int32)).toNatClampNeg)) (((nI 13) + x1) + (1 : Int32)).toNatClampNeg)) (((nI 23) + x1) + (1 : Int32)).toNatClampNeg)) ps er us un od li st lm hs) H := hP
    have hD : va_D A (wM G ad (upd (upd (upd z2 (((nI 3) + x1).toNatClampNeg) (z2 (((nI 3) + x1) + (1 : Int32)).toNatClampNeg)) (((nI 13) + x1).toNatClampNeg) ((upd z2 (((nI 3) + x1).toNatClampNeg) (z2 (((nI 3) + x1) + (1 : Int32)).toNatClampNeg)) (((nI 13) + x1) + (1 : Int32)).toNatClampNeg)) (((nI 23) + x1).toNatClampNeg) ((upd (upd z2 (((nI 3) + x1).toNatClampNeg) (z2 (((nI 3) + x1) + (1 : Int32)).toNatClampNeg)) (((nI 13) + x1).toNatClampNeg) ((upd z2 (((nI 3) + x1).toNatClampNeg) (z2 (((nI 3) + x1) + (1 : Int32)).toNatClampNeg)) (((nI 13) + x1) + (1 : Int32)).toNatClampNeg)) (((nI 23) + x1) + (1 : Int32)).toNatClampNeg)) ps er us un od li st lm hs) := hD
    refine lv_iinc (v := (x1 + (1 : Int32))) (lv' := [(2, .int (x1 + (1 : Int32))), (0, .ref (ad 0))]) hx hb dX6_drop_80 hl (k := 1) rfl rfl (by decide) rfl (fun ls hl => ?_)
    refine lv_goto (tgt := 12) hx hb dX6_drop_83 (by decide) ?_
    obtain ⟨n20, hn19, hI21⟩ := h
    exact ih7 n20 ((x1 + (1 : Int32)), (upd (upd (upd z2 (((nI 3) + x1).toNatClampNeg) (z2 (((nI 3) + x1) + (1 : Int32)).toNatClampNeg)) (((nI 13) + x1).toNatClampNeg) ((upd z2 (((nI 3) + x1).toNatClampNeg) (z2 (((nI 3) + x1) + (1 : Int32)).toNatClampNeg)) (((nI 13) + x1) + (1 : Int32)).toNatClampNeg)) (((nI 23) + x1).toNatClampNeg) ((upd (upd z2 (((nI 3) + x1).toNatClampNeg) (z2 (((nI 3) + x1) + (1 : Int32)).toNatClampNeg)) (((nI 13) + x1).toNatClampNeg) ((upd z2 (((nI 3) + x1).toNatClampNeg) (z2 (((nI 3) + x1) + (1 : Int32)).toNatClampNeg)) (((nI 13) + x1) + (1 : Int32)).toNatClampNeg)) (((nI 23) + x1) + (1 : Int32)).toNatClampNeg))) hn19 hI21 _ _ _ ⟨hP, hD, hS, lv_sub hl [1, 0] rfl⟩
def wp_X6_removeTerm (a1 : Int32) (nw : Nat → Int32) (ps : Nat → Int32) (er : Nat → Int32) (st : Int32) (K : Int32 → (Nat → Int32) → (Nat → Int32) → (Nat → Int32) → Int32 → Prop) : Prop :=
 wp_X6_isTerm a1 nw (fun (r1 : Int32) => ((¬ r1 = 0 → wp_X6_save nw ps st (fun (u4 : Nat → Int32) (u5 : Int32) => wp_X6_drop a1 nw (fun (u7 : Nat → Int32) => K (u7 2) u7 u4 er u5))) ∧
 (r1 = 0 → wp_X6_error (-2 : Int32) er (fun (r10 : Int32) (u11 : Nat → Int32) => K r10 nw ps u11 st))))
abbrev rm_X6_removeTerm : Room := { frames := 2, cells := 0, slots := 0, locals := 43 }
set_option maxHeartbeats 4000000 in
set_option maxRecDepth 100000 in
theorem c_X6_removeTerm (l : Launch) (G : GG) (ad : Nat → Nat) (sz : Nat) (nw : Nat → Int32) (ps : Nat → Int32) (er : Nat → Int32) (us : Nat → Int32) (un : Nat → Int32) (od : Nat → Int32) (li : Nat → Int32) (st : Int32) (lm : Int32) (hs : Int64) (a1 : Int32) {K : Int32 → (Nat → Int32) → (Nat → Int32) → (Nat → Int32) → Int32 → Prop} (h : wp_X6_removeTerm a1 nw ps er st K) : CI l yX6_removeTerm wsX6_removeTerm rm_X6_removeTerm G [.ref (ad 0), .int a1] (wM G ad nw ps er us un od li st lm hs) sz (fun u : (Nat → Int32) × (Nat → Int32) × (Nat → Int32) × Int32 => wM G ad u.1 u.2.1 u.2.2.1 us un od li u.2.2.2 lm hs) (fun r u => K r u.1 u.2.1 u.2.2.1 u.2.2.2) := by
  refine Met.ofW (cc := cX6_removeTerm) (maxL := 2) (ret := (some .int)) (by decide) rfl ?_
  intro p e s m args below meth c s₁ B hml hv
  obtain ⟨rfl, hsz, hP, hK, hD0, hZ⟩ := hv
  have hx := B.exec
  have hb := B.bytes
  have hr := B.returns
  have hts := atoms_spec (ws := wsX6_removeTerm) B.pre
  have hown : s.vm.findClass RX6 = some m.cls := findClass_of_methodNamed B.named
  have hlocks := B.notSynchronized
  subst hsz
  have hD := hD0.self (sz := s.heap.size)
  generalize hAe : va_A (wM G ad nw ps er us un od li st lm hs) s.heap.size = A at hD hZ ⊢
  have hA : ∀ q : Nat, s.heap.size ≤ q → A q := fun q h => by rw [← hAe]; exact Or.inr h
  have hS : va_S A s.heap s.heap [] := va_S.rf
  have hl := lv_entry ([.ref (ad 0), .int a1]) (n := 2) (Nat.le_of_ble_eq_true rfl)
  rw [lg_entry_eq]
  generalize (lg_sl ([.ref (ad 0), .int a1]) ++ List.replicate (2 - (lg_sl ([.ref (ad 0), .int a1])).length) Slot.unset).toArray = ls at hl ⊢
  have hl : lv_has ls 2 [(0, .ref (ad 0)), (1, .int a1)] := hl
  unfold wp_X6_removeTerm at h
  have hinX6 : ∀ w ∈ wsX60, w ∈ wsX6_removeTerm := by decide +kernel
  refine lv_aload_n hx hb dX6_removeTerm_0 rfl (lv_at hl 0 rfl) ?_
  refine lv_iload_n hx hb dX6_removeTerm_1 rfl (lv_at hl 1 rfl) ?_
  refine kc_i (wr := ([] : va_W)) (va_runV (As := [.int a1]) (rest := []) ⟨hx, hb, hml, hown, hts⟩ (c_X6_isTerm l G ad _ nw ps er us un od li st lm hs a1 h) (cwV 1 hts gX6_removeTerm_X6_isTerm rfl rfl rfl (by decide +kernel) ⟨Nat.le_of_ble_eq_true rfl, Nat.le_of_ble_eq_true rfl⟩) (kpV hK hP hD hZ hS hA [0, 1, 2, 3, 4, 5, 6, 7] rfl (by decide) (q0 := 0) (ci := 6) rfl rfl) rfl rfl hl.1 rfl (lv_room (Nat.le_of_ble_eq_true rfl)) dX6_removeTerm_2 ⟨Nat.zero_le _, Nat.zero_le _⟩) hP hD hS hA [0, 1, 2, 3, 4, 5, 6, 7] [] rfl rfl (by decide) (by decide) (fun r1 w13 H locs h hP hD hS => ?_)
  have hP : va_P G.1 vwCl (wM G ad nw ps er us un od li st lm hs) H := hP
  have hD : va_D A (wM G ad nw ps er us un od li st lm hs) := hD
  try dsimp only at h
  refine lv_if_ne (tgt := 15) hx hb dX6_removeTerm_5 (by decide) (fun c_2 => ?_) (fun c_2 => ?_)
  · have h := h.1 c_2
    refine lv_aload_n hx hb dX6_removeTerm_15 rfl (lv_at hl 0 rfl) ?_
    refine kc_v (wr := ([] : va_W)) (va_runV (As := []) (rest := []) ⟨hx, hb, hml, hown, hts⟩ (c_X6_save l G ad _ nw ps er us un od li st lm hs  h) (cwV 0 hts gX6_removeTerm_X6_save rfl rfl rfl (by decide +kernel) ⟨Nat.le_of_ble_eq_true rfl, Nat.le_of_ble_eq_true rfl⟩) (kpV hK hP hD hZ hS hA [0, 1, 2, 3, 4, 5, 6, 7] rfl (by decide) (q0 := 0) (ci := 6) rfl rfl) rfl rfl hl.1 rfl (lv_room (Nat.le_of_ble_eq_true rfl)) dX6_removeTerm_16 ⟨Nat.zero_le _, Nat.zero_le _⟩) hP hD hS hA [0, 1, 2, 3, 4, 5, 6, 7] [] rfl rfl (by decide) (by decide) (fun w9 H locs h hP hD hS => ?_)
    obtain ⟨u4, u5⟩ := w9
    have hP : va_P G.1 vwCl (wM G ad nw u4 er us un od li u5 lm hs) H := hP
    have hD : va_D A (wM G ad nw u4 er us un od li u5 lm hs) := hD
    try dsimp only at h
    refine lv_aload_n hx hb dX6_removeTerm_19 rfl (lv_at hl 0 rfl) ?_
    refine lv_iload_n hx hb dX6_removeTerm_20 rfl (lv_at hl 1 rfl) ?_
    refine kc_v (wr := ([] : va_W)) (va_runV (As := [.int a1]) (rest := []) ⟨hx, hb, hml, hown, hts⟩ (c_X6_drop l G ad _ nw u4 er us un od li u5 lm hs a1 h) (cwV 1 hts gX6_removeTerm_X6_drop rfl rfl rfl (by decide +kernel) ⟨Nat.le_of_ble_eq_true rfl, Nat.le_of_ble_eq_true rfl⟩) (kpV hK hP hD hZ hS hA [0, 1, 2, 3, 4, 5, 6, 7] rfl (by decide) (q0 := 0) (ci := 6) rfl rfl) rfl rfl hl.1 rfl (lv_room (Nat.le_of_ble_eq_true rfl)) dX6_removeTerm_21 ⟨Nat.zero_le _, Nat.zero_le _⟩) hP hD hS hA [0, 1, 2, 3, 4, 5, 6, 7] [] rfl rfl (by decide) (by decide) (fun w8 H locs h hP hD hS => ?_)
    obtain ⟨u7, rfl⟩ : ∃ z, z = w8 := ⟨_, rfl⟩
    have hP : va_P G.1 vwCl (wM G ad u7 u4 er us un od li u5 lm hs) H := hP
    have hD : va_D A (wM G ad u7 u4 er us un od li u5 lm hs) := hD
    try dsimp only at h
    refine lv_aload_n hx hb dX6_removeTerm_24 rfl (lv_at hl 0 rfl) ?_
    refine va_get (D := G.1) (ci := 6) (v := .ref (ad 1)) (C := RX6) (T := TX6) (N := 10) hx hb hts hinX6 hown hK.1 hP 0 rfl rfl 0 (by decide) (hts (.fieldLink RX6 7 "PlaFolderModel" "now" "[I") (by decide +kernel)) (fun _ h9 => h9) rfl dX6_removeTerm_25 ?_
    refine lv_iconst (v := (nI 2)) hx hb dX6_removeTerm_28 (by decide) ?_
    refine x_iald hx hb hK hP 1 rfl (vin_c (by decide)) (k := 2) (by decide) dX6_removeTerm_29 ?_
    exact W.iret hx hb hr (fun t ht hW => ⟨⟨_, (u7, u4, er, u5), rfl, h, by rw [ht]; exact hP, hD⟩, hS.F ht⟩) hS.2.2 dX6_removeTerm_30
  · have h := h.2 c_2
    refine lv_aload_n hx hb dX6_removeTerm_8 rfl (lv_at hl 0 rfl) ?_
    refine lv_bipush (v := (-2 : Int32)) hx hb dX6_removeTerm_9 (by decide) ?_
    refine kc_i (wr := ([] : va_W)) (va_runV (As := [.int (-2 : Int32)]) (rest := []) ⟨hx, hb, hml, hown, hts⟩ (c_X6_error l G ad _ nw ps er us un od li st lm hs (-2 : Int32) h) (cwV 1 hts gX6_removeTerm_X6_error rfl rfl rfl (by decide +kernel) ⟨Nat.le_of_ble_eq_true rfl, Nat.le_of_ble_eq_true rfl⟩) (kpV hK hP hD hZ hS hA [0, 1, 2, 3, 4, 5, 6, 7] rfl (by decide) (q0 := 0) (ci := 6) rfl rfl) rfl rfl hl.1 rfl (lv_room (Nat.le_of_ble_eq_true rfl)) dX6_removeTerm_11 ⟨Nat.zero_le _, Nat.zero_le _⟩) hP hD hS hA [0, 1, 2, 3, 4, 5, 6, 7] [] rfl rfl (by decide) (by decide) (fun r10 w12 H locs h hP hD hS => ?_)
    obtain ⟨u11, rfl⟩ : ∃ z, z = w12 := ⟨_, rfl⟩
    have hP : va_P G.1 vwCl (wM G ad nw ps u11 us un od li st lm hs) H := hP
    have hD : va_D A (wM G ad nw ps u11 us un od li st lm hs) := hD
    try dsimp only at h
    exact W.iret hx hb hr (fun t ht hW => ⟨⟨_, (nw, ps, u11, st), rfl, h, by rw [ht]; exact hP, hD⟩, hS.F ht⟩) hS.2.2 dX6_removeTerm_14
def wp_X6_terms (nw : Nat → Int32) (K : Int32 → Prop) : Prop :=
 K (nw 2)
abbrev rm_X6_terms : Room := { frames := 0, cells := 0, slots := 0, locals := 0 }
set_option maxHeartbeats 4000000 in
set_option maxRecDepth 100000 in
theorem c_X6_terms (l : Launch) (G : GG) (ad : Nat → Nat) (sz : Nat) (nw : Nat → Int32) (ps : Nat → Int32) (er : Nat → Int32) (us : Nat → Int32) (un : Nat → Int32) (od : Nat → Int32) (li : Nat → Int32) (st : Int32) (lm : Int32) (hs : Int64) {K : Int32 → Prop} (h : wp_X6_terms nw K) : CI l yX6_terms wsX6_terms rm_X6_terms G [.ref (ad 0)] (wM G ad nw ps er us un od li st lm hs) sz (fun u : Unit => wM G ad nw ps er us un od li st lm hs) (fun r u => K r ) := by
  refine Met.ofW (cc := cX6_terms) (maxL := 1) (ret := (some .int)) (by decide) rfl ?_
  intro p e s m args below meth c s₁ B hml hv
  obtain ⟨rfl, hsz, hP, hK, hD0, hZ⟩ := hv
  have hx := B.exec
  have hb := B.bytes
  have hr := B.returns
  have hts := atoms_spec (ws := wsX6_terms) B.pre
  have hown : s.vm.findClass RX6 = some m.cls := findClass_of_methodNamed B.named
  have hlocks := B.notSynchronized
  subst hsz
  have hD := hD0.self (sz := s.heap.size)
  generalize hAe : va_A (wM G ad nw ps er us un od li st lm hs) s.heap.size = A at hD hZ ⊢
  have hA : ∀ q : Nat, s.heap.size ≤ q → A q := fun q h => by rw [← hAe]; exact Or.inr h
  have hS : va_S A s.heap s.heap [] := va_S.rf
  have hl := lv_entry ([.ref (ad 0)]) (n := 1) (Nat.le_of_ble_eq_true rfl)
  rw [lg_entry_eq]
  generalize (lg_sl ([.ref (ad 0)]) ++ List.replicate (1 - (lg_sl ([.ref (ad 0)])).length) Slot.unset).toArray = ls at hl ⊢
  have hl : lv_has ls 1 [(0, .ref (ad 0))] := hl
  unfold wp_X6_terms at h
  have hinX6 : ∀ w ∈ wsX60, w ∈ wsX6_terms := by decide +kernel
  refine lv_aload_n hx hb dX6_terms_0 rfl (lv_at hl 0 rfl) ?_
  refine va_get (D := G.1) (ci := 6) (v := .ref (ad 1)) (C := RX6) (T := TX6) (N := 10) hx hb hts hinX6 hown hK.1 hP 0 rfl rfl 0 (by decide) (hts (.fieldLink RX6 7 "PlaFolderModel" "now" "[I") (by decide +kernel)) (fun _ h9 => h9) rfl dX6_terms_1 ?_
  refine lv_iconst (v := (nI 2)) hx hb dX6_terms_4 (by decide) ?_
  refine x_iald hx hb hK hP 1 rfl (vin_c (by decide)) (k := 2) (by decide) dX6_terms_5 ?_
  exact W.iret hx hb hr (fun t ht hW => ⟨⟨_, (), rfl, h, by rw [ht]; exact hP, hD⟩, hS.F ht⟩) hS.2.2 dX6_terms_6
def wp_X6_literals (a1 : Int32) (nw : Nat → Int32) (er : Nat → Int32) (K : Int32 → (Nat → Int32) → Prop) : Prop :=
 wp_X6_isTerm a1 nw (fun (r1 : Int32) => ((r1 = 0 → wp_X6_error (-2 : Int32) er (fun (r3 : Int32) (u4 : Nat → Int32) => K r3 u4)) ∧
 (¬ (r1 = 0) → (vp_in ((nI 3) + a1) 53 ∧ (vp_in ((nI 13) + a1) 53 ∧ wp_X6_many ((nw ((nI 3) + a1).toNatClampNeg) ||| (nw ((nI 13) + a1).toNatClampNeg)) (fun (r8 : Int32) => K r8 er))))))
abbrev rm_X6_literals : Room := { frames := 2, cells := 0, slots := 0, locals := 43 }
set_option maxHeartbeats 4000000 in
set_option maxRecDepth 100000 in
theorem c_X6_literals (l : Launch) (G : GG) (ad : Nat → Nat) (sz : Nat) (nw : Nat → Int32) (ps : Nat → Int32) (er : Nat → Int32) (us : Nat → Int32) (un : Nat → Int32) (od : Nat → Int32) (li : Nat → Int32) (st : Int32) (lm : Int32) (hs : Int64) (a1 : Int32) {K : Int32 → (Nat → Int32) → Prop} (h : wp_X6_literals a1 nw er K) : CI l yX6_literals wsX6_literals rm_X6_literals G [.ref (ad 0), .int a1] (wM G ad nw ps er us un od li st lm hs) sz (fun u : (Nat → Int32) => wM G ad nw ps u us un od li st lm hs) (fun r u => K r u) := by
  refine Met.ofW (cc := cX6_literals) (maxL := 2) (ret := (some .int)) (by decide) rfl ?_
  intro p e s m args below meth c s₁ B hml hv
  obtain ⟨rfl, hsz, hP, hK, hD0, hZ⟩ := hv
  have hx := B.exec
  have hb := B.bytes
  have hr := B.returns
  have hts := atoms_spec (ws := wsX6_literals) B.pre
  have hown : s.vm.findClass RX6 = some m.cls := findClass_of_methodNamed B.named
  have hlocks := B.notSynchronized
  subst hsz
  have hD := hD0.self (sz := s.heap.size)
  generalize hAe : va_A (wM G ad nw ps er us un od li st lm hs) s.heap.size = A at hD hZ ⊢
  have hA : ∀ q : Nat, s.heap.size ≤ q → A q := fun q h => by rw [← hAe]; exact Or.inr h
  have hS : va_S A s.heap s.heap [] := va_S.rf
  have hl := lv_entry ([.ref (ad 0), .int a1]) (n := 2) (Nat.le_of_ble_eq_true rfl)
  rw [lg_entry_eq]
  generalize (lg_sl ([.ref (ad 0), .int a1]) ++ List.replicate (2 - (lg_sl ([.ref (ad 0), .int a1])).length) Slot.unset).toArray = ls at hl ⊢
  have hl : lv_has ls 2 [(0, .ref (ad 0)), (1, .int a1)] := hl
  unfold wp_X6_literals at h
  have hinX6 : ∀ w ∈ wsX60, w ∈ wsX6_literals := by decide +kernel
  refine lv_aload_n hx hb dX6_literals_0 rfl (lv_at hl 0 rfl) ?_
  refine lv_iload_n hx hb dX6_literals_1 rfl (lv_at hl 1 rfl) ?_
  refine kc_i (wr := ([] : va_W)) (va_runV (As := [.int a1]) (rest := []) ⟨hx, hb, hml, hown, hts⟩ (c_X6_isTerm l G ad _ nw ps er us un od li st lm hs a1 h) (cwV 1 hts gX6_literals_X6_isTerm rfl rfl rfl (by decide +kernel) ⟨Nat.le_of_ble_eq_true rfl, Nat.le_of_ble_eq_true rfl⟩) (kpV hK hP hD hZ hS hA [0, 1, 2, 3, 4, 5, 6, 7] rfl (by decide) (q0 := 0) (ci := 6) rfl rfl) rfl rfl hl.1 rfl (lv_room (Nat.le_of_ble_eq_true rfl)) dX6_literals_2 ⟨Nat.zero_le _, Nat.zero_le _⟩) hP hD hS hA [0, 1, 2, 3, 4, 5, 6, 7] [] rfl rfl (by decide) (by decide) (fun r1 w10 H locs h hP hD hS => ?_)
  have hP : va_P G.1 vwCl (wM G ad nw ps er us un od li st lm hs) H := hP
  have hD : va_D A (wM G ad nw ps er us un od li st lm hs) := hD
  try dsimp only at h
  refine lv_if_eq (tgt := 32) hx hb dX6_literals_5 (by decide) (fun c_2 => ?_) (fun c_2 => ?_)
  · have h := h.1 c_2
    refine lv_aload_n hx hb dX6_literals_32 rfl (lv_at hl 0 rfl) ?_
    refine lv_bipush (v := (-2 : Int32)) hx hb dX6_literals_33 (by decide) ?_
    refine kc_i (wr := ([] : va_W)) (va_runV (As := [.int (-2 : Int32)]) (rest := []) ⟨hx, hb, hml, hown, hts⟩ (c_X6_error l G ad _ nw ps er us un od li st lm hs (-2 : Int32) h) (cwV 1 hts gX6_literals_X6_error rfl rfl rfl (by decide +kernel) ⟨Nat.le_of_ble_eq_true rfl, Nat.le_of_ble_eq_true rfl⟩) (kpV hK hP hD hZ hS hA [0, 1, 2, 3, 4, 5, 6, 7] rfl (by decide) (q0 := 0) (ci := 6) rfl rfl) rfl rfl hl.1 rfl (lv_room (Nat.le_of_ble_eq_true rfl)) dX6_literals_35 ⟨Nat.zero_le _, Nat.zero_le _⟩) hP hD hS hA [0, 1, 2, 3, 4, 5, 6, 7] [] rfl rfl (by decide) (by decide) (fun r3 w5 H locs h hP hD hS => ?_)
    obtain ⟨u4, rfl⟩ : ∃ z, z = w5 := ⟨_, rfl⟩
    have hP : va_P G.1 vwCl (wM G ad nw ps u4 us un od li st lm hs) H := hP
    have hD : va_D A (wM G ad nw ps u4 us un od li st lm hs) := hD
    try dsimp only at h
    exact W.iret hx hb hr (fun t ht hW => ⟨⟨_, u4, rfl, h, by rw [ht]; exact hP, hD⟩, hS.F ht⟩) hS.2.2 dX6_literals_38
  · have h := h.2 c_2
    refine lv_aload_n hx hb dX6_literals_8 rfl (lv_at hl 0 rfl) ?_
    refine va_get (D := G.1) (ci := 6) (v := .ref (ad 1)) (C := RX6) (T := TX6) (N := 10) hx hb hts hinX6 hown hK.1 hP 0 rfl rfl 0 (by decide) (hts (.fieldLink RX6 7 "PlaFolderModel" "now" "[I") (by decide +kernel)) (fun _ h9 => h9) rfl dX6_literals_9 ?_
    refine lv_iconst (v := (nI 3)) hx hb dX6_literals_12 (by decide) ?_
    refine lv_iload_n hx hb dX6_literals_13 rfl (lv_at hl 1 rfl) ?_
    refine lv_iadd hx hb dX6_literals_14 ?_
    obtain ⟨hi6, h⟩ := h
    refine x_iald hx hb hK hP 1 rfl hi6 rfl dX6_literals_15 ?_
    refine lv_aload_n hx hb dX6_literals_16 rfl (lv_at hl 0 rfl) ?_
    refine va_get (D := G.1) (ci := 6) (v := .ref (ad 1)) (C := RX6) (T := TX6) (N := 10) hx hb hts hinX6 hown hK.1 hP 0 rfl rfl 0 (by decide) (hts (.fieldLink RX6 7 "PlaFolderModel" "now" "[I") (by decide +kernel)) (fun _ h9 => h9) rfl dX6_literals_17 ?_
    refine lv_bipush (v := (nI 13)) hx hb dX6_literals_20 (by decide) ?_
    refine lv_iload_n hx hb dX6_literals_22 rfl (lv_at hl 1 rfl) ?_
    refine lv_iadd hx hb dX6_literals_23 ?_
    obtain ⟨hi7, h⟩ := h
    refine x_iald hx hb hK hP 1 rfl hi7 rfl dX6_literals_24 ?_
    refine lv_ior hx hb dX6_literals_25 ?_
    refine kc_i (wr := ([0, 1, 2, 3, 4, 5, 6, 7] : List Nat).filterMap (fun i => (wM G ad nw ps er us un od li st lm hs)[i]?)) (va_runS (As := [.int ((nw ((nI 3) + a1).toNatClampNeg) ||| (nw ((nI 13) + a1).toNatClampNeg))]) (rest := []) ⟨hx, hb, hml, hown, hts⟩ (c_X6_many l G  _  ((nw ((nI 3) + a1).toNatClampNeg) ||| (nw ((nI 13) + a1).toNatClampNeg)) h) (va_cwS 1 hts gX6_literals_X6_many rfl rfl rfl (by decide +kernel) ⟨Nat.le_of_ble_eq_true rfl, Nat.le_of_ble_eq_true rfl⟩) (kpS hK hP hD hZ hS hA [] rfl (by decide)) rfl rfl hl.1 rfl (lv_room (Nat.le_of_ble_eq_true rfl)) dX6_literals_26 ⟨Nat.zero_le _, Nat.zero_le _⟩) hP hD hS hA [] [0, 1, 2, 3, 4, 5, 6, 7] rfl rfl (by decide) (by decide) (fun r8 w9 H locs h hP hD hS => ?_)
    have hP : va_P G.1 vwCl (wM G ad nw ps er us un od li st lm hs) H := hP
    have hD : va_D A (wM G ad nw ps er us un od li st lm hs) := hD
    try dsimp only at h
    refine lv_goto (tgt := 38) hx hb dX6_literals_29 (by decide) ?_
    exact W.iret hx hb hr (fun t ht hW => ⟨⟨_, er, rfl, h, by rw [ht]; exact hP, hD⟩, hS.F ht⟩) hS.2.2 dX6_literals_38
def wp_X6_outputs (a1 : Int32) (a2 : Int32) (nw : Nat → Int32) (K : Int32 → Prop) : Prop :=
 (Lp2 (0 : Int32) (0 : Int32) (fun (x1 : Int32) (x2 : Int32) (J6 : Int32 → Int32 → Prop) => (((nw 2) ≤ x2 → K x1) ∧
 (¬ ((nw 2) ≤ x2) → (Jn1 (fun (y11 : Int32) => (Jn1 (fun (y15 : Int32) => J6 (x1 ||| y15) (x2 + (1 : Int32)))
 (fun (J16 : Int32 → Prop) => ((y11 = 0 → J16 (0 : Int32)) ∧
 (¬ (y11 = 0) → (vp_in ((nI 23) + x2) 53 ∧ J16 (nw ((nI 23) + x2).toNatClampNeg)))))))
 (fun (J12 : Int32 → Prop) => ((x2 = a2 → J12 (0 : Int32)) ∧
 (¬ (x2 = a2) → (vp_in ((nI 3) + x2) 53 ∧ (vp_in ((nI 3) + x2) 53 ∧ ((¬ (a1 &&& (nw ((nI 3) + x2).toNatClampNeg)) = (nw ((nI 3) + x2).toNatClampNeg) → J12 (0 : Int32)) ∧
 ((a1 &&& (nw ((nI 3) + x2).toNatClampNeg)) = (nw ((nI 3) + x2).toNatClampNeg) → (vp_in ((nI 13) + x2) 53 ∧ ((¬ (a1 &&& (nw ((nI 13) + x2).toNatClampNeg)) = 0 → J12 (0 : Int32)) ∧
 ((a1 &&& (nw ((nI 13) + x2).toNatClampNeg)) = 0 → J12 (1 : Int32))))))))))))))))
abbrev rm_X6_outputs : Room := { frames := 0, cells := 0, slots := 0, locals := 0 }
set_option maxHeartbeats 4000000 in
set_option maxRecDepth 100000 in
theorem c_X6_outputs (l : Launch) (G : GG) (ad : Nat → Nat) (sz : Nat) (nw : Nat → Int32) (ps : Nat → Int32) (er : Nat → Int32) (us : Nat → Int32) (un : Nat → Int32) (od : Nat → Int32) (li : Nat → Int32) (st : Int32) (lm : Int32) (hs : Int64) (a1 : Int32) (a2 : Int32) {K : Int32 → Prop} (h : wp_X6_outputs a1 a2 nw K) : CI l yX6_outputs wsX6_outputs rm_X6_outputs G [.ref (ad 0), .int a1, .int a2] (wM G ad nw ps er us un od li st lm hs) sz (fun u : Unit => wM G ad nw ps er us un od li st lm hs) (fun r u => K r ) := by
  refine Met.ofW (cc := cX6_outputs) (maxL := 6) (ret := (some .int)) (by decide) rfl ?_
  intro p e s m args below meth c s₁ B hml hv
  obtain ⟨rfl, hsz, hP, hK, hD0, hZ⟩ := hv
  have hx := B.exec
  have hb := B.bytes
  have hr := B.returns
  have hts := atoms_spec (ws := wsX6_outputs) B.pre
  have hown : s.vm.findClass RX6 = some m.cls := findClass_of_methodNamed B.named
  have hlocks := B.notSynchronized
  subst hsz
  have hD := hD0.self (sz := s.heap.size)
  generalize hAe : va_A (wM G ad nw ps er us un od li st lm hs) s.heap.size = A at hD hZ ⊢
  have hA : ∀ q : Nat, s.heap.size ≤ q → A q := fun q h => by rw [← hAe]; exact Or.inr h
  have hS : va_S A s.heap s.heap [] := va_S.rf
  have hl := lv_entry ([.ref (ad 0), .int a1, .int a2]) (n := 6) (Nat.le_of_ble_eq_true rfl)
  rw [lg_entry_eq]
  generalize (lg_sl ([.ref (ad 0), .int a1, .int a2]) ++ List.replicate (6 - (lg_sl ([.ref (ad 0), .int a1, .int a2])).length) Slot.unset).toArray = ls at hl ⊢
  have hl : lv_has ls 6 [(0, .ref (ad 0)), (1, .int a1), (2, .int a2)] := hl
  unfold wp_X6_outputs at h
  have hinX6 : ∀ w ∈ wsX60, w ∈ wsX6_outputs := by decide +kernel
  refine lv_iconst (v := (0 : Int32)) hx hb dX6_outputs_0 (by decide) ?_
  refine lv_istore_n (lv' := [(3, .int (0 : Int32)), (0, .ref (ad 0)), (1, .int a1), (2, .int a2)]) hx hb dX6_outputs_1 rfl hl (by decide) rfl (fun ls hl => ?_)
  refine lv_iconst (v := (0 : Int32)) hx hb dX6_outputs_2 (by decide) ?_
  refine lv_istore (lv' := [(4, .int (0 : Int32)), (3, .int (0 : Int32)), (0, .ref (ad 0)), (1, .int a1), (2, .int a2)]) hx hb dX6_outputs_3 hl (by decide) rfl (fun ls hl => ?_)
  obtain ⟨I3, n4, h0, hst5⟩ := h
  refine loopW (σ := Int32 × Int32) (P := fun q H locs ls => va_P G.1 vwCl (wM G ad nw ps er us un od li st lm hs) H ∧ va_D A (wM G ad nw ps er us un od li st lm hs) ∧ va_S A s.heap H locs ∧ lv_has ls 6 [(0, .ref (ad 0)), (1, .int a1), (2, .int a2), (3, .int q.1), (4, .int q.2)]) (I := fun n q => I3 n q.1 q.2) n4 ((0 : Int32), (0 : Int32)) h0 _ _ _ ⟨hP, hD, hS, lv_sub hl [2, 3, 4, 1, 0] rfl⟩ ?_
  rintro n8 ⟨x1, x2⟩ hI ih7 H locs ls ⟨hP, hD, hS, hl⟩
  have hP : va_P G.1 vwCl (wM G ad nw ps er us un od li st lm hs) H := hP
  have hD : va_D A (wM G ad nw ps er us un od li st lm hs) := hD
  have hl : lv_has ls 6 [(0, .ref (ad 0)), (1, .int a1), (2, .int a2), (3, .int x1), (4, .int x2)] := hl
  have h := hst5 n8 x1 x2 hI
  refine lv_iload hx hb dX6_outputs_5 (lv_at hl 4 rfl) ?_
  refine lv_aload_n hx hb dX6_outputs_7 rfl (lv_at hl 0 rfl) ?_
  refine va_get (D := G.1) (ci := 6) (v := .ref (ad 1)) (C := RX6) (T := TX6) (N := 10) hx hb hts hinX6 hown hK.1 hP 0 rfl rfl 0 (by decide) (hts (.fieldLink RX6 7 "PlaFolderModel" "now" "[I") (by decide +kernel)) (fun _ h9 => h9) rfl dX6_outputs_8 ?_
  refine lv_iconst (v := (nI 2)) hx hb dX6_outputs_11 (by decide) ?_
  refine x_iald hx hb hK hP 1 rfl (vin_c (by decide)) (k := 2) (by decide) dX6_outputs_12 ?_
  refine lv_icmp_ge (tgt := 95) hx hb dX6_outputs_13 (by decide) (fun c_9 => ?_) (fun c_9 => ?_)
  · have h := h.1 c_9
    refine lv_iload_n hx hb dX6_outputs_95 rfl (lv_at hl 3 rfl) ?_
    exact W.iret hx hb hr (fun t ht hW => ⟨⟨_, (), rfl, h, by rw [ht]; exact hP, hD⟩, hS.F ht⟩) hS.2.2 dX6_outputs_96
  · have h := h.2 c_9
    refine lv_iload hx hb dX6_outputs_16 (lv_at hl 4 rfl) ?_
    refine lv_iload_n hx hb dX6_outputs_18 rfl (lv_at hl 2 rfl) ?_
    obtain ⟨J12, hJ28, h⟩ := h
    refine joinW (σ := Int32) (J := fun q => J12 q) (pc := 65) (st := fun q => .int q :: []) (P := fun q H locs ls => va_P G.1 vwCl (wM G ad nw ps er us un od li st lm hs) H ∧ va_D A (wM G ad nw ps er us un od li st lm hs) ∧ va_S A s.heap H locs ∧ lv_has ls 6 [(0, .ref (ad 0)), (1, .int a1), (2, .int a2), (3, .int x1), (4, .int x2)]) ?_ (fun join13 => ?_)
    · rintro y11 h H locs ls ⟨hP, hD, hS, hl⟩
      have hP : va_P G.1 vwCl (wM G ad nw ps er us un od li st lm hs) H := hP
      have hD : va_D A (wM G ad nw ps er us un od li st lm hs) := hD
      have hl : lv_has ls 6 [(0, .ref (ad 0)), (1, .int a1), (2, .int a2), (3, .int x1), (4, .int x2)] := hl
      have h := hJ28 y11 h
      refine W.eq (g2 := F0 m 65 ls (.int y11 :: [])) rfl ?_
      refine lv_istore (lv' := [(5, .int y11), (0, .ref (ad 0)), (1, .int a1), (2, .int a2), (3, .int x1), (4, .int x2)]) hx hb dX6_outputs_65 hl (by decide) rfl (fun ls hl => ?_)
      refine lv_iload_n hx hb dX6_outputs_67 rfl (lv_at hl 4 rfl) ?_
      refine lv_iload hx hb dX6_outputs_68 (lv_at hl 0 rfl) ?_
      obtain ⟨J16, hJ22, h⟩ := h
      refine joinW (σ := Int32) (J := fun q => J16 q) (pc := 87) (st := fun q => .int q :: .int x1 :: []) (P := fun q H locs ls => va_P G.1 vwCl (wM G ad nw ps er us un od li st lm hs) H ∧ va_D A (wM G ad nw ps er us un od li st lm hs) ∧ va_S A s.heap H locs ∧ lv_has ls 6 [(0, .ref (ad 0)), (1, .int a1), (2, .int a2), (4, .int x2)]) ?_ (fun join17 => ?_)
      · rintro y15 h H locs ls ⟨hP, hD, hS, hl⟩
        have hP : va_P G.1 vwCl (wM G ad nw ps er us un od li st lm hs) H := hP
        have hD : va_D A (wM G ad nw ps er us un od li st lm hs) := hD
        have hl : lv_has ls 6 [(0, .ref (ad 0)), (1, .int a1), (2, .int a2), (4, .int x2)] := hl
        have h := hJ22 y15 h
        refine W.eq (g2 := F0 m 87 ls (.int y15 :: .int x1 :: [])) rfl ?_
        refine lv_ior hx hb dX6_outputs_87 ?_
        refine lv_istore_n (lv' := [(3, .int (x1 ||| y15)), (0, .ref (ad 0)), (1, .int a1), (2, .int a2), (4, .int x2)]) hx hb dX6_outputs_88 rfl hl (by decide) rfl (fun ls hl => ?_)
        refine lv_iinc (v := (x2 + (1 : Int32))) (lv' := [(4, .int (x2 + (1 : Int32))), (3, .int (x1 ||| y15)), (0, .ref (ad 0)), (1, .int a1), (2, .int a2)]) hx hb dX6_outputs_89 hl (k := 4) rfl rfl (by decide) rfl (fun ls hl => ?_)
        refine lv_goto (tgt := 5) hx hb dX6_outputs_92 (by decide) ?_
        obtain ⟨n19, hn18, hI20⟩ := h
        exact ih7 n19 ((x1 ||| y15), (x2 + (1 : Int32))) hn18 hI20 _ _ _ ⟨hP, hD, hS, lv_sub hl [2, 3, 4, 1, 0] rfl⟩
      · refine lv_if_eq (tgt := 86) hx hb dX6_outputs_70 (by decide) (fun c_14 => ?_) (fun c_14 => ?_)
        · have h := h.1 c_14
          refine lv_iconst (v := (0 : Int32)) hx hb dX6_outputs_86 (by decide) ?_
          exact join17 (0 : Int32) h _ _ _ ⟨hP, hD, hS, lv_sub hl [1, 2, 3, 5] rfl⟩
        · have h := h.2 c_14
          refine lv_aload_n hx hb dX6_outputs_73 rfl (lv_at hl 1 rfl) ?_
          refine va_get (D := G.1) (ci := 6) (v := .ref (ad 1)) (C := RX6) (T := TX6) (N := 10) hx hb hts hinX6 hown hK.1 hP 0 rfl rfl 0 (by decide) (hts (.fieldLink RX6 7 "PlaFolderModel" "now" "[I") (by decide +kernel)) (fun _ h9 => h9) rfl dX6_outputs_74 ?_
          refine lv_bipush (v := (nI 23)) hx hb dX6_outputs_77 (by decide) ?_
          refine lv_iload hx hb dX6_outputs_79 (lv_at hl 5 rfl) ?_
          refine lv_iadd hx hb dX6_outputs_81 ?_
          obtain ⟨hi21, h⟩ := h
          refine x_iald hx hb hK hP 1 rfl hi21 rfl dX6_outputs_82 ?_
          refine lv_goto (tgt := 87) hx hb dX6_outputs_83 (by decide) ?_
          exact join17 (nw ((nI 23) + x2).toNatClampNeg) h _ _ _ ⟨hP, hD, hS, lv_sub hl [1, 2, 3, 5] rfl⟩
    · refine lv_icmp_eq (tgt := 64) hx hb dX6_outputs_19 (by decide) (fun c_10 => ?_) (fun c_10 => ?_)
      · have h := h.1 c_10
        refine lv_iconst (v := (0 : Int32)) hx hb dX6_outputs_64 (by decide) ?_
        exact join13 (0 : Int32) h _ _ _ ⟨hP, hD, hS, lv_sub hl [0, 1, 2, 3, 4] rfl⟩
      · have h := h.2 c_10
        refine lv_iload_n hx hb dX6_outputs_22 rfl (lv_at hl 1 rfl) ?_
        refine lv_aload_n hx hb dX6_outputs_23 rfl (lv_at hl 0 rfl) ?_
        refine va_get (D := G.1) (ci := 6) (v := .ref (ad 1)) (C := RX6) (T := TX6) (N := 10) hx hb hts hinX6 hown hK.1 hP 0 rfl rfl 0 (by decide) (hts (.fieldLink RX6 7 "PlaFolderModel" "now" "[I") (by decide +kernel)) (fun _ h9 => h9) rfl dX6_outputs_24 ?_
        refine lv_iconst (v := (nI 3)) hx hb dX6_outputs_27 (by decide) ?_
        refine lv_iload hx hb dX6_outputs_28 (lv_at hl 4 rfl) ?_
        refine lv_iadd hx hb dX6_outputs_30 ?_
        obtain ⟨hi23, h⟩ := h
        refine x_iald hx hb hK hP 1 rfl hi23 rfl dX6_outputs_31 ?_
        refine lv_iand hx hb dX6_outputs_32 ?_
        refine lv_aload_n hx hb dX6_outputs_33 rfl (lv_at hl 0 rfl) ?_
        refine va_get (D := G.1) (ci := 6) (v := .ref (ad 1)) (C := RX6) (T := TX6) (N := 10) hx hb hts hinX6 hown hK.1 hP 0 rfl rfl 0 (by decide) (hts (.fieldLink RX6 7 "PlaFolderModel" "now" "[I") (by decide +kernel)) (fun _ h9 => h9) rfl dX6_outputs_34 ?_
        refine lv_iconst (v := (nI 3)) hx hb dX6_outputs_37 (by decide) ?_
        refine lv_iload hx hb dX6_outputs_38 (lv_at hl 4 rfl) ?_
        refine lv_iadd hx hb dX6_outputs_40 ?_
        obtain ⟨hi24, h⟩ := h
        refine x_iald hx hb hK hP 1 rfl hi24 rfl dX6_outputs_41 ?_
        refine lv_icmp_ne (tgt := 64) hx hb dX6_outputs_42 (by decide) (fun c_25 => ?_) (fun c_25 => ?_)
        · have h := h.1 c_25
          refine lv_iconst (v := (0 : Int32)) hx hb dX6_outputs_64 (by decide) ?_
          exact join13 (0 : Int32) h _ _ _ ⟨hP, hD, hS, lv_sub hl [0, 1, 2, 3, 4] rfl⟩
        · have h := h.2 c_25
          refine lv_iload_n hx hb dX6_outputs_45 rfl (lv_at hl 1 rfl) ?_
          refine lv_aload_n hx hb dX6_outputs_46 rfl (lv_at hl 0 rfl) ?_
          refine va_get (D := G.1) (ci := 6) (v := .ref (ad 1)) (C := RX6) (T := TX6) (N := 10) hx hb hts hinX6 hown hK.1 hP 0 rfl rfl 0 (by decide) (hts (.fieldLink RX6 7 "PlaFolderModel" "now" "[I") (by decide +kernel)) (fun _ h9 => h9) rfl dX6_outputs_47 ?_
          refine lv_bipush (v := (nI 13)) hx hb dX6_outputs_50 (by decide) ?_
          refine lv_iload hx hb dX6_outputs_52 (lv_at hl 4 rfl) ?_
          refine lv_iadd hx hb dX6_outputs_54 ?_
          obtain ⟨hi26, h⟩ := h
          refine x_iald hx hb hK hP 1 rfl hi26 rfl dX6_outputs_55 ?_
          refine lv_iand hx hb dX6_outputs_56 ?_
          refine lv_if_ne (tgt := 64) hx hb dX6_outputs_57 (by decide) (fun c_27 => ?_) (fun c_27 => ?_)
          · have h := h.1 c_27
            refine lv_iconst (v := (0 : Int32)) hx hb dX6_outputs_64 (by decide) ?_
            exact join13 (0 : Int32) h _ _ _ ⟨hP, hD, hS, lv_sub hl [0, 1, 2, 3, 4] rfl⟩
          · have h := h.2 c_27
            refine lv_iconst (v := (1 : Int32)) hx hb dX6_outputs_60 (by decide) ?_
            refine lv_goto (tgt := 65) hx hb dX6_outputs_61 (by decide) ?_
            exact join13 (1 : Int32) h _ _ _ ⟨hP, hD, hS, lv_sub hl [0, 1, 2, 3, 4] rfl⟩
def wp_X6_words (nw : Nat → Int32) (K : Int32 → Prop) : Prop :=
 K (jshl (1 : Int32) (nw 0))
abbrev rm_X6_words : Room := { frames := 0, cells := 0, slots := 0, locals := 0 }
set_option maxHeartbeats 4000000 in
set_option maxRecDepth 100000 in
theorem c_X6_words (l : Launch) (G : GG) (ad : Nat → Nat) (sz : Nat) (nw : Nat → Int32) (ps : Nat → Int32) (er : Nat → Int32) (us : Nat → Int32) (un : Nat → Int32) (od : Nat → Int32) (li : Nat → Int32) (st : Int32) (lm : Int32) (hs : Int64) {K : Int32 → Prop} (h : wp_X6_words nw K) : CI l yX6_words wsX6_words rm_X6_words G [.ref (ad 0)] (wM G ad nw ps er us un od li st lm hs) sz (fun u : Unit => wM G ad nw ps er us un od li st lm hs) (fun r u => K r ) := by
  refine Met.ofW (cc := cX6_words) (maxL := 1) (ret := (some .int)) (by decide) rfl ?_
  intro p e s m args below meth c s₁ B hml hv
  obtain ⟨rfl, hsz, hP, hK, hD0, hZ⟩ := hv
  have hx := B.exec
  have hb := B.bytes
  have hr := B.returns
  have hts := atoms_spec (ws := wsX6_words) B.pre
  have hown : s.vm.findClass RX6 = some m.cls := findClass_of_methodNamed B.named
  have hlocks := B.notSynchronized
  subst hsz
  have hD := hD0.self (sz := s.heap.size)
  generalize hAe : va_A (wM G ad nw ps er us un od li st lm hs) s.heap.size = A at hD hZ ⊢
  have hA : ∀ q : Nat, s.heap.size ≤ q → A q := fun q h => by rw [← hAe]; exact Or.inr h
  have hS : va_S A s.heap s.heap [] := va_S.rf
  have hl := lv_entry ([.ref (ad 0)]) (n := 1) (Nat.le_of_ble_eq_true rfl)
  rw [lg_entry_eq]
  generalize (lg_sl ([.ref (ad 0)]) ++ List.replicate (1 - (lg_sl ([.ref (ad 0)])).length) Slot.unset).toArray = ls at hl ⊢
  have hl : lv_has ls 1 [(0, .ref (ad 0))] := hl
  unfold wp_X6_words at h
  have hinX6 : ∀ w ∈ wsX60, w ∈ wsX6_words := by decide +kernel
  refine lv_iconst (v := (1 : Int32)) hx hb dX6_words_0 (by decide) ?_
  refine lv_aload_n hx hb dX6_words_1 rfl (lv_at hl 0 rfl) ?_
  refine va_get (D := G.1) (ci := 6) (v := .ref (ad 1)) (C := RX6) (T := TX6) (N := 10) hx hb hts hinX6 hown hK.1 hP 0 rfl rfl 0 (by decide) (hts (.fieldLink RX6 7 "PlaFolderModel" "now" "[I") (by decide +kernel)) (fun _ h9 => h9) rfl dX6_words_2 ?_
  refine lv_iconst (v := (0 : Int32)) hx hb dX6_words_5 (by decide) ?_
  refine x_iald hx hb hK hP 1 rfl (vin_c (by decide)) (k := 0) (by decide) dX6_words_6 ?_
  refine lv_ishl hx hb dX6_words_7 ?_
  exact W.iret hx hb hr (fun t ht hW => ⟨⟨_, (), rfl, h, by rw [ht]; exact hP, hD⟩, hS.F ht⟩) hS.2.2 dX6_words_8
def wp_X6_evaluate (a1 : Int32) (nw : Nat → Int32) (er : Nat → Int32) (K : Int32 → (Nat → Int32) → Prop) : Prop :=
 wp_X6_words nw (fun (r1 : Int32) => wp_X6_in a1 (0 : Int32) (r1 - (1 : Int32)) (fun (r2 : Int32) => ((r2 = 0 → wp_X6_error (-2 : Int32) er (fun (r4 : Int32) (u5 : Nat → Int32) => K r4 u5)) ∧
 (¬ (r2 = 0) → wp_X6_outputs a1 (-1 : Int32) nw (fun (r7 : Int32) => K r7 er)))))
abbrev rm_X6_evaluate : Room := { frames := 1, cells := 0, slots := 0, locals := 25 }
set_option maxHeartbeats 4000000 in
set_option maxRecDepth 100000 in
theorem c_X6_evaluate (l : Launch) (G : GG) (ad : Nat → Nat) (sz : Nat) (nw : Nat → Int32) (ps : Nat → Int32) (er : Nat → Int32) (us : Nat → Int32) (un : Nat → Int32) (od : Nat → Int32) (li : Nat → Int32) (st : Int32) (lm : Int32) (hs : Int64) (a1 : Int32) {K : Int32 → (Nat → Int32) → Prop} (h : wp_X6_evaluate a1 nw er K) : CI l yX6_evaluate wsX6_evaluate rm_X6_evaluate G [.ref (ad 0), .int a1] (wM G ad nw ps er us un od li st lm hs) sz (fun u : (Nat → Int32) => wM G ad nw ps u us un od li st lm hs) (fun r u => K r u) := by
  refine Met.ofW (cc := cX6_evaluate) (maxL := 2) (ret := (some .int)) (by decide) rfl ?_
  intro p e s m args below meth c s₁ B hml hv
  obtain ⟨rfl, hsz, hP, hK, hD0, hZ⟩ := hv
  have hx := B.exec
  have hb := B.bytes
  have hr := B.returns
  have hts := atoms_spec (ws := wsX6_evaluate) B.pre
  have hown : s.vm.findClass RX6 = some m.cls := findClass_of_methodNamed B.named
  have hlocks := B.notSynchronized
  subst hsz
  have hD := hD0.self (sz := s.heap.size)
  generalize hAe : va_A (wM G ad nw ps er us un od li st lm hs) s.heap.size = A at hD hZ ⊢
  have hA : ∀ q : Nat, s.heap.size ≤ q → A q := fun q h => by rw [← hAe]; exact Or.inr h
  have hS : va_S A s.heap s.heap [] := va_S.rf
  have hl := lv_entry ([.ref (ad 0), .int a1]) (n := 2) (Nat.le_of_ble_eq_true rfl)
  rw [lg_entry_eq]
  generalize (lg_sl ([.ref (ad 0), .int a1]) ++ List.replicate (2 - (lg_sl ([.ref (ad 0), .int a1])).length) Slot.unset).toArray = ls at hl ⊢
  have hl : lv_has ls 2 [(0, .ref (ad 0)), (1, .int a1)] := hl
  unfold wp_X6_evaluate at h
  refine lv_iload_n hx hb dX6_evaluate_0 rfl (lv_at hl 1 rfl) ?_
  refine lv_iconst (v := (0 : Int32)) hx hb dX6_evaluate_1 (by decide) ?_
  refine lv_aload_n hx hb dX6_evaluate_2 rfl (lv_at hl 0 rfl) ?_
  refine kc_i (wr := ([] : va_W)) (va_runV (As := []) (rest := [.int (0 : Int32), .int a1]) ⟨hx, hb, hml, hown, hts⟩ (c_X6_words l G ad _ nw ps er us un od li st lm hs  h) (cwV 0 hts gX6_evaluate_X6_words rfl rfl rfl (by decide +kernel) ⟨Nat.le_of_ble_eq_true rfl, Nat.le_of_ble_eq_true rfl⟩) (kpV hK hP hD hZ hS hA [0, 1, 2, 3, 4, 5, 6, 7] rfl (by decide) (q0 := 0) (ci := 6) rfl rfl) rfl rfl hl.1 rfl (lv_room (Nat.le_of_ble_eq_true rfl)) dX6_evaluate_3 ⟨Nat.zero_le _, Nat.zero_le _⟩) hP hD hS hA [0, 1, 2, 3, 4, 5, 6, 7] [] rfl rfl (by decide) (by decide) (fun r1 w10 H locs h hP hD hS => ?_)
  have hP : va_P G.1 vwCl (wM G ad nw ps er us un od li st lm hs) H := hP
  have hD : va_D A (wM G ad nw ps er us un od li st lm hs) := hD
  try dsimp only at h
  refine lv_iconst (v := (1 : Int32)) hx hb dX6_evaluate_6 (by decide) ?_
  refine lv_isub hx hb dX6_evaluate_7 ?_
  refine kc_i (wr := ([0, 1, 2, 3, 4, 5, 6, 7] : List Nat).filterMap (fun i => (wM G ad nw ps er us un od li st lm hs)[i]?)) (va_runS (As := [.int a1, .int (0 : Int32), .int (r1 - (1 : Int32))]) (rest := []) ⟨hx, hb, hml, hown, hts⟩ (c_X6_in l G  _  a1 (0 : Int32) (r1 - (1 : Int32)) h) (va_cwS 3 hts gX6_evaluate_X6_in rfl rfl rfl (by decide +kernel) ⟨Nat.le_of_ble_eq_true rfl, Nat.le_of_ble_eq_true rfl⟩) (kpS hK hP hD hZ hS hA [] rfl (by decide)) rfl rfl hl.1 rfl (lv_room (Nat.le_of_ble_eq_true rfl)) dX6_evaluate_8 ⟨Nat.zero_le _, Nat.zero_le _⟩) hP hD hS hA [] [0, 1, 2, 3, 4, 5, 6, 7] rfl rfl (by decide) (by decide) (fun r2 w9 H locs h hP hD hS => ?_)
  have hP : va_P G.1 vwCl (wM G ad nw ps er us un od li st lm hs) H := hP
  have hD : va_D A (wM G ad nw ps er us un od li st lm hs) := hD
  try dsimp only at h
  refine lv_if_eq (tgt := 23) hx hb dX6_evaluate_11 (by decide) (fun c_3 => ?_) (fun c_3 => ?_)
  · have h := h.1 c_3
    refine lv_aload_n hx hb dX6_evaluate_23 rfl (lv_at hl 0 rfl) ?_
    refine lv_bipush (v := (-2 : Int32)) hx hb dX6_evaluate_24 (by decide) ?_
    refine kc_i (wr := ([] : va_W)) (va_runV (As := [.int (-2 : Int32)]) (rest := []) ⟨hx, hb, hml, hown, hts⟩ (c_X6_error l G ad _ nw ps er us un od li st lm hs (-2 : Int32) h) (cwV 1 hts gX6_evaluate_X6_error rfl rfl rfl (by decide +kernel) ⟨Nat.le_of_ble_eq_true rfl, Nat.le_of_ble_eq_true rfl⟩) (kpV hK hP hD hZ hS hA [0, 1, 2, 3, 4, 5, 6, 7] rfl (by decide) (q0 := 0) (ci := 6) rfl rfl) rfl rfl hl.1 rfl (lv_room (Nat.le_of_ble_eq_true rfl)) dX6_evaluate_26 ⟨Nat.zero_le _, Nat.zero_le _⟩) hP hD hS hA [0, 1, 2, 3, 4, 5, 6, 7] [] rfl rfl (by decide) (by decide) (fun r4 w6 H locs h hP hD hS => ?_)
    obtain ⟨u5, rfl⟩ : ∃ z, z = w6 := ⟨_, rfl⟩
    have hP : va_P G.1 vwCl (wM G ad nw ps u5 us un od li st lm hs) H := hP
    have hD : va_D A (wM G ad nw ps u5 us un od li st lm hs) := hD
    try dsimp only at h
    exact W.iret hx hb hr (fun t ht hW => ⟨⟨_, u5, rfl, h, by rw [ht]; exact hP, hD⟩, hS.F ht⟩) hS.2.2 dX6_evaluate_29
  · have h := h.2 c_3
    refine lv_aload_n hx hb dX6_evaluate_14 rfl (lv_at hl 0 rfl) ?_
    refine lv_iload_n hx hb dX6_evaluate_15 rfl (lv_at hl 1 rfl) ?_
    refine lv_iconst (v := (-1 : Int32)) hx hb dX6_evaluate_16 (by decide) ?_
    refine kc_i (wr := ([] : va_W)) (va_runV (As := [.int a1, .int (-1 : Int32)]) (rest := []) ⟨hx, hb, hml, hown, hts⟩ (c_X6_outputs l G ad _ nw ps er us un od li st lm hs a1 (-1 : Int32) h) (cwV 2 hts gX6_evaluate_X6_outputs rfl rfl rfl (by decide +kernel) ⟨Nat.le_of_ble_eq_true rfl, Nat.le_of_ble_eq_true rfl⟩) (kpV hK hP hD hZ hS hA [0, 1, 2, 3, 4, 5, 6, 7] rfl (by decide) (q0 := 0) (ci := 6) rfl rfl) rfl rfl hl.1 rfl (lv_room (Nat.le_of_ble_eq_true rfl)) dX6_evaluate_17 ⟨Nat.zero_le _, Nat.zero_le _⟩) hP hD hS hA [0, 1, 2, 3, 4, 5, 6, 7] [] rfl rfl (by decide) (by decide) (fun r7 w8 H locs h hP hD hS => ?_)
    have hP : va_P G.1 vwCl (wM G ad nw ps er us un od li st lm hs) H := hP
    have hD : va_D A (wM G ad nw ps er us un od li st lm hs) := hD
    try dsimp only at h
    refine lv_goto (tgt := 29) hx hb dX6_evaluate_20 (by decide) ?_
    exact W.iret hx hb hr (fun t ht hW => ⟨⟨_, er, rfl, h, by rw [ht]; exact hP, hD⟩, hS.F ht⟩) hS.2.2 dX6_evaluate_29
def wp_X6_onCount (a1 : Int32) (nw : Nat → Int32) (er : Nat → Int32) (K : Int32 → (Nat → Int32) → Prop) : Prop :=
 wp_X6_in a1 (0 : Int32) ((nw 1) - (1 : Int32)) (fun (r1 : Int32) => ((¬ r1 = 0 → (Lp2 (0 : Int32) (0 : Int32) (fun (x3 : Int32) (x4 : Int32) (J8 : Int32 → Int32 → Prop) => wp_X6_words nw (fun (r11 : Int32) => ((r11 ≤ x4 → K x3 er) ∧
 (¬ (r11 ≤ x4) → wp_X6_outputs x4 (-1 : Int32) nw (fun (r13 : Int32) => wp_X6_has r13 a1 (fun (r14 : Int32) => (Jn1 (fun (y16 : Int32) => J8 (x3 + y16) (x4 + (1 : Int32)))
 (fun (J17 : Int32 → Prop) => ((r14 = 0 → J17 (0 : Int32)) ∧
 (¬ (r14 = 0) → J17 (1 : Int32))))))))))))) ∧
 (r1 = 0 → wp_X6_error (-2 : Int32) er (fun (r26 : Int32) (u27 : Nat → Int32) => K r26 u27))))
abbrev rm_X6_onCount : Room := { frames := 1, cells := 0, slots := 0, locals := 25 }
set_option maxHeartbeats 4000000 in
set_option maxRecDepth 100000 in
theorem c_X6_onCount (l : Launch) (G : GG) (ad : Nat → Nat) (sz : Nat) (nw : Nat → Int32) (ps : Nat → Int32) (er : Nat → Int32) (us : Nat → Int32) (un : Nat → Int32) (od : Nat → Int32) (li : Nat → Int32) (st : Int32) (lm : Int32) (hs : Int64) (a1 : Int32) {K : Int32 → (Nat → Int32) → Prop} (h : wp_X6_onCount a1 nw er K) : CI l yX6_onCount wsX6_onCount rm_X6_onCount G [.ref (ad 0), .int a1] (wM G ad nw ps er us un od li st lm hs) sz (fun u : (Nat → Int32) => wM G ad nw ps u us un od li st lm hs) (fun r u => K r u) := by
  refine Met.ofW (cc := cX6_onCount) (maxL := 4) (ret := (some .int)) (by decide) rfl ?_
  intro p e s m args below meth c s₁ B hml hv
  obtain ⟨rfl, hsz, hP, hK, hD0, hZ⟩ := hv
  have hx := B.exec
  have hb := B.bytes
  have hr := B.returns
  have hts := atoms_spec (ws := wsX6_onCount) B.pre
  have hown : s.vm.findClass RX6 = some m.cls := findClass_of_methodNamed B.named
  have hlocks := B.notSynchronized
  subst hsz
  have hD := hD0.self (sz := s.heap.size)
  generalize hAe : va_A (wM G ad nw ps er us un od li st lm hs) s.heap.size = A at hD hZ ⊢
  have hA : ∀ q : Nat, s.heap.size ≤ q → A q := fun q h => by rw [← hAe]; exact Or.inr h
  have hS : va_S A s.heap s.heap [] := va_S.rf
  have hl := lv_entry ([.ref (ad 0), .int a1]) (n := 4) (Nat.le_of_ble_eq_true rfl)
  rw [lg_entry_eq]
  generalize (lg_sl ([.ref (ad 0), .int a1]) ++ List.replicate (4 - (lg_sl ([.ref (ad 0), .int a1])).length) Slot.unset).toArray = ls at hl ⊢
  have hl : lv_has ls 4 [(0, .ref (ad 0)), (1, .int a1)] := hl
  unfold wp_X6_onCount at h
  have hinX6 : ∀ w ∈ wsX60, w ∈ wsX6_onCount := by decide +kernel
  refine lv_iload_n hx hb dX6_onCount_0 rfl (lv_at hl 1 rfl) ?_
  refine lv_iconst (v := (0 : Int32)) hx hb dX6_onCount_1 (by decide) ?_
  refine lv_aload_n hx hb dX6_onCount_2 rfl (lv_at hl 0 rfl) ?_
  refine va_get (D := G.1) (ci := 6) (v := .ref (ad 1)) (C := RX6) (T := TX6) (N := 10) hx hb hts hinX6 hown hK.1 hP 0 rfl rfl 0 (by decide) (hts (.fieldLink RX6 7 "PlaFolderModel" "now" "[I") (by decide +kernel)) (fun _ h9 => h9) rfl dX6_onCount_3 ?_
  refine lv_iconst (v := (1 : Int32)) hx hb dX6_onCount_6 (by decide) ?_
  refine x_iald hx hb hK hP 1 rfl (vin_c (by decide)) (k := 1) (by decide) dX6_onCount_7 ?_
  refine lv_iconst (v := (1 : Int32)) hx hb dX6_onCount_8 (by decide) ?_
  refine lv_isub hx hb dX6_onCount_9 ?_
  refine kc_i (wr := ([0, 1, 2, 3, 4, 5, 6, 7] : List Nat).filterMap (fun i => (wM G ad nw ps er us un od li st lm hs)[i]?)) (va_runS (As := [.int a1, .int (0 : Int32), .int ((nw 1) - (1 : Int32))]) (rest := []) ⟨hx, hb, hml, hown, hts⟩ (c_X6_in l G  _  a1 (0 : Int32) ((nw 1) - (1 : Int32)) h) (va_cwS 3 hts gX6_onCount_X6_in rfl rfl rfl (by decide +kernel) ⟨Nat.le_of_ble_eq_true rfl, Nat.le_of_ble_eq_true rfl⟩) (kpS hK hP hD hZ hS hA [] rfl (by decide)) rfl rfl hl.1 rfl (lv_room (Nat.le_of_ble_eq_true rfl)) dX6_onCount_10 ⟨Nat.zero_le _, Nat.zero_le _⟩) hP hD hS hA [] [0, 1, 2, 3, 4, 5, 6, 7] rfl rfl (by decide) (by decide) (fun r1 w29 H locs h hP hD hS => ?_)
  have hP : va_P G.1 vwCl (wM G ad nw ps er us un od li st lm hs) H := hP
  have hD : va_D A (wM G ad nw ps er us un od li st lm hs) := hD
  try dsimp only at h
  refine lv_if_ne (tgt := 23) hx hb dX6_onCount_13 (by decide) (fun c_2 => ?_) (fun c_2 => ?_)
  · have h := h.1 c_2
    refine lv_iconst (v := (0 : Int32)) hx hb dX6_onCount_23 (by decide) ?_
    refine lv_istore_n (lv' := [(2, .int (0 : Int32)), (0, .ref (ad 0)), (1, .int a1)]) hx hb dX6_onCount_24 rfl hl (by decide) rfl (fun ls hl => ?_)
    refine lv_iconst (v := (0 : Int32)) hx hb dX6_onCount_25 (by decide) ?_
    refine lv_istore_n (lv' := [(3, .int (0 : Int32)), (2, .int (0 : Int32)), (0, .ref (ad 0)), (1, .int a1)]) hx hb dX6_onCount_26 rfl hl (by decide) rfl (fun ls hl => ?_)
    obtain ⟨I5, n6, h0, hst7⟩ := h
    refine loopW (σ := Int32 × Int32) (P := fun q H locs ls => va_P G.1 vwCl (wM G ad nw ps er us un od li st lm hs) H ∧ va_D A (wM G ad nw ps er us un od li st lm hs) ∧ va_S A s.heap H locs ∧ lv_has ls 4 [(0, .ref (ad 0)), (1, .int a1), (2, .int q.1), (3, .int q.2)]) (I := fun n q => I5 n q.1 q.2) n6 ((0 : Int32), (0 : Int32)) h0 _ _ _ ⟨hP, hD, hS, lv_sub hl [2, 3, 1, 0] rfl⟩ ?_
    rintro n10 ⟨x3, x4⟩ hI ih9 H locs ls ⟨hP, hD, hS, hl⟩
    have hP : va_P G.1 vwCl (wM G ad nw ps er us un od li st lm hs) H := hP
    have hD : va_D A (wM G ad nw ps er us un od li st lm hs) := hD
    have hl : lv_has ls 4 [(0, .ref (ad 0)), (1, .int a1), (2, .int x3), (3, .int x4)] := hl
    have h := hst7 n10 x3 x4 hI
    refine lv_iload_n hx hb dX6_onCount_27 rfl (lv_at hl 3 rfl) ?_
    refine lv_aload_n hx hb dX6_onCount_28 rfl (lv_at hl 0 rfl) ?_
    refine kc_i (wr := ([] : va_W)) (va_runV (As := []) (rest := [.int x4]) ⟨hx, hb, hml, hown, hts⟩ (c_X6_words l G ad _ nw ps er us un od li st lm hs  h) (cwV 0 hts gX6_onCount_X6_words rfl rfl rfl (by decide +kernel) ⟨Nat.le_of_ble_eq_true rfl, Nat.le_of_ble_eq_true rfl⟩) (kpV hK hP hD hZ hS hA [0, 1, 2, 3, 4, 5, 6, 7] rfl (by decide) (q0 := 0) (ci := 6) rfl rfl) rfl rfl hl.1 rfl (lv_room (Nat.le_of_ble_eq_true rfl)) dX6_onCount_29 ⟨Nat.zero_le _, Nat.zero_le _⟩) hP hD hS hA [0, 1, 2, 3, 4, 5, 6, 7] [] rfl rfl (by decide) (by decide) (fun r11 w25 H locs h hP hD hS => ?_)
    have hP : va_P G.1 vwCl (wM G ad nw ps er us un od li st lm hs) H := hP
    have hD : va_D A (wM G ad nw ps er us un od li st lm hs) := hD
    try dsimp only at h
    refine lv_icmp_ge (tgt := 62) hx hb dX6_onCount_32 (by decide) (fun c_12 => ?_) (fun c_12 => ?_)
    · have h := h.1 c_12
      refine lv_iload_n hx hb dX6_onCount_62 rfl (lv_at hl 2 rfl) ?_
      exact W.iret hx hb hr (fun t ht hW => ⟨⟨_, er, rfl, h, by rw [ht]; exact hP, hD⟩, hS.F ht⟩) hS.2.2 dX6_onCount_63
    · have h := h.2 c_12
      refine lv_iload_n hx hb dX6_onCount_35 rfl (lv_at hl 2 rfl) ?_
      refine lv_aload_n hx hb dX6_onCount_36 rfl (lv_at hl 0 rfl) ?_
      refine lv_iload_n hx hb dX6_onCount_37 rfl (lv_at hl 3 rfl) ?_
      refine lv_iconst (v := (-1 : Int32)) hx hb dX6_onCount_38 (by decide) ?_
      refine kc_i (wr := ([] : va_W)) (va_runV (As := [.int x4, .int (-1 : Int32)]) (rest := [.int x3]) ⟨hx, hb, hml, hown, hts⟩ (c_X6_outputs l G ad _ nw ps er us un od li st lm hs x4 (-1 : Int32) h) (cwV 2 hts gX6_onCount_X6_outputs rfl rfl rfl (by decide +kernel) ⟨Nat.le_of_ble_eq_true rfl, Nat.le_of_ble_eq_true rfl⟩) (kpV hK hP hD hZ hS hA [0, 1, 2, 3, 4, 5, 6, 7] rfl (by decide) (q0 := 0) (ci := 6) rfl rfl) rfl rfl hl.1 rfl (lv_room (Nat.le_of_ble_eq_true rfl)) dX6_onCount_39 ⟨Nat.zero_le _, Nat.zero_le _⟩) hP hD hS hA [0, 1, 2, 3, 4, 5, 6, 7] [] rfl rfl (by decide) (by decide) (fun r13 w24 H locs h hP hD hS => ?_)
      have hP : va_P G.1 vwCl (wM G ad nw ps er us un od li st lm hs) H := hP
      have hD : va_D A (wM G ad nw ps er us un od li st lm hs) := hD
      try dsimp only at h
      refine lv_iload_n hx hb dX6_onCount_42 rfl (lv_at hl 1 rfl) ?_
      refine kc_i (wr := ([0, 1, 2, 3, 4, 5, 6, 7] : List Nat).filterMap (fun i => (wM G ad nw ps er us un od li st lm hs)[i]?)) (va_runS (As := [.int r13, .int a1]) (rest := [.int x3]) ⟨hx, hb, hml, hown, hts⟩ (c_X6_has l G  _  r13 a1 h) (va_cwS 2 hts gX6_onCount_X6_has rfl rfl rfl (by decide +kernel) ⟨Nat.le_of_ble_eq_true rfl, Nat.le_of_ble_eq_true rfl⟩) (kpS hK hP hD hZ hS hA [] rfl (by decide)) rfl rfl hl.1 rfl (lv_room (Nat.le_of_ble_eq_true rfl)) dX6_onCount_43 ⟨Nat.zero_le _, Nat.zero_le _⟩) hP hD hS hA [] [0, 1, 2, 3, 4, 5, 6, 7] rfl rfl (by decide) (by decide) (fun r14 w23 H locs h hP hD hS => ?_)
      have hP : va_P G.1 vwCl (wM G ad nw ps er us un od li st lm hs) H := hP
      have hD : va_D A (wM G ad nw ps er us un od li st lm hs) := hD
      try dsimp only at h
      obtain ⟨J17, hJ22, h⟩ := h
      refine joinW (σ := Int32) (J := fun q => J17 q) (pc := 54) (st := fun q => .int q :: .int x3 :: []) (P := fun q H locs ls => va_P G.1 vwCl (wM G ad nw ps er us un od li st lm hs) H ∧ va_D A (wM G ad nw ps er us un od li st lm hs) ∧ va_S A s.heap H locs ∧ lv_has ls 4 [(0, .ref (ad 0)), (1, .int a1), (3, .int x4)]) ?_ (fun join18 => ?_)
      · rintro y16 h H locs ls ⟨hP, hD, hS, hl⟩
        have hP : va_P G.1 vwCl (wM G ad nw ps er us un od li st lm hs) H := hP
        have hD : va_D A (wM G ad nw ps er us un od li st lm hs) := hD
        have hl : lv_has ls 4 [(0, .ref (ad 0)), (1, .int a1), (3, .int x4)] := hl
        have h := hJ22 y16 h
        refine W.eq (g2 := F0 m 54 ls (.int y16 :: .int x3 :: [])) rfl ?_
        refine lv_iadd hx hb dX6_onCount_54 ?_
        refine lv_istore_n (lv' := [(2, .int (x3 + y16)), (0, .ref (ad 0)), (1, .int a1), (3, .int x4)]) hx hb dX6_onCount_55 rfl hl (by decide) rfl (fun ls hl => ?_)
        refine lv_iinc (v := (x4 + (1 : Int32))) (lv' := [(3, .int (x4 + (1 : Int32))), (2, .int (x3 + y16)), (0, .ref (ad 0)), (1, .int a1)]) hx hb dX6_onCount_56 hl (k := 3) rfl rfl (by decide) rfl (fun ls hl => ?_)
        refine lv_goto (tgt := 27) hx hb dX6_onCount_59 (by decide) ?_
        obtain ⟨n20, hn19, hI21⟩ := h
        exact ih9 n20 ((x3 + y16), (x4 + (1 : Int32))) hn19 hI21 _ _ _ ⟨hP, hD, hS, lv_sub hl [2, 3, 1, 0] rfl⟩
      · refine lv_if_eq (tgt := 53) hx hb dX6_onCount_46 (by decide) (fun c_15 => ?_) (fun c_15 => ?_)
        · have h := h.1 c_15
          refine lv_iconst (v := (0 : Int32)) hx hb dX6_onCount_53 (by decide) ?_
          exact join18 (0 : Int32) h _ _ _ ⟨hP, hD, hS, lv_sub hl [0, 1, 3] rfl⟩
        · have h := h.2 c_15
          refine lv_iconst (v := (1 : Int32)) hx hb dX6_onCount_49 (by decide) ?_
          refine lv_goto (tgt := 54) hx hb dX6_onCount_50 (by decide) ?_
          exact join18 (1 : Int32) h _ _ _ ⟨hP, hD, hS, lv_sub hl [0, 1, 3] rfl⟩
  · have h := h.2 c_2
    refine lv_aload_n hx hb dX6_onCount_16 rfl (lv_at hl 0 rfl) ?_
    refine lv_bipush (v := (-2 : Int32)) hx hb dX6_onCount_17 (by decide) ?_
    refine kc_i (wr := ([] : va_W)) (va_runV (As := [.int (-2 : Int32)]) (rest := []) ⟨hx, hb, hml, hown, hts⟩ (c_X6_error l G ad _ nw ps er us un od li st lm hs (-2 : Int32) h) (cwV 1 hts gX6_onCount_X6_error rfl rfl rfl (by decide +kernel) ⟨Nat.le_of_ble_eq_true rfl, Nat.le_of_ble_eq_true rfl⟩) (kpV hK hP hD hZ hS hA [0, 1, 2, 3, 4, 5, 6, 7] rfl (by decide) (q0 := 0) (ci := 6) rfl rfl) rfl rfl hl.1 rfl (lv_room (Nat.le_of_ble_eq_true rfl)) dX6_onCount_19 ⟨Nat.zero_le _, Nat.zero_le _⟩) hP hD hS hA [0, 1, 2, 3, 4, 5, 6, 7] [] rfl rfl (by decide) (by decide) (fun r26 w28 H locs h hP hD hS => ?_)
    obtain ⟨u27, rfl⟩ : ∃ z, z = w28 := ⟨_, rfl⟩
    have hP : va_P G.1 vwCl (wM G ad nw ps u27 us un od li st lm hs) H := hP
    have hD : va_D A (wM G ad nw ps u27 us un od li st lm hs) := hD
    try dsimp only at h
    exact W.iret hx hb hr (fun t ht hW => ⟨⟨_, u27, rfl, h, by rw [ht]; exact hP, hD⟩, hS.F ht⟩) hS.2.2 dX6_onCount_22
def wp_X6_redundant (a1 : Int32) (nw : Nat → Int32) (K : Int32 → Prop) : Prop :=
 (Lp2 (1 : Int32) (0 : Int32) (fun (x1 : Int32) (x2 : Int32) (J6 : Int32 → Int32 → Prop) => wp_X6_words nw (fun (r9 : Int32) => ((r9 ≤ x2 → ((x1 = 0 ∨ x1 = 1) ∧ K x1)) ∧
 (¬ (r9 ≤ x2) → ((x1 = 0 → ((x1 = 0 ∨ x1 = 1) ∧ K x1)) ∧
 (¬ (x1 = 0) → wp_X6_outputs x2 (-1 : Int32) nw (fun (r14 : Int32) => wp_X6_outputs x2 a1 nw (fun (r15 : Int32) => ((¬ r14 = r15 → J6 (0 : Int32) (x2 + (1 : Int32))) ∧
 (r14 = r15 → J6 (1 : Int32) (x2 + (1 : Int32)))))))))))))
abbrev rm_X6_redundant : Room := { frames := 1, cells := 0, slots := 0, locals := 25 }
set_option maxHeartbeats 4000000 in
set_option maxRecDepth 100000 in
theorem c_X6_redundant (l : Launch) (G : GG) (ad : Nat → Nat) (sz : Nat) (nw : Nat → Int32) (ps : Nat → Int32) (er : Nat → Int32) (us : Nat → Int32) (un : Nat → Int32) (od : Nat → Int32) (li : Nat → Int32) (st : Int32) (lm : Int32) (hs : Int64) (a1 : Int32) {K : Int32 → Prop} (h : wp_X6_redundant a1 nw K) : CI l yX6_redundant wsX6_redundant rm_X6_redundant G [.ref (ad 0), .int a1] (wM G ad nw ps er us un od li st lm hs) sz (fun u : Unit => wM G ad nw ps er us un od li st lm hs) (fun r u => K r ) := by
  refine Met.ofW (cc := cX6_redundant) (maxL := 4) (ret := (some .boolean)) (by decide) rfl ?_
  intro p e s m args below meth c s₁ B hml hv
  obtain ⟨rfl, hsz, hP, hK, hD0, hZ⟩ := hv
  have hx := B.exec
  have hb := B.bytes
  have hr := B.returns
  have hts := atoms_spec (ws := wsX6_redundant) B.pre
  have hown : s.vm.findClass RX6 = some m.cls := findClass_of_methodNamed B.named
  have hlocks := B.notSynchronized
  subst hsz
  have hD := hD0.self (sz := s.heap.size)
  generalize hAe : va_A (wM G ad nw ps er us un od li st lm hs) s.heap.size = A at hD hZ ⊢
  have hA : ∀ q : Nat, s.heap.size ≤ q → A q := fun q h => by rw [← hAe]; exact Or.inr h
  have hS : va_S A s.heap s.heap [] := va_S.rf
  have hl := lv_entry ([.ref (ad 0), .int a1]) (n := 4) (Nat.le_of_ble_eq_true rfl)
  rw [lg_entry_eq]
  generalize (lg_sl ([.ref (ad 0), .int a1]) ++ List.replicate (4 - (lg_sl ([.ref (ad 0), .int a1])).length) Slot.unset).toArray = ls at hl ⊢
  have hl : lv_has ls 4 [(0, .ref (ad 0)), (1, .int a1)] := hl
  unfold wp_X6_redundant at h
  refine lv_iconst (v := (1 : Int32)) hx hb dX6_redundant_0 (by decide) ?_
  refine lv_istore_n (lv' := [(2, .int (1 : Int32)), (0, .ref (ad 0)), (1, .int a1)]) hx hb dX6_redundant_1 rfl hl (by decide) rfl (fun ls hl => ?_)
  refine lv_iconst (v := (0 : Int32)) hx hb dX6_redundant_2 (by decide) ?_
  refine lv_istore_n (lv' := [(3, .int (0 : Int32)), (2, .int (1 : Int32)), (0, .ref (ad 0)), (1, .int a1)]) hx hb dX6_redundant_3 rfl hl (by decide) rfl (fun ls hl => ?_)
  obtain ⟨I3, n4, h0, hst5⟩ := h
  refine loopW (σ := Int32 × Int32) (P := fun q H locs ls => va_P G.1 vwCl (wM G ad nw ps er us un od li st lm hs) H ∧ va_D A (wM G ad nw ps er us un od li st lm hs) ∧ va_S A s.heap H locs ∧ lv_has ls 4 [(0, .ref (ad 0)), (1, .int a1), (2, .int q.1), (3, .int q.2)]) (I := fun n q => I3 n q.1 q.2) n4 ((1 : Int32), (0 : Int32)) h0 _ _ _ ⟨hP, hD, hS, lv_sub hl [2, 3, 1, 0] rfl⟩ ?_
  rintro n8 ⟨x1, x2⟩ hI ih7 H locs ls ⟨hP, hD, hS, hl⟩
  have hP : va_P G.1 vwCl (wM G ad nw ps er us un od li st lm hs) H := hP
  have hD : va_D A (wM G ad nw ps er us un od li st lm hs) := hD
  have hl : lv_has ls 4 [(0, .ref (ad 0)), (1, .int a1), (2, .int x1), (3, .int x2)] := hl
  have h := hst5 n8 x1 x2 hI
  refine lv_iload_n hx hb dX6_redundant_4 rfl (lv_at hl 3 rfl) ?_
  refine lv_aload_n hx hb dX6_redundant_5 rfl (lv_at hl 0 rfl) ?_
  refine kc_i (wr := ([] : va_W)) (va_runV (As := []) (rest := [.int x2]) ⟨hx, hb, hml, hown, hts⟩ (c_X6_words l G ad _ nw ps er us un od li st lm hs  h) (cwV 0 hts gX6_redundant_X6_words rfl rfl rfl (by decide +kernel) ⟨Nat.le_of_ble_eq_true rfl, Nat.le_of_ble_eq_true rfl⟩) (kpV hK hP hD hZ hS hA [0, 1, 2, 3, 4, 5, 6, 7] rfl (by decide) (q0 := 0) (ci := 6) rfl rfl) rfl rfl hl.1 rfl (lv_room (Nat.le_of_ble_eq_true rfl)) dX6_redundant_6 ⟨Nat.zero_le _, Nat.zero_le _⟩) hP hD hS hA [0, 1, 2, 3, 4, 5, 6, 7] [] rfl rfl (by decide) (by decide) (fun r9 w25 H locs h hP hD hS => ?_)
  have hP : va_P G.1 vwCl (wM G ad nw ps er us un od li st lm hs) H := hP
  have hD : va_D A (wM G ad nw ps er us un od li st lm hs) := hD
  try dsimp only at h
  refine lv_icmp_ge (tgt := 43) hx hb dX6_redundant_9 (by decide) (fun c_10 => ?_) (fun c_10 => ?_)
  · have h := h.1 c_10
    refine lv_iload_n hx hb dX6_redundant_43 rfl (lv_at hl 2 rfl) ?_
    obtain ⟨hz11, h⟩ := h
    exact W.zret hx hb hr (nar_b hz11) (fun t ht hW => ⟨⟨_, (), rfl, h, by rw [ht]; exact hP, hD⟩, hS.F ht⟩) hS.2.2 dX6_redundant_44
  · have h := h.2 c_10
    refine lv_iload_n hx hb dX6_redundant_12 rfl (lv_at hl 2 rfl) ?_
    refine lv_if_eq (tgt := 43) hx hb dX6_redundant_13 (by decide) (fun c_12 => ?_) (fun c_12 => ?_)
    · have h := h.1 c_12
      refine lv_iload_n hx hb dX6_redundant_43 rfl (lv_at hl 2 rfl) ?_
      obtain ⟨hz13, h⟩ := h
      exact W.zret hx hb hr (nar_b hz13) (fun t ht hW => ⟨⟨_, (), rfl, h, by rw [ht]; exact hP, hD⟩, hS.F ht⟩) hS.2.2 dX6_redundant_44
    · have h := h.2 c_12
      refine lv_aload_n hx hb dX6_redundant_16 rfl (lv_at hl 0 rfl) ?_
      refine lv_iload_n hx hb dX6_redundant_17 rfl (lv_at hl 3 rfl) ?_
      refine lv_iconst (v := (-1 : Int32)) hx hb dX6_redundant_18 (by decide) ?_
      refine kc_i (wr := ([] : va_W)) (va_runV (As := [.int x2, .int (-1 : Int32)]) (rest := []) ⟨hx, hb, hml, hown, hts⟩ (c_X6_outputs l G ad _ nw ps er us un od li st lm hs x2 (-1 : Int32) h) (cwV 2 hts gX6_redundant_X6_outputs rfl rfl rfl (by decide +kernel) ⟨Nat.le_of_ble_eq_true rfl, Nat.le_of_ble_eq_true rfl⟩) (kpV hK hP hD hZ hS hA [0, 1, 2, 3, 4, 5, 6, 7] rfl (by decide) (q0 := 0) (ci := 6) rfl rfl) rfl rfl hl.1 rfl (lv_room (Nat.le_of_ble_eq_true rfl)) dX6_redundant_19 ⟨Nat.zero_le _, Nat.zero_le _⟩) hP hD hS hA [0, 1, 2, 3, 4, 5, 6, 7] [] rfl rfl (by decide) (by decide) (fun r14 w24 H locs h hP hD hS => ?_)
      have hP : va_P G.1 vwCl (wM G ad nw ps er us un od li st lm hs) H := hP
      have hD : va_D A (wM G ad nw ps er us un od li st lm hs) := hD
      try dsimp only at h
      refine lv_aload_n hx hb dX6_redundant_22 rfl (lv_at hl 0 rfl) ?_
      refine lv_iload_n hx hb dX6_redundant_23 rfl (lv_at hl 3 rfl) ?_
      refine lv_iload_n hx hb dX6_redundant_24 rfl (lv_at hl 1 rfl) ?_
      refine kc_i (wr := ([] : va_W)) (va_runV (As := [.int x2, .int a1]) (rest := [.int r14]) ⟨hx, hb, hml, hown, hts⟩ (c_X6_outputs l G ad _ nw ps er us un od li st lm hs x2 a1 h) (cwV 2 hts gX6_redundant_X6_outputs rfl rfl rfl (by decide +kernel) ⟨Nat.le_of_ble_eq_true rfl, Nat.le_of_ble_eq_true rfl⟩) (kpV hK hP hD hZ hS hA [0, 1, 2, 3, 4, 5, 6, 7] rfl (by decide) (q0 := 0) (ci := 6) rfl rfl) rfl rfl hl.1 rfl (lv_room (Nat.le_of_ble_eq_true rfl)) dX6_redundant_25 ⟨Nat.zero_le _, Nat.zero_le _⟩) hP hD hS hA [0, 1, 2, 3, 4, 5, 6, 7] [] rfl rfl (by decide) (by decide) (fun r15 w23 H locs h hP hD hS => ?_)
      have hP : va_P G.1 vwCl (wM G ad nw ps er us un od li st lm hs) H := hP
      have hD : va_D A (wM G ad nw ps er us un od li st lm hs) := hD
      try dsimp only at h
      refine lv_icmp_ne (tgt := 35) hx hb dX6_redundant_28 (by decide) (fun c_16 => ?_) (fun c_16 => ?_)
      · have h := h.1 c_16
        refine lv_iconst (v := (0 : Int32)) hx hb dX6_redundant_35 (by decide) ?_
        refine lv_istore_n (lv' := [(2, .int (0 : Int32)), (0, .ref (ad 0)), (1, .int a1), (3, .int x2)]) hx hb dX6_redundant_36 rfl hl (by decide) rfl (fun ls hl => ?_)
        refine lv_iinc (v := (x2 + (1 : Int32))) (lv' := [(3, .int (x2 + (1 : Int32))), (2, .int (0 : Int32)), (0, .ref (ad 0)), (1, .int a1)]) hx hb dX6_redundant_37 hl (k := 3) rfl rfl (by decide) rfl (fun ls hl => ?_)
        refine lv_goto (tgt := 4) hx hb dX6_redundant_40 (by decide) ?_
        obtain ⟨n18, hn17, hI19⟩ := h
        exact ih7 n18 ((0 : Int32), (x2 + (1 : Int32))) hn17 hI19 _ _ _ ⟨hP, hD, hS, lv_sub hl [2, 3, 1, 0] rfl⟩
      · have h := h.2 c_16
        refine lv_iconst (v := (1 : Int32)) hx hb dX6_redundant_31 (by decide) ?_
        refine lv_goto (tgt := 36) hx hb dX6_redundant_32 (by decide) ?_
        refine lv_istore_n (lv' := [(2, .int (1 : Int32)), (0, .ref (ad 0)), (1, .int a1), (3, .int x2)]) hx hb dX6_redundant_36 rfl hl (by decide) rfl (fun ls hl => ?_)
        refine lv_iinc (v := (x2 + (1 : Int32))) (lv' := [(3, .int (x2 + (1 : Int32))), (2, .int (1 : Int32)), (0, .ref (ad 0)), (1, .int a1)]) hx hb dX6_redundant_37 hl (k := 3) rfl rfl (by decide) rfl (fun ls hl => ?_)
        refine lv_goto (tgt := 4) hx hb dX6_redundant_40 (by decide) ?_
        obtain ⟨n21, hn20, hI22⟩ := h
        exact ih7 n21 ((1 : Int32), (x2 + (1 : Int32))) hn20 hI22 _ _ _ ⟨hP, hD, hS, lv_sub hl [2, 3, 1, 0] rfl⟩
def wp_X6_isRedundant (a1 : Int32) (nw : Nat → Int32) (er : Nat → Int32) (K : Int32 → (Nat → Int32) → Prop) : Prop :=
 wp_X6_isTerm a1 nw (fun (r1 : Int32) => ((¬ r1 = 0 → wp_X6_redundant a1 nw (fun (r3 : Int32) => ((r3 = 0 → K (0 : Int32) er) ∧
 (¬ (r3 = 0) → K (1 : Int32) er)))) ∧
 (r1 = 0 → wp_X6_error (-2 : Int32) er (fun (r6 : Int32) (u7 : Nat → Int32) => K r6 u7))))
abbrev rm_X6_isRedundant : Room := { frames := 2, cells := 0, slots := 0, locals := 48 }
set_option maxHeartbeats 4000000 in
set_option maxRecDepth 100000 in
theorem c_X6_isRedundant (l : Launch) (G : GG) (ad : Nat → Nat) (sz : Nat) (nw : Nat → Int32) (ps : Nat → Int32) (er : Nat → Int32) (us : Nat → Int32) (un : Nat → Int32) (od : Nat → Int32) (li : Nat → Int32) (st : Int32) (lm : Int32) (hs : Int64) (a1 : Int32) {K : Int32 → (Nat → Int32) → Prop} (h : wp_X6_isRedundant a1 nw er K) : CI l yX6_isRedundant wsX6_isRedundant rm_X6_isRedundant G [.ref (ad 0), .int a1] (wM G ad nw ps er us un od li st lm hs) sz (fun u : (Nat → Int32) => wM G ad nw ps u us un od li st lm hs) (fun r u => K r u) := by
  refine Met.ofW (cc := cX6_isRedundant) (maxL := 2) (ret := (some .int)) (by decide) rfl ?_
  intro p e s m args below meth c s₁ B hml hv
  obtain ⟨rfl, hsz, hP, hK, hD0, hZ⟩ := hv
  have hx := B.exec
  have hb := B.bytes
  have hr := B.returns
  have hts := atoms_spec (ws := wsX6_isRedundant) B.pre
  have hown : s.vm.findClass RX6 = some m.cls := findClass_of_methodNamed B.named
  have hlocks := B.notSynchronized
  subst hsz
  have hD := hD0.self (sz := s.heap.size)
  generalize hAe : va_A (wM G ad nw ps er us un od li st lm hs) s.heap.size = A at hD hZ ⊢
  have hA : ∀ q : Nat, s.heap.size ≤ q → A q := fun q h => by rw [← hAe]; exact Or.inr h
  have hS : va_S A s.heap s.heap [] := va_S.rf
  have hl := lv_entry ([.ref (ad 0), .int a1]) (n := 2) (Nat.le_of_ble_eq_true rfl)
  rw [lg_entry_eq]
  generalize (lg_sl ([.ref (ad 0), .int a1]) ++ List.replicate (2 - (lg_sl ([.ref (ad 0), .int a1])).length) Slot.unset).toArray = ls at hl ⊢
  have hl : lv_has ls 2 [(0, .ref (ad 0)), (1, .int a1)] := hl
  unfold wp_X6_isRedundant at h
  refine lv_aload_n hx hb dX6_isRedundant_0 rfl (lv_at hl 0 rfl) ?_
  refine lv_iload_n hx hb dX6_isRedundant_1 rfl (lv_at hl 1 rfl) ?_
  refine kc_i (wr := ([] : va_W)) (va_runV (As := [.int a1]) (rest := []) ⟨hx, hb, hml, hown, hts⟩ (c_X6_isTerm l G ad _ nw ps er us un od li st lm hs a1 h) (cwV 1 hts gX6_isRedundant_X6_isTerm rfl rfl rfl (by decide +kernel) ⟨Nat.le_of_ble_eq_true rfl, Nat.le_of_ble_eq_true rfl⟩) (kpV hK hP hD hZ hS hA [0, 1, 2, 3, 4, 5, 6, 7] rfl (by decide) (q0 := 0) (ci := 6) rfl rfl) rfl rfl hl.1 rfl (lv_room (Nat.le_of_ble_eq_true rfl)) dX6_isRedundant_2 ⟨Nat.zero_le _, Nat.zero_le _⟩) hP hD hS hA [0, 1, 2, 3, 4, 5, 6, 7] [] rfl rfl (by decide) (by decide) (fun r1 w9 H locs h hP hD hS => ?_)
  have hP : va_P G.1 vwCl (wM G ad nw ps er us un od li st lm hs) H := hP
  have hD : va_D A (wM G ad nw ps er us un od li st lm hs) := hD
  try dsimp only at h
  refine lv_if_ne (tgt := 17) hx hb dX6_isRedundant_5 (by decide) (fun c_2 => ?_) (fun c_2 => ?_)
  · have h := h.1 c_2
    refine lv_aload_n hx hb dX6_isRedundant_17 rfl (lv_at hl 0 rfl) ?_
    refine lv_iload_n hx hb dX6_isRedundant_18 rfl (lv_at hl 1 rfl) ?_
    refine kc_i (wr := ([] : va_W)) (va_runV (As := [.int a1]) (rest := []) ⟨hx, hb, hml, hown, hts⟩ (c_X6_redundant l G ad _ nw ps er us un od li st lm hs a1 h) (cwV 1 hts gX6_isRedundant_X6_redundant rfl rfl rfl (by decide +kernel) ⟨Nat.le_of_ble_eq_true rfl, Nat.le_of_ble_eq_true rfl⟩) (kpV hK hP hD hZ hS hA [0, 1, 2, 3, 4, 5, 6, 7] rfl (by decide) (q0 := 0) (ci := 6) rfl rfl) rfl rfl hl.1 rfl (lv_room (Nat.le_of_ble_eq_true rfl)) dX6_isRedundant_19 ⟨Nat.zero_le _, Nat.zero_le _⟩) hP hD hS hA [0, 1, 2, 3, 4, 5, 6, 7] [] rfl rfl (by decide) (by decide) (fun r3 w5 H locs h hP hD hS => ?_)
    have hP : va_P G.1 vwCl (wM G ad nw ps er us un od li st lm hs) H := hP
    have hD : va_D A (wM G ad nw ps er us un od li st lm hs) := hD
    try dsimp only at h
    refine lv_if_eq (tgt := 29) hx hb dX6_isRedundant_22 (by decide) (fun c_4 => ?_) (fun c_4 => ?_)
    · have h := h.1 c_4
      refine lv_iconst (v := (0 : Int32)) hx hb dX6_isRedundant_29 (by decide) ?_
      exact W.iret hx hb hr (fun t ht hW => ⟨⟨_, er, rfl, h, by rw [ht]; exact hP, hD⟩, hS.F ht⟩) hS.2.2 dX6_isRedundant_30
    · have h := h.2 c_4
      refine lv_iconst (v := (1 : Int32)) hx hb dX6_isRedundant_25 (by decide) ?_
      refine lv_goto (tgt := 30) hx hb dX6_isRedundant_26 (by decide) ?_
      exact W.iret hx hb hr (fun t ht hW => ⟨⟨_, er, rfl, h, by rw [ht]; exact hP, hD⟩, hS.F ht⟩) hS.2.2 dX6_isRedundant_30
  · have h := h.2 c_2
    refine lv_aload_n hx hb dX6_isRedundant_8 rfl (lv_at hl 0 rfl) ?_
    refine lv_bipush (v := (-2 : Int32)) hx hb dX6_isRedundant_9 (by decide) ?_
    refine kc_i (wr := ([] : va_W)) (va_runV (As := [.int (-2 : Int32)]) (rest := []) ⟨hx, hb, hml, hown, hts⟩ (c_X6_error l G ad _ nw ps er us un od li st lm hs (-2 : Int32) h) (cwV 1 hts gX6_isRedundant_X6_error rfl rfl rfl (by decide +kernel) ⟨Nat.le_of_ble_eq_true rfl, Nat.le_of_ble_eq_true rfl⟩) (kpV hK hP hD hZ hS hA [0, 1, 2, 3, 4, 5, 6, 7] rfl (by decide) (q0 := 0) (ci := 6) rfl rfl) rfl rfl hl.1 rfl (lv_room (Nat.le_of_ble_eq_true rfl)) dX6_isRedundant_11 ⟨Nat.zero_le _, Nat.zero_le _⟩) hP hD hS hA [0, 1, 2, 3, 4, 5, 6, 7] [] rfl rfl (by decide) (by decide) (fun r6 w8 H locs h hP hD hS => ?_)
    obtain ⟨u7, rfl⟩ : ∃ z, z = w8 := ⟨_, rfl⟩
    have hP : va_P G.1 vwCl (wM G ad nw ps u7 us un od li st lm hs) H := hP
    have hD : va_D A (wM G ad nw ps u7 us un od li st lm hs) := hD
    try dsimp only at h
    refine lv_goto (tgt := 30) hx hb dX6_isRedundant_14 (by decide) ?_
    exact W.iret hx hb hr (fun t ht hW => ⟨⟨_, u7, rfl, h, by rw [ht]; exact hP, hD⟩, hS.F ht⟩) hS.2.2 dX6_isRedundant_30
def wp_X6_removeRedundant (nw : Nat → Int32) (ps : Nat → Int32) (st : Int32) (K : Int32 → (Nat → Int32) → (Nat → Int32) → Int32 → Prop) : Prop :=
 wp_X6_save nw ps st (fun (u2 : Nat → Int32) (u3 : Int32) => (Lp2 ((nw 2) - (1 : Int32)) nw (fun (x4 : Int32) (z5 : Nat → Int32) (J9 : Int32 → (Nat → Int32) → Prop) => ((x4 < 0 → K ((nw 2) - (z5 2)) z5 u2 u3) ∧
 (¬ (x4 < 0) → wp_X6_redundant x4 z5 (fun (r13 : Int32) => ((r13 = 0 → J9 (x4 + (-1 : Int32)) z5) ∧
 (¬ (r13 = 0) → wp_X6_drop x4 z5 (fun (u19 : Nat → Int32) => J9 ((u19 2) + (-1 : Int32)) u19)))))))))
abbrev rm_X6_removeRedundant : Room := { frames := 2, cells := 0, slots := 0, locals := 48 }
set_option maxHeartbeats 4000000 in
set_option maxRecDepth 100000 in
theorem c_X6_removeRedundant (l : Launch) (G : GG) (ad : Nat → Nat) (sz : Nat) (nw : Nat → Int32) (ps : Nat → Int32) (er : Nat → Int32) (us : Nat → Int32) (un : Nat → Int32) (od : Nat → Int32) (li : Nat → Int32) (st : Int32) (lm : Int32) (hs : Int64) {K : Int32 → (Nat → Int32) → (Nat → Int32) → Int32 → Prop} (h : wp_X6_removeRedundant nw ps st K) : CI l yX6_removeRedundant wsX6_removeRedundant rm_X6_removeRedundant G [.ref (ad 0)] (wM G ad nw ps er us un od li st lm hs) sz (fun u : (Nat → Int32) × (Nat → Int32) × Int32 => wM G ad u.1 u.2.1 er us un od li u.2.2 lm hs) (fun r u => K r u.1 u.2.1 u.2.2) := by
  refine Met.ofW (cc := cX6_removeRedundant) (maxL := 3) (ret := (some .int)) (by decide) rfl ?_
  intro p e s m args below meth c s₁ B hml hv
  obtain ⟨rfl, hsz, hP, hK, hD0, hZ⟩ := hv
  have hx := B.exec
  have hb := B.bytes
  have hr := B.returns
  have hts := atoms_spec (ws := wsX6_removeRedundant) B.pre
  have hown : s.vm.findClass RX6 = some m.cls := findClass_of_methodNamed B.named
  have hlocks := B.notSynchronized
  subst hsz
  have hD := hD0.self (sz := s.heap.size)
  generalize hAe : va_A (wM G ad nw ps er us un od li st lm hs) s.heap.size = A at hD hZ ⊢
  have hA : ∀ q : Nat, s.heap.size ≤ q → A q := fun q h => by rw [← hAe]; exact Or.inr h
  have hS : va_S A s.heap s.heap [] := va_S.rf
  have hl := lv_entry ([.ref (ad 0)]) (n := 3) (Nat.le_of_ble_eq_true rfl)
  rw [lg_entry_eq]
  generalize (lg_sl ([.ref (ad 0)]) ++ List.replicate (3 - (lg_sl ([.ref (ad 0)])).length) Slot.unset).toArray = ls at hl ⊢
  have hl : lv_has ls 3 [(0, .ref (ad 0))] := hl
  unfold wp_X6_removeRedundant at h
  have hinX6 : ∀ w ∈ wsX60, w ∈ wsX6_removeRedundant := by decide +kernel
  refine lv_aload_n hx hb dX6_removeRedundant_0 rfl (lv_at hl 0 rfl) ?_
  refine kc_v (wr := ([] : va_W)) (va_runV (As := []) (rest := []) ⟨hx, hb, hml, hown, hts⟩ (c_X6_save l G ad _ nw ps er us un od li st lm hs  h) (cwV 0 hts gX6_removeRedundant_X6_save rfl rfl rfl (by decide +kernel) ⟨Nat.le_of_ble_eq_true rfl, Nat.le_of_ble_eq_true rfl⟩) (kpV hK hP hD hZ hS hA [0, 1, 2, 3, 4, 5, 6, 7] rfl (by decide) (q0 := 0) (ci := 6) rfl rfl) rfl rfl hl.1 rfl (lv_room (Nat.le_of_ble_eq_true rfl)) dX6_removeRedundant_1 ⟨Nat.zero_le _, Nat.zero_le _⟩) hP hD hS hA [0, 1, 2, 3, 4, 5, 6, 7] [] rfl rfl (by decide) (by decide) (fun w25 H locs h hP hD hS => ?_)
  obtain ⟨u2, u3⟩ := w25
  have hP : va_P G.1 vwCl (wM G ad nw u2 er us un od li u3 lm hs) H := hP
  have hD : va_D A (wM G ad nw u2 er us un od li u3 lm hs) := hD
  try dsimp only at h
  refine lv_aload_n hx hb dX6_removeRedundant_4 rfl (lv_at hl 0 rfl) ?_
  refine va_get (D := G.1) (ci := 6) (v := .ref (ad 1)) (C := RX6) (T := TX6) (N := 10) hx hb hts hinX6 hown hK.1 hP 0 rfl rfl 0 (by decide) (hts (.fieldLink RX6 7 "PlaFolderModel" "now" "[I") (by decide +kernel)) (fun _ h9 => h9) rfl dX6_removeRedundant_5 ?_
  refine lv_iconst (v := (nI 2)) hx hb dX6_removeRedundant_8 (by decide) ?_
  refine x_iald hx hb hK hP 1 rfl (vin_c (by decide)) (k := 2) (by decide) dX6_removeRedundant_9 ?_
  refine lv_istore_n (lv' := [(1, .int (nw 2)), (0, .ref (ad 0))]) hx hb dX6_removeRedundant_10 rfl hl (by decide) rfl (fun ls hl => ?_)
  refine lv_aload_n hx hb dX6_removeRedundant_11 rfl (lv_at hl 1 rfl) ?_
  refine va_get (D := G.1) (ci := 6) (v := .ref (ad 1)) (C := RX6) (T := TX6) (N := 10) hx hb hts hinX6 hown hK.1 hP 0 rfl rfl 0 (by decide) (hts (.fieldLink RX6 7 "PlaFolderModel" "now" "[I") (by decide +kernel)) (fun _ h9 => h9) rfl dX6_removeRedundant_12 ?_
  refine lv_iconst (v := (nI 2)) hx hb dX6_removeRedundant_15 (by decide) ?_
  refine x_iald hx hb hK hP 1 rfl (vin_c (by decide)) (k := 2) (by decide) dX6_removeRedundant_16 ?_
  refine lv_iconst (v := (1 : Int32)) hx hb dX6_removeRedundant_17 (by decide) ?_
  refine lv_isub hx hb dX6_removeRedundant_18 ?_
  refine lv_istore_n (lv' := [(2, .int ((nw 2) - (1 : Int32))), (1, .int (nw 2)), (0, .ref (ad 0))]) hx hb dX6_removeRedundant_19 rfl hl (by decide) rfl (fun ls hl => ?_)
  obtain ⟨I6, n7, h0, hst8⟩ := h
  refine loopW (σ := Int32 × (Nat → Int32)) (P := fun q H locs ls => va_P G.1 vwCl (wM G ad q.2 u2 er us un od li u3 lm hs) H ∧ va_D A (wM G ad q.2 u2 er us un od li u3 lm hs) ∧ va_S A s.heap H locs ∧ lv_has ls 3 [(0, .ref (ad 0)), (1, .int (nw 2)), (2, .int q.1)]) (I := fun n q => I6 n q.1 q.2) n7 (((nw 2) - (1 : Int32)), nw) h0 _ _ _ ⟨hP, hD, hS, lv_sub hl [2, 1, 0] rfl⟩ ?_
  rintro n11 ⟨x4, z5⟩ hI ih10 H locs ls ⟨hP, hD, hS, hl⟩
  have hP : va_P G.1 vwCl (wM G ad z5 u2 er us un od li u3 lm hs) H := hP
  have hD : va_D A (wM G ad z5 u2 er us un od li u3 lm hs) := hD
  have hl : lv_has ls 3 [(0, .ref (ad 0)), (1, .int (nw 2)), (2, .int x4)] := hl
  have h := hst8 n11 x4 z5 hI
  refine lv_iload_n hx hb dX6_removeRedundant_20 rfl (lv_at hl 2 rfl) ?_
  refine lv_if_lt (tgt := 50) hx hb dX6_removeRedundant_21 (by decide) (fun c_12 => ?_) (fun c_12 => ?_)
  · have h := h.1 c_12
    refine lv_iload_n hx hb dX6_removeRedundant_50 rfl (lv_at hl 1 rfl) ?_
    refine lv_aload_n hx hb dX6_removeRedundant_51 rfl (lv_at hl 0 rfl) ?_
    refine va_get (D := G.1) (ci := 6) (v := .ref (ad 1)) (C := RX6) (T := TX6) (N := 10) hx hb hts hinX6 hown hK.1 hP 0 rfl rfl 0 (by decide) (hts (.fieldLink RX6 7 "PlaFolderModel" "now" "[I") (by decide +kernel)) (fun _ h9 => h9) rfl dX6_removeRedundant_52 ?_
    refine lv_iconst (v := (nI 2)) hx hb dX6_removeRedundant_55 (by decide) ?_
    refine x_iald hx hb hK hP 1 rfl (vin_c (by decide)) (k := 2) (by decide) dX6_removeRedundant_56 ?_
    refine lv_isub hx hb dX6_removeRedundant_57 ?_
    exact W.iret hx hb hr (fun t ht hW => ⟨⟨_, (z5, u2, u3), rfl, h, by rw [ht]; exact hP, hD⟩, hS.F ht⟩) hS.2.2 dX6_removeRedundant_58
  · have h := h.2 c_12
    refine lv_aload_n hx hb dX6_removeRedundant_24 rfl (lv_at hl 0 rfl) ?_
    refine lv_iload_n hx hb dX6_removeRedundant_25 rfl (lv_at hl 2 rfl) ?_
    refine kc_i (wr := ([] : va_W)) (va_runV (As := [.int x4]) (rest := []) ⟨hx, hb, hml, hown, hts⟩ (c_X6_redundant l G ad _ z5 u2 er us un od li u3 lm hs x4 h) (cwV 1 hts gX6_removeRedundant_X6_redundant rfl rfl rfl (by decide +kernel) ⟨Nat.le_of_ble_eq_true rfl, Nat.le_of_ble_eq_true rfl⟩) (kpV hK hP hD hZ hS hA [0, 1, 2, 3, 4, 5, 6, 7] rfl (by decide) (q0 := 0) (ci := 6) rfl rfl) rfl rfl hl.1 rfl (lv_room (Nat.le_of_ble_eq_true rfl)) dX6_removeRedundant_26 ⟨Nat.zero_le _, Nat.zero_le _⟩) hP hD hS hA [0, 1, 2, 3, 4, 5, 6, 7] [] rfl rfl (by decide) (by decide) (fun r13 w24 H locs h hP hD hS => ?_)
    have hP : va_P G.1 vwCl (wM G ad z5 u2 er us un od li u3 lm hs) H := hP
    have hD : va_D A (wM G ad z5 u2 er us un od li u3 lm hs) := hD
    try dsimp only at h
    refine lv_if_eq (tgt := 44) hx hb dX6_removeRedundant_29 (by decide) (fun c_14 => ?_) (fun c_14 => ?_)
    · have h := h.1 c_14
      refine lv_iinc (v := (x4 + (-1 : Int32))) (lv' := [(2, .int (x4 + (-1 : Int32))), (0, .ref (ad 0)), (1, .int (nw 2))]) hx hb dX6_removeRedundant_44 hl (k := 2) rfl rfl (by decide) rfl (fun ls hl => ?_)
      refine lv_goto (tgt := 20) hx hb dX6_removeRedundant_47 (by decide) ?_
      obtain ⟨n16, hn15, hI17⟩ := h
      exact ih10 n16 ((x4 + (-1 : Int32)), z5) hn15 hI17 _ _ _ ⟨hP, hD, hS, lv_sub hl [1, 2, 0] rfl⟩
    · have h := h.2 c_14
      refine lv_aload_n hx hb dX6_removeRedundant_32 rfl (lv_at hl 0 rfl) ?_
      refine lv_iload_n hx hb dX6_removeRedundant_33 rfl (lv_at hl 2 rfl) ?_
      refine kc_v (wr := ([] : va_W)) (va_runV (As := [.int x4]) (rest := []) ⟨hx, hb, hml, hown, hts⟩ (c_X6_drop l G ad _ z5 u2 er us un od li u3 lm hs x4 h) (cwV 1 hts gX6_removeRedundant_X6_drop rfl rfl rfl (by decide +kernel) ⟨Nat.le_of_ble_eq_true rfl, Nat.le_of_ble_eq_true rfl⟩) (kpV hK hP hD hZ hS hA [0, 1, 2, 3, 4, 5, 6, 7] rfl (by decide) (q0 := 0) (ci := 6) rfl rfl) rfl rfl hl.1 rfl (lv_room (Nat.le_of_ble_eq_true rfl)) dX6_removeRedundant_34 ⟨Nat.zero_le _, Nat.zero_le _⟩) hP hD hS hA [0, 1, 2, 3, 4, 5, 6, 7] [] rfl rfl (by decide) (by decide) (fun w23 H locs h hP hD hS => ?_)
      obtain ⟨u19, rfl⟩ : ∃ z, z = w23 := ⟨_, rfl⟩
      have hP : va_P G.1 vwCl (wM G ad u19 u2 er us un od li u3 lm hs) H := hP
      have hD : va_D A (wM G ad u19 u2 er us un od li u3 lm hs) := hD
      try dsimp only at h
      refine lv_aload_n hx hb dX6_removeRedundant_37 rfl (lv_at hl 0 rfl) ?_
      refine va_get (D := G.1) (ci := 6) (v := .ref (ad 1)) (C := RX6) (T := TX6) (N := 10) hx hb hts hinX6 hown hK.1 hP 0 rfl rfl 0 (by decide) (hts (.fieldLink RX6 7 "PlaFolderModel" "now" "[I") (by decide +kernel)) (fun _ h9 => h9) rfl dX6_removeRedundant_38 ?_
      refine lv_iconst (v := (nI 2)) hx hb dX6_removeRedundant_41 (by decide) ?_
      refine x_iald hx hb hK hP 1 rfl (vin_c (by decide)) (k := 2) (by decide) dX6_removeRedundant_42 ?_
      refine lv_istore_n (lv' := [(2, .int (u19 2)), (0, .ref (ad 0)), (1, .int (nw 2))]) hx hb dX6_removeRedundant_43 rfl hl (by decide) rfl (fun ls hl => ?_)
      refine lv_iinc (v := ((u19 2) + (-1 : Int32))) (lv' := [(2, .int ((u19 2) + (-1 : Int32))), (0, .ref (ad 0)), (1, .int (nw 2))]) hx hb dX6_removeRedundant_44 hl (k := 0) rfl rfl (by decide) rfl (fun ls hl => ?_)
      refine lv_goto (tgt := 20) hx hb dX6_removeRedundant_47 (by decide) ?_
      obtain ⟨n21, hn20, hI22⟩ := h
      exact ih10 n21 (((u19 2) + (-1 : Int32)), u19) hn20 hI22 _ _ _ ⟨hP, hD, hS, lv_sub hl [1, 2, 0] rfl⟩
