def wp_X6_mustPrecede (a1 : Int32) (a2 : Int32) (nw : Nat → Int32) (er : Nat → Int32) (us : Nat → Int32) (un : Nat → Int32) (K : Int32 → (Nat → Int32) → (Nat → Int32) → (Nat → Int32) → Prop) : Prop :=
 wp_X6_isTerm a1 nw (fun (r1 : Int32) => ((r1 = 0 → wp_X6_error (-2 : Int32) er (fun (r3 : Int32) (u4 : Nat → Int32) => K r3 u4 us un)) ∧
 (¬ (r1 = 0) → wp_X6_isTerm a2 nw (fun (r6 : Int32) => ((¬ r6 = 0 → wp_X6_layDemands nw us un (fun (u9 : Nat → Int32) (u10 : Nat → Int32) => (vp_in a1 10 ∧ (Lp2 (u10 a1.toNatClampNeg) (0 : Int32) (fun (x12 : Int32) (x13 : Int32) (J17 : Int32 → Int32 → Prop) => (((nI 10) ≤ x13 → wp_X6_has x12 a2 (fun (r21 : Int32) => ((r21 = 0 → K (0 : Int32) er u9 u10) ∧
 (¬ (r21 = 0) → K (1 : Int32) er u9 u10)))) ∧
 (¬ ((nI 10) ≤ x13) → (Lp2 x12 (0 : Int32) (fun (x24 : Int32) (x25 : Int32) (J29 : Int32 → Int32 → Prop) => (((nI 10) ≤ x25 → J17 x24 (x13 + (1 : Int32))) ∧
 (¬ ((nI 10) ≤ x25) → wp_X6_has x24 x25 (fun (r36 : Int32) => (Jn1 (fun (y38 : Int32) => J29 (x24 ||| y38) (x25 + (1 : Int32)))
 (fun (J39 : Int32 → Prop) => ((r36 = 0 → J39 (0 : Int32)) ∧
 (¬ (r36 = 0) → (vp_in x25 10 ∧ J39 (u10 x25.toNatClampNeg)))))))))))))))))) ∧
 (r6 = 0 → wp_X6_error (-2 : Int32) er (fun (r48 : Int32) (u49 : Nat → Int32) => K r48 u49 us un)))))))
abbrev rm_X6_mustPrecede : Room := { frames := 4, cells := 0, slots := 0, locals := 87 }
set_option maxHeartbeats 4000000 in
set_option maxRecDepth 100000 in
theorem c_X6_mustPrecede (l : Launch) (G : GG) (ad : Nat → Nat) (sz : Nat) (nw : Nat → Int32) (ps : Nat → Int32) (er : Nat → Int32) (us : Nat → Int32) (un : Nat → Int32) (od : Nat → Int32) (li : Nat → Int32) (st : Int32) (lm : Int32) (hs : Int64) (a1 : Int32) (a2 : Int32) {K : Int32 → (Nat → Int32) → (Nat → Int32) → (Nat → Int32) → Prop} (h : wp_X6_mustPrecede a1 a2 nw er us un K) : CI l yX6_mustPrecede wsX6_mustPrecede rm_X6_mustPrecede G [.ref (ad 0), .int a1, .int a2] (wM G ad nw ps er us un od li st lm hs) sz (fun u : (Nat → Int32) × (Nat → Int32) × (Nat → Int32) => wM G ad nw ps u.1 u.2.1 u.2.2 od li st lm hs) (fun r u => K r u.1 u.2.1 u.2.2) := by
  refine Met.ofW (cc := cX6_mustPrecede) (maxL := 6) (ret := (some .int)) (by decide) rfl ?_
  intro p e s m args below meth c s₁ B hml hv
  obtain ⟨rfl, hsz, hP, hK, hD0, hZ⟩ := hv
  have hx := B.exec
  have hb := B.bytes
  have hr := B.returns
  have hts := atoms_spec (ws := wsX6_mustPrecede) B.pre
  have hown : s.vm.findClass RX6 = some m.cls := findClass_of_methodNamed B.named
  have hlocks := B.notSynchronized
  subst hsz
  have hD := hD0.self (sz := s.heap.size)
  generalize hAe : va_A (wM G ad nw ps er us un od li st lm hs) s.heap.size = A at hD hZ ⊢
  have hA : ∀ q : Nat, s.heap.size ≤ q → A q := fun q h => by rw [← hAe]; exact Or.inr h
  have hS : va_S A s.heap s.heap [] := va_S.rf
  have hl := lv_entry ([.ref (ad 0), .int a1, .int a2]) (n := 6) (Nat.le_of_ble_eq_true rfl)
  rw [lg_entry_eq]
  generalize (lg_sl ([.ref (ad 0), .int a1, .int a2]) ++ List.replicate (6 - (lg_sl ([.ref (ad 0), .int a1, .int a2])).length) Slot.unset).toArray = ls at hl ⊢
  have hl : lv_has ls 6 [(0, .ref (ad 0)), (1, .int a1), (2, .int a2)] := hl
  unfold wp_X6_mustPrecede at h
  have hinX6 : ∀ w ∈ wsX60, w ∈ wsX6_mustPrecede := by decide +kernel
  refine lv_aload_n hx hb dX6_mustPrecede_0 rfl (lv_at hl 0 rfl) ?_
  refine lv_iload_n hx hb dX6_mustPrecede_1 rfl (lv_at hl 1 rfl) ?_
  refine kc_i (wr := ([] : va_W)) (va_runV (As := [.int a1]) (rest := []) ⟨hx, hb, hml, hown, hts⟩ (c_X6_isTerm l G ad _ nw ps er us un od li st lm hs a1 h) (cwV 1 hts gX6_mustPrecede_X6_isTerm rfl rfl rfl (by decide +kernel) ⟨Nat.le_of_ble_eq_true rfl, Nat.le_of_ble_eq_true rfl⟩) (kpV hK hP hD hZ hS hA [0, 1, 2, 3, 4, 5, 6, 7] rfl (by decide) (q0 := 0) (ci := 6) rfl rfl) rfl rfl hl.1 rfl (lv_room (Nat.le_of_ble_eq_true rfl)) dX6_mustPrecede_2 ⟨Nat.zero_le _, Nat.zero_le _⟩) hP hD hS hA [0, 1, 2, 3, 4, 5, 6, 7] [] rfl rfl (by decide) (by decide) (fun r1 w52 H locs h hP hD hS => ?_)
  have hP : va_P G.1 vwCl (wM G ad nw ps er us un od li st lm hs) H := hP
  have hD : va_D A (wM G ad nw ps er us un od li st lm hs) := hD
  try dsimp only at h
  refine lv_if_eq (tgt := 16) hx hb dX6_mustPrecede_5 (by decide) (fun c_2 => ?_) (fun c_2 => ?_)
  · have h := h.1 c_2
    refine lv_aload_n hx hb dX6_mustPrecede_16 rfl (lv_at hl 0 rfl) ?_
    refine lv_bipush (v := (-2 : Int32)) hx hb dX6_mustPrecede_17 (by decide) ?_
    refine kc_i (wr := ([] : va_W)) (va_runV (As := [.int (-2 : Int32)]) (rest := []) ⟨hx, hb, hml, hown, hts⟩ (c_X6_error l G ad _ nw ps er us un od li st lm hs (-2 : Int32) h) (cwV 1 hts gX6_mustPrecede_X6_error rfl rfl rfl (by decide +kernel) ⟨Nat.le_of_ble_eq_true rfl, Nat.le_of_ble_eq_true rfl⟩) (kpV hK hP hD hZ hS hA [0, 1, 2, 3, 4, 5, 6, 7] rfl (by decide) (q0 := 0) (ci := 6) rfl rfl) rfl rfl hl.1 rfl (lv_room (Nat.le_of_ble_eq_true rfl)) dX6_mustPrecede_19 ⟨Nat.zero_le _, Nat.zero_le _⟩) hP hD hS hA [0, 1, 2, 3, 4, 5, 6, 7] [] rfl rfl (by decide) (by decide) (fun r3 w5 H locs h hP hD hS => ?_)
    obtain ⟨u4, rfl⟩ : ∃ z, z = w5 := ⟨_, rfl⟩
    have hP : va_P G.1 vwCl (wM G ad nw ps u4 us un od li st lm hs) H := hP
    have hD : va_D A (wM G ad nw ps u4 us un od li st lm hs) := hD
    try dsimp only at h
    exact W.iret hx hb hr (fun t ht hW => ⟨⟨_, (u4, us, un), rfl, h, by rw [ht]; exact hP, hD⟩, hS.F ht⟩) hS.2.2 dX6_mustPrecede_22
  · have h := h.2 c_2
    refine lv_aload_n hx hb dX6_mustPrecede_8 rfl (lv_at hl 0 rfl) ?_
    refine lv_iload_n hx hb dX6_mustPrecede_9 rfl (lv_at hl 2 rfl) ?_
    refine kc_i (wr := ([] : va_W)) (va_runV (As := [.int a2]) (rest := []) ⟨hx, hb, hml, hown, hts⟩ (c_X6_isTerm l G ad _ nw ps er us un od li st lm hs a2 h) (cwV 1 hts gX6_mustPrecede_X6_isTerm rfl rfl rfl (by decide +kernel) ⟨Nat.le_of_ble_eq_true rfl, Nat.le_of_ble_eq_true rfl⟩) (kpV hK hP hD hZ hS hA [0, 1, 2, 3, 4, 5, 6, 7] rfl (by decide) (q0 := 0) (ci := 6) rfl rfl) rfl rfl hl.1 rfl (lv_room (Nat.le_of_ble_eq_true rfl)) dX6_mustPrecede_10 ⟨Nat.zero_le _, Nat.zero_le _⟩) hP hD hS hA [0, 1, 2, 3, 4, 5, 6, 7] [] rfl rfl (by decide) (by decide) (fun r6 w51 H locs h hP hD hS => ?_)
    have hP : va_P G.1 vwCl (wM G ad nw ps er us un od li st lm hs) H := hP
    have hD : va_D A (wM G ad nw ps er us un od li st lm hs) := hD
    try dsimp only at h
    refine lv_if_ne (tgt := 23) hx hb dX6_mustPrecede_13 (by decide) (fun c_7 => ?_) (fun c_7 => ?_)
    · have h := h.1 c_7
      refine lv_aload_n hx hb dX6_mustPrecede_23 rfl (lv_at hl 0 rfl) ?_
      refine kc_v (wr := ([] : va_W)) (va_runV (As := []) (rest := []) ⟨hx, hb, hml, hown, hts⟩ (c_X6_layDemands l G ad _ nw ps er us un od li st lm hs  h) (cwV 0 hts gX6_mustPrecede_X6_layDemands rfl rfl rfl (by decide +kernel) ⟨Nat.le_of_ble_eq_true rfl, Nat.le_of_ble_eq_true rfl⟩) (kpV hK hP hD hZ hS hA [0, 1, 2, 3, 4, 5, 6, 7] rfl (by decide) (q0 := 0) (ci := 6) rfl rfl) rfl rfl hl.1 rfl (lv_room (Nat.le_of_ble_eq_true rfl)) dX6_mustPrecede_24 ⟨Nat.zero_le _, Nat.zero_le _⟩) hP hD hS hA [0, 1, 2, 3, 4, 5, 6, 7] [] rfl rfl (by decide) (by decide) (fun w47 H locs h hP hD hS => ?_)
      obtain ⟨u9, u10⟩ := w47
      have hP : va_P G.1 vwCl (wM G ad nw ps er u9 u10 od li st lm hs) H := hP
      have hD : va_D A (wM G ad nw ps er u9 u10 od li st lm hs) := hD
      try dsimp only at h
      refine lv_aload_n hx hb dX6_mustPrecede_27 rfl (lv_at hl 0 rfl) ?_
      refine va_get (D := G.1) (ci := 6) (v := .ref (ad 5)) (C := RX6) (T := TX6) (N := 10) hx hb hts hinX6 hown hK.1 hP 0 rfl rfl 5 (by decide) (hts (.fieldLink RX6 22 "PlaFolderModel" "under" "[I") (by decide +kernel)) (fun _ h9 => h9) rfl dX6_mustPrecede_28 ?_
      refine lv_iload_n hx hb dX6_mustPrecede_31 rfl (lv_at hl 1 rfl) ?_
      obtain ⟨hi11, h⟩ := h
      refine x_iald hx hb hK hP 5 rfl hi11 rfl dX6_mustPrecede_32 ?_
      refine lv_istore_n (lv' := [(3, .int (u10 a1.toNatClampNeg)), (0, .ref (ad 0)), (1, .int a1), (2, .int a2)]) hx hb dX6_mustPrecede_33 rfl hl (by decide) rfl (fun ls hl => ?_)
      refine lv_iconst (v := (0 : Int32)) hx hb dX6_mustPrecede_34 (by decide) ?_
      refine lv_istore (lv' := [(4, .int (0 : Int32)), (3, .int (u10 a1.toNatClampNeg)), (0, .ref (ad 0)), (1, .int a1), (2, .int a2)]) hx hb dX6_mustPrecede_35 hl (by decide) rfl (fun ls hl => ?_)
      obtain ⟨I14, n15, h0, hst16⟩ := h
      refine loopW (σ := Int32 × Int32) (P := fun q H locs ls => va_P G.1 vwCl (wM G ad nw ps er u9 u10 od li st lm hs) H ∧ va_D A (wM G ad nw ps er u9 u10 od li st lm hs) ∧ va_S A s.heap H locs ∧ lv_has ls 6 [(0, .ref (ad 0)), (2, .int a2), (3, .int q.1), (4, .int q.2)]) (I := fun n q => I14 n q.1 q.2) n15 ((u10 a1.toNatClampNeg), (0 : Int32)) h0 _ _ _ ⟨hP, hD, hS, lv_sub hl [2, 4, 1, 0] rfl⟩ ?_
      rintro n19 ⟨x12, x13⟩ hI ih18 H locs ls ⟨hP, hD, hS, hl⟩
      have hP : va_P G.1 vwCl (wM G ad nw ps er u9 u10 od li st lm hs) H := hP
      have hD : va_D A (wM G ad nw ps er u9 u10 od li st lm hs) := hD
      have hl : lv_has ls 6 [(0, .ref (ad 0)), (2, .int a2), (3, .int x12), (4, .int x13)] := hl
      have h := hst16 n19 x12 x13 hI
      refine lv_iload hx hb dX6_mustPrecede_37 (lv_at hl 3 rfl) ?_
      refine lv_bipush (v := (nI 10)) hx hb dX6_mustPrecede_39 (by decide) ?_
      refine lv_icmp_ge (tgt := 89) hx hb dX6_mustPrecede_41 (by decide) (fun c_20 => ?_) (fun c_20 => ?_)
      · have h := h.1 c_20
        refine lv_iload_n hx hb dX6_mustPrecede_89 rfl (lv_at hl 2 rfl) ?_
        refine lv_iload_n hx hb dX6_mustPrecede_90 rfl (lv_at hl 1 rfl) ?_
        refine kc_i (wr := ([0, 1, 2, 3, 4, 5, 6, 7] : List Nat).filterMap (fun i => (wM G ad nw ps er u9 u10 od li st lm hs)[i]?)) (va_runS (As := [.int x12, .int a2]) (rest := []) ⟨hx, hb, hml, hown, hts⟩ (c_X6_has l G  _  x12 a2 h) (va_cwS 2 hts gX6_mustPrecede_X6_has rfl rfl rfl (by decide +kernel) ⟨Nat.le_of_ble_eq_true rfl, Nat.le_of_ble_eq_true rfl⟩) (kpS hK hP hD hZ hS hA [] rfl (by decide)) rfl rfl hl.1 rfl (lv_room (Nat.le_of_ble_eq_true rfl)) dX6_mustPrecede_91 ⟨Nat.zero_le _, Nat.zero_le _⟩) hP hD hS hA [] [0, 1, 2, 3, 4, 5, 6, 7] rfl rfl (by decide) (by decide) (fun r21 w23 H locs h hP hD hS => ?_)
        have hP : va_P G.1 vwCl (wM G ad nw ps er u9 u10 od li st lm hs) H := hP
        have hD : va_D A (wM G ad nw ps er u9 u10 od li st lm hs) := hD
        try dsimp only at h
        refine lv_if_eq (tgt := 101) hx hb dX6_mustPrecede_94 (by decide) (fun c_22 => ?_) (fun c_22 => ?_)
        · have h := h.1 c_22
          refine lv_iconst (v := (0 : Int32)) hx hb dX6_mustPrecede_101 (by decide) ?_
          exact W.iret hx hb hr (fun t ht hW => ⟨⟨_, (er, u9, u10), rfl, h, by rw [ht]; exact hP, hD⟩, hS.F ht⟩) hS.2.2 dX6_mustPrecede_102
        · have h := h.2 c_22
          refine lv_iconst (v := (1 : Int32)) hx hb dX6_mustPrecede_97 (by decide) ?_
          refine lv_goto (tgt := 102) hx hb dX6_mustPrecede_98 (by decide) ?_
          exact W.iret hx hb hr (fun t ht hW => ⟨⟨_, (er, u9, u10), rfl, h, by rw [ht]; exact hP, hD⟩, hS.F ht⟩) hS.2.2 dX6_mustPrecede_102
      · have h := h.2 c_20
        refine lv_iconst (v := (0 : Int32)) hx hb dX6_mustPrecede_44 (by decide) ?_
        refine lv_istore (lv' := [(5, .int (0 : Int32)), (0, .ref (ad 0)), (2, .int a2), (3, .int x12), (4, .int x13)]) hx hb dX6_mustPrecede_45 hl (by decide) rfl (fun ls hl => ?_)
        obtain ⟨I26, n27, h0, hst28⟩ := h
        refine loopW (σ := Int32 × Int32) (P := fun q H locs ls => va_P G.1 vwCl (wM G ad nw ps er u9 u10 od li st lm hs) H ∧ va_D A (wM G ad nw ps er u9 u10 od li st lm hs) ∧ va_S A s.heap H locs ∧ lv_has ls 6 [(0, .ref (ad 0)), (2, .int a2), (3, .int q.1), (4, .int x13), (5, .int q.2)]) (I := fun n q => I26 n q.1 q.2) n27 (x12, (0 : Int32)) h0 _ _ _ ⟨hP, hD, hS, lv_sub hl [1, 2, 3, 4, 0] rfl⟩ ?_
        rintro n31 ⟨x24, x25⟩ hI ih30 H locs ls ⟨hP, hD, hS, hl⟩
        have hP : va_P G.1 vwCl (wM G ad nw ps er u9 u10 od li st lm hs) H := hP
        have hD : va_D A (wM G ad nw ps er u9 u10 od li st lm hs) := hD
        have hl : lv_has ls 6 [(0, .ref (ad 0)), (2, .int a2), (3, .int x24), (4, .int x13), (5, .int x25)] := hl
        have h := hst28 n31 x24 x25 hI
        refine lv_iload hx hb dX6_mustPrecede_47 (lv_at hl 4 rfl) ?_
        refine lv_bipush (v := (nI 10)) hx hb dX6_mustPrecede_49 (by decide) ?_
        refine lv_icmp_ge (tgt := 83) hx hb dX6_mustPrecede_51 (by decide) (fun c_32 => ?_) (fun c_32 => ?_)
        · have h := h.1 c_32
          refine lv_iinc (v := (x13 + (1 : Int32))) (lv' := [(4, .int (x13 + (1 : Int32))), (0, .ref (ad 0)), (2, .int a2), (3, .int x24), (5, .int x25)]) hx hb dX6_mustPrecede_83 hl (k := 3) rfl rfl (by decide) rfl (fun ls hl => ?_)
          refine lv_goto (tgt := 37) hx hb dX6_mustPrecede_86 (by decide) ?_
          obtain ⟨n34, hn33, hI35⟩ := h
          exact ih18 n34 (x24, (x13 + (1 : Int32))) hn33 hI35 _ _ _ ⟨hP, hD, hS, lv_sub hl [1, 2, 3, 0] rfl⟩
        · have h := h.2 c_32
          refine lv_iload_n hx hb dX6_mustPrecede_54 rfl (lv_at hl 2 rfl) ?_
          refine lv_iload_n hx hb dX6_mustPrecede_55 rfl (lv_at hl 2 rfl) ?_
          refine lv_iload hx hb dX6_mustPrecede_56 (lv_at hl 4 rfl) ?_
          refine kc_i (wr := ([0, 1, 2, 3, 4, 5, 6, 7] : List Nat).filterMap (fun i => (wM G ad nw ps er u9 u10 od li st lm hs)[i]?)) (va_runS (As := [.int x24, .int x25]) (rest := [.int x24]) ⟨hx, hb, hml, hown, hts⟩ (c_X6_has l G  _  x24 x25 h) (va_cwS 2 hts gX6_mustPrecede_X6_has rfl rfl rfl (by decide +kernel) ⟨Nat.le_of_ble_eq_true rfl, Nat.le_of_ble_eq_true rfl⟩) (kpS hK hP hD hZ hS hA [] rfl (by decide)) rfl rfl hl.1 rfl (lv_room (Nat.le_of_ble_eq_true rfl)) dX6_mustPrecede_58 ⟨Nat.zero_le _, Nat.zero_le _⟩) hP hD hS hA [] [0, 1, 2, 3, 4, 5, 6, 7] rfl rfl (by decide) (by decide) (fun r36 w46 H locs h hP hD hS => ?_)
          have hP : va_P G.1 vwCl (wM G ad nw ps er u9 u10 od li st lm hs) H := hP
          have hD : va_D A (wM G ad nw ps er u9 u10 od li st lm hs) := hD
          try dsimp only at h
          obtain ⟨J39, hJ45, h⟩ := h
          refine joinW (σ := Int32) (J := fun q => J39 q) (pc := 75) (st := fun q => .int q :: .int x24 :: []) (P := fun q H locs ls => va_P G.1 vwCl (wM G ad nw ps er u9 u10 od li st lm hs) H ∧ va_D A (wM G ad nw ps er u9 u10 od li st lm hs) ∧ va_S A s.heap H locs ∧ lv_has ls 6 [(0, .ref (ad 0)), (2, .int a2), (4, .int x13), (5, .int x25)]) ?_ (fun join40 => ?_)
          · rintro y38 h H locs ls ⟨hP, hD, hS, hl⟩
            have hP : va_P G.1 vwCl (wM G ad nw ps er u9 u10 od li st lm hs) H := hP
            have hD : va_D A (wM G ad nw ps er u9 u10 od li st lm hs) := hD
            have hl : lv_has ls 6 [(0, .ref (ad 0)), (2, .int a2), (4, .int x13), (5, .int x25)] := hl
            have h := hJ45 y38 h
            refine W.eq (g2 := F0 m 75 ls (.int y38 :: .int x24 :: [])) rfl ?_
            refine lv_ior hx hb dX6_mustPrecede_75 ?_
            refine lv_istore_n (lv' := [(3, .int (x24 ||| y38)), (0, .ref (ad 0)), (2, .int a2), (4, .int x13), (5, .int x25)]) hx hb dX6_mustPrecede_76 rfl hl (by decide) rfl (fun ls hl => ?_)
            refine lv_iinc (v := (x25 + (1 : Int32))) (lv' := [(5, .int (x25 + (1 : Int32))), (3, .int (x24 ||| y38)), (0, .ref (ad 0)), (2, .int a2), (4, .int x13)]) hx hb dX6_mustPrecede_77 hl (k := 4) rfl rfl (by decide) rfl (fun ls hl => ?_)
            refine lv_goto (tgt := 47) hx hb dX6_mustPrecede_80 (by decide) ?_
            obtain ⟨n42, hn41, hI43⟩ := h
            exact ih30 n42 ((x24 ||| y38), (x25 + (1 : Int32))) hn41 hI43 _ _ _ ⟨hP, hD, hS, lv_sub hl [2, 3, 1, 4, 0] rfl⟩
          · refine lv_if_eq (tgt := 74) hx hb dX6_mustPrecede_61 (by decide) (fun c_37 => ?_) (fun c_37 => ?_)
            · have h := h.1 c_37
              refine lv_iconst (v := (0 : Int32)) hx hb dX6_mustPrecede_74 (by decide) ?_
              exact join40 (0 : Int32) h _ _ _ ⟨hP, hD, hS, lv_sub hl [0, 1, 3, 4] rfl⟩
            · have h := h.2 c_37
              refine lv_aload_n hx hb dX6_mustPrecede_64 rfl (lv_at hl 0 rfl) ?_
              refine va_get (D := G.1) (ci := 6) (v := .ref (ad 5)) (C := RX6) (T := TX6) (N := 10) hx hb hts hinX6 hown hK.1 hP 0 rfl rfl 5 (by decide) (hts (.fieldLink RX6 22 "PlaFolderModel" "under" "[I") (by decide +kernel)) (fun _ h9 => h9) rfl dX6_mustPrecede_65 ?_
              refine lv_iload hx hb dX6_mustPrecede_68 (lv_at hl 4 rfl) ?_
              obtain ⟨hi44, h⟩ := h
              refine x_iald hx hb hK hP 5 rfl hi44 rfl dX6_mustPrecede_70 ?_
              refine lv_goto (tgt := 75) hx hb dX6_mustPrecede_71 (by decide) ?_
              exact join40 (u10 x25.toNatClampNeg) h _ _ _ ⟨hP, hD, hS, lv_sub hl [0, 1, 3, 4] rfl⟩
    · have h := h.2 c_7
      refine lv_aload_n hx hb dX6_mustPrecede_16 rfl (lv_at hl 0 rfl) ?_
      refine lv_bipush (v := (-2 : Int32)) hx hb dX6_mustPrecede_17 (by decide) ?_
      refine kc_i (wr := ([] : va_W)) (va_runV (As := [.int (-2 : Int32)]) (rest := []) ⟨hx, hb, hml, hown, hts⟩ (c_X6_error l G ad _ nw ps er us un od li st lm hs (-2 : Int32) h) (cwV 1 hts gX6_mustPrecede_X6_error rfl rfl rfl (by decide +kernel) ⟨Nat.le_of_ble_eq_true rfl, Nat.le_of_ble_eq_true rfl⟩) (kpV hK hP hD hZ hS hA [0, 1, 2, 3, 4, 5, 6, 7] rfl (by decide) (q0 := 0) (ci := 6) rfl rfl) rfl rfl hl.1 rfl (lv_room (Nat.le_of_ble_eq_true rfl)) dX6_mustPrecede_19 ⟨Nat.zero_le _, Nat.zero_le _⟩) hP hD hS hA [0, 1, 2, 3, 4, 5, 6, 7] [] rfl rfl (by decide) (by decide) (fun r48 w50 H locs h hP hD hS => ?_)
      obtain ⟨u49, rfl⟩ : ∃ z, z = w50 := ⟨_, rfl⟩
      have hP : va_P G.1 vwCl (wM G ad nw ps u49 us un od li st lm hs) H := hP
      have hD : va_D A (wM G ad nw ps u49 us un od li st lm hs) := hD
      try dsimp only at h
      exact W.iret hx hb hr (fun t ht hW => ⟨⟨_, (u49, us, un), rfl, h, by rw [ht]; exact hP, hD⟩, hS.F ht⟩) hS.2.2 dX6_mustPrecede_22
def wp_X6_areaNow (nw : Nat → Int32) (K : Int32 → Prop) : Prop :=
 wp_X6_foldMany nw (fun (r1 : Int32) => K ((nw 2) * (((nw 0) + (nw 1)) - r1)))
abbrev rm_X6_areaNow : Room := { frames := 1, cells := 0, slots := 0, locals := 22 }
set_option maxHeartbeats 4000000 in
set_option maxRecDepth 100000 in
theorem c_X6_areaNow (l : Launch) (G : GG) (ad : Nat → Nat) (sz : Nat) (nw : Nat → Int32) (ps : Nat → Int32) (er : Nat → Int32) (us : Nat → Int32) (un : Nat → Int32) (od : Nat → Int32) (li : Nat → Int32) (st : Int32) (lm : Int32) (hs : Int64) {K : Int32 → Prop} (h : wp_X6_areaNow nw K) : CI l yX6_areaNow wsX6_areaNow rm_X6_areaNow G [.ref (ad 0)] (wM G ad nw ps er us un od li st lm hs) sz (fun u : Unit => wM G ad nw ps er us un od li st lm hs) (fun r u => K r ) := by
  refine Met.ofW (cc := cX6_areaNow) (maxL := 1) (ret := (some .int)) (by decide) rfl ?_
  intro p e s m args below meth c s₁ B hml hv
  obtain ⟨rfl, hsz, hP, hK, hD0, hZ⟩ := hv
  have hx := B.exec
  have hb := B.bytes
  have hr := B.returns
  have hts := atoms_spec (ws := wsX6_areaNow) B.pre
  have hown : s.vm.findClass RX6 = some m.cls := findClass_of_methodNamed B.named
  have hlocks := B.notSynchronized
  subst hsz
  have hD := hD0.self (sz := s.heap.size)
  generalize hAe : va_A (wM G ad nw ps er us un od li st lm hs) s.heap.size = A at hD hZ ⊢
  have hA : ∀ q : Nat, s.heap.size ≤ q → A q := fun q h => by rw [← hAe]; exact Or.inr h
  have hS : va_S A s.heap s.heap [] := va_S.rf
  have hl := lv_entry ([.ref (ad 0)]) (n := 1) (Nat.le_of_ble_eq_true rfl)
  rw [lg_entry_eq]
  generalize (lg_sl ([.ref (ad 0)]) ++ List.replicate (1 - (lg_sl ([.ref (ad 0)])).length) Slot.unset).toArray = ls at hl ⊢
  have hl : lv_has ls 1 [(0, .ref (ad 0))] := hl
  unfold wp_X6_areaNow at h
  have hinX6 : ∀ w ∈ wsX60, w ∈ wsX6_areaNow := by decide +kernel
  refine lv_aload_n hx hb dX6_areaNow_0 rfl (lv_at hl 0 rfl) ?_
  refine va_get (D := G.1) (ci := 6) (v := .ref (ad 1)) (C := RX6) (T := TX6) (N := 10) hx hb hts hinX6 hown hK.1 hP 0 rfl rfl 0 (by decide) (hts (.fieldLink RX6 7 "PlaFolderModel" "now" "[I") (by decide +kernel)) (fun _ h9 => h9) rfl dX6_areaNow_1 ?_
  refine lv_iconst (v := (nI 2)) hx hb dX6_areaNow_4 (by decide) ?_
  refine x_iald hx hb hK hP 1 rfl (vin_c (by decide)) (k := 2) (by decide) dX6_areaNow_5 ?_
  refine lv_aload_n hx hb dX6_areaNow_6 rfl (lv_at hl 0 rfl) ?_
  refine va_get (D := G.1) (ci := 6) (v := .ref (ad 1)) (C := RX6) (T := TX6) (N := 10) hx hb hts hinX6 hown hK.1 hP 0 rfl rfl 0 (by decide) (hts (.fieldLink RX6 7 "PlaFolderModel" "now" "[I") (by decide +kernel)) (fun _ h9 => h9) rfl dX6_areaNow_7 ?_
  refine lv_iconst (v := (0 : Int32)) hx hb dX6_areaNow_10 (by decide) ?_
  refine x_iald hx hb hK hP 1 rfl (vin_c (by decide)) (k := 0) (by decide) dX6_areaNow_11 ?_
  refine lv_aload_n hx hb dX6_areaNow_12 rfl (lv_at hl 0 rfl) ?_
  refine va_get (D := G.1) (ci := 6) (v := .ref (ad 1)) (C := RX6) (T := TX6) (N := 10) hx hb hts hinX6 hown hK.1 hP 0 rfl rfl 0 (by decide) (hts (.fieldLink RX6 7 "PlaFolderModel" "now" "[I") (by decide +kernel)) (fun _ h9 => h9) rfl dX6_areaNow_13 ?_
  refine lv_iconst (v := (1 : Int32)) hx hb dX6_areaNow_16 (by decide) ?_
  refine x_iald hx hb hK hP 1 rfl (vin_c (by decide)) (k := 1) (by decide) dX6_areaNow_17 ?_
  refine lv_iadd hx hb dX6_areaNow_18 ?_
  refine lv_aload_n hx hb dX6_areaNow_19 rfl (lv_at hl 0 rfl) ?_
  refine kc_i (wr := ([] : va_W)) (va_runV (As := []) (rest := [.int ((nw 0) + (nw 1)), .int (nw 2)]) ⟨hx, hb, hml, hown, hts⟩ (c_X6_foldMany l G ad _ nw ps er us un od li st lm hs  h) (cwV 0 hts gX6_areaNow_X6_foldMany rfl rfl rfl (by decide +kernel) ⟨Nat.le_of_ble_eq_true rfl, Nat.le_of_ble_eq_true rfl⟩) (kpV hK hP hD hZ hS hA [0, 1, 2, 3, 4, 5, 6, 7] rfl (by decide) (q0 := 0) (ci := 6) rfl rfl) rfl rfl hl.1 rfl (lv_room (Nat.le_of_ble_eq_true rfl)) dX6_areaNow_20 ⟨Nat.zero_le _, Nat.zero_le _⟩) hP hD hS hA [0, 1, 2, 3, 4, 5, 6, 7] [] rfl rfl (by decide) (by decide) (fun r1 w2 H locs h hP hD hS => ?_)
  have hP : va_P G.1 vwCl (wM G ad nw ps er us un od li st lm hs) H := hP
  have hD : va_D A (wM G ad nw ps er us un od li st lm hs) := hD
  try dsimp only at h
  refine lv_isub hx hb dX6_areaNow_23 ?_
  refine lv_imul hx hb dX6_areaNow_24 ?_
  exact W.iret hx hb hr (fun t ht hW => ⟨⟨_, (), rfl, h, by rw [ht]; exact hP, hD⟩, hS.F ht⟩) hS.2.2 dX6_areaNow_25
def wp_X6_area (nw : Nat → Int32) (K : Int32 → Prop) : Prop :=
 wp_X6_areaNow nw (fun (r1 : Int32) => K r1)
abbrev rm_X6_area : Room := { frames := 2, cells := 0, slots := 0, locals := 42 }
set_option maxHeartbeats 4000000 in
set_option maxRecDepth 100000 in
theorem c_X6_area (l : Launch) (G : GG) (ad : Nat → Nat) (sz : Nat) (nw : Nat → Int32) (ps : Nat → Int32) (er : Nat → Int32) (us : Nat → Int32) (un : Nat → Int32) (od : Nat → Int32) (li : Nat → Int32) (st : Int32) (lm : Int32) (hs : Int64) {K : Int32 → Prop} (h : wp_X6_area nw K) : CI l yX6_area wsX6_area rm_X6_area G [.ref (ad 0)] (wM G ad nw ps er us un od li st lm hs) sz (fun u : Unit => wM G ad nw ps er us un od li st lm hs) (fun r u => K r ) := by
  refine Met.ofW (cc := cX6_area) (maxL := 1) (ret := (some .int)) (by decide) rfl ?_
  intro p e s m args below meth c s₁ B hml hv
  obtain ⟨rfl, hsz, hP, hK, hD0, hZ⟩ := hv
  have hx := B.exec
  have hb := B.bytes
  have hr := B.returns
  have hts := atoms_spec (ws := wsX6_area) B.pre
  have hown : s.vm.findClass RX6 = some m.cls := findClass_of_methodNamed B.named
  have hlocks := B.notSynchronized
  subst hsz
  have hD := hD0.self (sz := s.heap.size)
  generalize hAe : va_A (wM G ad nw ps er us un od li st lm hs) s.heap.size = A at hD hZ ⊢
  have hA : ∀ q : Nat, s.heap.size ≤ q → A q := fun q h => by rw [← hAe]; exact Or.inr h
  have hS : va_S A s.heap s.heap [] := va_S.rf
  have hl := lv_entry ([.ref (ad 0)]) (n := 1) (Nat.le_of_ble_eq_true rfl)
  rw [lg_entry_eq]
  generalize (lg_sl ([.ref (ad 0)]) ++ List.replicate (1 - (lg_sl ([.ref (ad 0)])).length) Slot.unset).toArray = ls at hl ⊢
  have hl : lv_has ls 1 [(0, .ref (ad 0))] := hl
  unfold wp_X6_area at h
  refine lv_aload_n hx hb dX6_area_0 rfl (lv_at hl 0 rfl) ?_
  refine kc_i (wr := ([] : va_W)) (va_runV (As := []) (rest := []) ⟨hx, hb, hml, hown, hts⟩ (c_X6_areaNow l G ad _ nw ps er us un od li st lm hs  h) (cwV 0 hts gX6_area_X6_areaNow rfl rfl rfl (by decide +kernel) ⟨Nat.le_of_ble_eq_true rfl, Nat.le_of_ble_eq_true rfl⟩) (kpV hK hP hD hZ hS hA [0, 1, 2, 3, 4, 5, 6, 7] rfl (by decide) (q0 := 0) (ci := 6) rfl rfl) rfl rfl hl.1 rfl (lv_room (Nat.le_of_ble_eq_true rfl)) dX6_area_1 ⟨Nat.zero_le _, Nat.zero_le _⟩) hP hD hS hA [0, 1, 2, 3, 4, 5, 6, 7] [] rfl rfl (by decide) (by decide) (fun r1 w2 H locs h hP hD hS => ?_)
  have hP : va_P G.1 vwCl (wM G ad nw ps er us un od li st lm hs) H := hP
  have hD : va_D A (wM G ad nw ps er us un od li st lm hs) := hD
  try dsimp only at h
  exact W.iret hx hb hr (fun t ht hW => ⟨⟨_, (), rfl, h, by rw [ht]; exact hP, hD⟩, hS.F ht⟩) hS.2.2 dX6_area_4
def wp_X6_spanOf (a1 : Int32) (nw : Nat → Int32) (us : Nat → Int32) (od : Nat → Int32) (K : Int32 → Prop) : Prop :=
 (Lp3 (-1 : Int32) (-1 : Int32) (0 : Int32) (fun (x1 : Int32) (x2 : Int32) (x3 : Int32) (J7 : Int32 → Int32 → Int32 → Prop) => (((nw 2) ≤ x3 → ((¬ x1 = (-1 : Int32) → K ((x2 - x1) + (1 : Int32))) ∧
 (x1 = (-1 : Int32) → K (0 : Int32)))) ∧
 (¬ ((nw 2) ≤ x3) → (vp_in a1 10 ∧ (vp_in x3 10 ∧ wp_X6_has (us a1.toNatClampNeg) (od x3.toNatClampNeg) (fun (r14 : Int32) => ((r14 = 0 → J7 x1 x2 (x3 + (1 : Int32))) ∧
 (¬ (r14 = 0) → (Jn1 (fun (y20 : Int32) => J7 y20 x3 (x3 + (1 : Int32)))
 (fun (J21 : Int32 → Prop) => ((¬ x1 = (-1 : Int32) → J21 x1) ∧
 (x1 = (-1 : Int32) → J21 x3)))))))))))))
abbrev rm_X6_spanOf : Room := { frames := 1, cells := 0, slots := 0, locals := 21 }
set_option maxHeartbeats 4000000 in
set_option maxRecDepth 100000 in
theorem c_X6_spanOf (l : Launch) (G : GG) (ad : Nat → Nat) (sz : Nat) (nw : Nat → Int32) (ps : Nat → Int32) (er : Nat → Int32) (us : Nat → Int32) (un : Nat → Int32) (od : Nat → Int32) (li : Nat → Int32) (st : Int32) (lm : Int32) (hs : Int64) (a1 : Int32) {K : Int32 → Prop} (h : wp_X6_spanOf a1 nw us od K) : CI l yX6_spanOf wsX6_spanOf rm_X6_spanOf G [.ref (ad 0), .int a1] (wM G ad nw ps er us un od li st lm hs) sz (fun u : Unit => wM G ad nw ps er us un od li st lm hs) (fun r u => K r ) := by
  refine Met.ofW (cc := cX6_spanOf) (maxL := 5) (ret := (some .int)) (by decide) rfl ?_
  intro p e s m args below meth c s₁ B hml hv
  obtain ⟨rfl, hsz, hP, hK, hD0, hZ⟩ := hv
  have hx := B.exec
  have hb := B.bytes
  have hr := B.returns
  have hts := atoms_spec (ws := wsX6_spanOf) B.pre
  have hown : s.vm.findClass RX6 = some m.cls := findClass_of_methodNamed B.named
  have hlocks := B.notSynchronized
  subst hsz
  have hD := hD0.self (sz := s.heap.size)
  generalize hAe : va_A (wM G ad nw ps er us un od li st lm hs) s.heap.size = A at hD hZ ⊢
  have hA : ∀ q : Nat, s.heap.size ≤ q → A q := fun q h => by rw [← hAe]; exact Or.inr h
  have hS : va_S A s.heap s.heap [] := va_S.rf
  have hl := lv_entry ([.ref (ad 0), .int a1]) (n := 5) (Nat.le_of_ble_eq_true rfl)
  rw [lg_entry_eq]
  generalize (lg_sl ([.ref (ad 0), .int a1]) ++ List.replicate (5 - (lg_sl ([.ref (ad 0), .int a1])).length) Slot.unset).toArray = ls at hl ⊢
  have hl : lv_has ls 5 [(0, .ref (ad 0)), (1, .int a1)] := hl
  unfold wp_X6_spanOf at h
  have hinX6 : ∀ w ∈ wsX60, w ∈ wsX6_spanOf := by decide +kernel
  refine lv_iconst (v := (-1 : Int32)) hx hb dX6_spanOf_0 (by decide) ?_
  refine lv_istore_n (lv' := [(2, .int (-1 : Int32)), (0, .ref (ad 0)), (1, .int a1)]) hx hb dX6_spanOf_1 rfl hl (by decide) rfl (fun ls hl => ?_)
  refine lv_iconst (v := (-1 : Int32)) hx hb dX6_spanOf_2 (by decide) ?_
  refine lv_istore_n (lv' := [(3, .int (-1 : Int32)), (2, .int (-1 : Int32)), (0, .ref (ad 0)), (1, .int a1)]) hx hb dX6_spanOf_3 rfl hl (by decide) rfl (fun ls hl => ?_)
  refine lv_iconst (v := (0 : Int32)) hx hb dX6_spanOf_4 (by decide) ?_
  refine lv_istore (lv' := [(4, .int (0 : Int32)), (3, .int (-1 : Int32)), (2, .int (-1 : Int32)), (0, .ref (ad 0)), (1, .int a1)]) hx hb dX6_spanOf_5 hl (by decide) rfl (fun ls hl => ?_)
  obtain ⟨I4, n5, h0, hst6⟩ := h
  refine loopW (σ := Int32 × Int32 × Int32) (P := fun q H locs ls => va_P G.1 vwCl (wM G ad nw ps er us un od li st lm hs) H ∧ va_D A (wM G ad nw ps er us un od li st lm hs) ∧ va_S A s.heap H locs ∧ lv_has ls 5 [(0, .ref (ad 0)), (1, .int a1), (2, .int q.1), (3, .int q.2.1), (4, .int q.2.2)]) (I := fun n q => I4 n q.1 q.2.1 q.2.2) n5 ((-1 : Int32), (-1 : Int32), (0 : Int32)) h0 _ _ _ ⟨hP, hD, hS, lv_sub hl [3, 4, 2, 1, 0] rfl⟩ ?_
  rintro n9 ⟨x1, x2, x3⟩ hI ih8 H locs ls ⟨hP, hD, hS, hl⟩
  have hP : va_P G.1 vwCl (wM G ad nw ps er us un od li st lm hs) H := hP
  have hD : va_D A (wM G ad nw ps er us un od li st lm hs) := hD
  have hl : lv_has ls 5 [(0, .ref (ad 0)), (1, .int a1), (2, .int x1), (3, .int x2), (4, .int x3)] := hl
  have h := hst6 n9 x1 x2 x3 hI
  refine lv_iload hx hb dX6_spanOf_7 (lv_at hl 4 rfl) ?_
  refine lv_aload_n hx hb dX6_spanOf_9 rfl (lv_at hl 0 rfl) ?_
  refine va_get (D := G.1) (ci := 6) (v := .ref (ad 1)) (C := RX6) (T := TX6) (N := 10) hx hb hts hinX6 hown hK.1 hP 0 rfl rfl 0 (by decide) (hts (.fieldLink RX6 7 "PlaFolderModel" "now" "[I") (by decide +kernel)) (fun _ h9 => h9) rfl dX6_spanOf_10 ?_
  refine lv_iconst (v := (nI 2)) hx hb dX6_spanOf_13 (by decide) ?_
  refine x_iald hx hb hK hP 1 rfl (vin_c (by decide)) (k := 2) (by decide) dX6_spanOf_14 ?_
  refine lv_icmp_ge (tgt := 58) hx hb dX6_spanOf_15 (by decide) (fun c_10 => ?_) (fun c_10 => ?_)
  · have h := h.1 c_10
    refine lv_iload_n hx hb dX6_spanOf_58 rfl (lv_at hl 2 rfl) ?_
    refine lv_iconst (v := (-1 : Int32)) hx hb dX6_spanOf_59 (by decide) ?_
    refine lv_icmp_ne (tgt := 67) hx hb dX6_spanOf_60 (by decide) (fun c_11 => ?_) (fun c_11 => ?_)
    · have h := h.1 c_11
      refine lv_iload_n hx hb dX6_spanOf_67 rfl (lv_at hl 3 rfl) ?_
      refine lv_iload_n hx hb dX6_spanOf_68 rfl (lv_at hl 2 rfl) ?_
      refine lv_isub hx hb dX6_spanOf_69 ?_
      refine lv_iconst (v := (1 : Int32)) hx hb dX6_spanOf_70 (by decide) ?_
      refine lv_iadd hx hb dX6_spanOf_71 ?_
      exact W.iret hx hb hr (fun t ht hW => ⟨⟨_, (), rfl, h, by rw [ht]; exact hP, hD⟩, hS.F ht⟩) hS.2.2 dX6_spanOf_72
    · have h := h.2 c_11
      refine lv_iconst (v := (0 : Int32)) hx hb dX6_spanOf_63 (by decide) ?_
      refine lv_goto (tgt := 72) hx hb dX6_spanOf_64 (by decide) ?_
      exact W.iret hx hb hr (fun t ht hW => ⟨⟨_, (), rfl, h, by rw [ht]; exact hP, hD⟩, hS.F ht⟩) hS.2.2 dX6_spanOf_72
  · have h := h.2 c_10
    refine lv_aload_n hx hb dX6_spanOf_18 rfl (lv_at hl 0 rfl) ?_
    refine va_get (D := G.1) (ci := 6) (v := .ref (ad 4)) (C := RX6) (T := TX6) (N := 10) hx hb hts hinX6 hown hK.1 hP 0 rfl rfl 4 (by decide) (hts (.fieldLink RX6 19 "PlaFolderModel" "used" "[I") (by decide +kernel)) (fun _ h9 => h9) rfl dX6_spanOf_19 ?_
    refine lv_iload_n hx hb dX6_spanOf_22 rfl (lv_at hl 1 rfl) ?_
    obtain ⟨hi12, h⟩ := h
    refine x_iald hx hb hK hP 4 rfl hi12 rfl dX6_spanOf_23 ?_
    refine lv_aload_n hx hb dX6_spanOf_24 rfl (lv_at hl 0 rfl) ?_
    refine va_get (D := G.1) (ci := 6) (v := .ref (ad 6)) (C := RX6) (T := TX6) (N := 10) hx hb hts hinX6 hown hK.1 hP 0 rfl rfl 6 (by decide) (hts (.fieldLink RX6 25 "PlaFolderModel" "order" "[I") (by decide +kernel)) (fun _ h9 => h9) rfl dX6_spanOf_25 ?_
    refine lv_iload hx hb dX6_spanOf_28 (lv_at hl 4 rfl) ?_
    obtain ⟨hi13, h⟩ := h
    refine x_iald hx hb hK hP 6 rfl hi13 rfl dX6_spanOf_30 ?_
    refine kc_i (wr := ([0, 1, 2, 3, 4, 5, 6, 7] : List Nat).filterMap (fun i => (wM G ad nw ps er us un od li st lm hs)[i]?)) (va_runS (As := [.int (us a1.toNatClampNeg), .int (od x3.toNatClampNeg)]) (rest := []) ⟨hx, hb, hml, hown, hts⟩ (c_X6_has l G  _  (us a1.toNatClampNeg) (od x3.toNatClampNeg) h) (va_cwS 2 hts gX6_spanOf_X6_has rfl rfl rfl (by decide +kernel) ⟨Nat.le_of_ble_eq_true rfl, Nat.le_of_ble_eq_true rfl⟩) (kpS hK hP hD hZ hS hA [] rfl (by decide)) rfl rfl hl.1 rfl (lv_room (Nat.le_of_ble_eq_true rfl)) dX6_spanOf_31 ⟨Nat.zero_le _, Nat.zero_le _⟩) hP hD hS hA [] [0, 1, 2, 3, 4, 5, 6, 7] rfl rfl (by decide) (by decide) (fun r14 w27 H locs h hP hD hS => ?_)
    have hP : va_P G.1 vwCl (wM G ad nw ps er us un od li st lm hs) H := hP
    have hD : va_D A (wM G ad nw ps er us un od li st lm hs) := hD
    try dsimp only at h
    refine lv_if_eq (tgt := 52) hx hb dX6_spanOf_34 (by decide) (fun c_15 => ?_) (fun c_15 => ?_)
    · have h := h.1 c_15
      refine lv_iinc (v := (x3 + (1 : Int32))) (lv' := [(4, .int (x3 + (1 : Int32))), (0, .ref (ad 0)), (1, .int a1), (2, .int x1), (3, .int x2)]) hx hb dX6_spanOf_52 hl (k := 4) rfl rfl (by decide) rfl (fun ls hl => ?_)
      refine lv_goto (tgt := 7) hx hb dX6_spanOf_55 (by decide) ?_
      obtain ⟨n17, hn16, hI18⟩ := h
      exact ih8 n17 (x1, x2, (x3 + (1 : Int32))) hn16 hI18 _ _ _ ⟨hP, hD, hS, lv_sub hl [1, 2, 3, 4, 0] rfl⟩
    · have h := h.2 c_15
      refine lv_iload_n hx hb dX6_spanOf_37 rfl (lv_at hl 2 rfl) ?_
      refine lv_iconst (v := (-1 : Int32)) hx hb dX6_spanOf_38 (by decide) ?_
      obtain ⟨J21, hJ26, h⟩ := h
      refine joinW (σ := Int32) (J := fun q => J21 q) (pc := 48) (st := fun q => .int q :: []) (P := fun q H locs ls => va_P G.1 vwCl (wM G ad nw ps er us un od li st lm hs) H ∧ va_D A (wM G ad nw ps er us un od li st lm hs) ∧ va_S A s.heap H locs ∧ lv_has ls 5 [(0, .ref (ad 0)), (1, .int a1), (4, .int x3)]) ?_ (fun join22 => ?_)
      · rintro y20 h H locs ls ⟨hP, hD, hS, hl⟩
        have hP : va_P G.1 vwCl (wM G ad nw ps er us un od li st lm hs) H := hP
        have hD : va_D A (wM G ad nw ps er us un od li st lm hs) := hD
        have hl : lv_has ls 5 [(0, .ref (ad 0)), (1, .int a1), (4, .int x3)] := hl
        have h := hJ26 y20 h
        refine W.eq (g2 := F0 m 48 ls (.int y20 :: [])) rfl ?_
        refine lv_istore_n (lv' := [(2, .int y20), (0, .ref (ad 0)), (1, .int a1), (4, .int x3)]) hx hb dX6_spanOf_48 rfl hl (by decide) rfl (fun ls hl => ?_)
        refine lv_iload hx hb dX6_spanOf_49 (lv_at hl 3 rfl) ?_
        refine lv_istore_n (lv' := [(3, .int x3), (2, .int y20), (0, .ref (ad 0)), (1, .int a1), (4, .int x3)]) hx hb dX6_spanOf_51 rfl hl (by decide) rfl (fun ls hl => ?_)
        refine lv_iinc (v := (x3 + (1 : Int32))) (lv' := [(4, .int (x3 + (1 : Int32))), (3, .int x3), (2, .int y20), (0, .ref (ad 0)), (1, .int a1)]) hx hb dX6_spanOf_52 hl (k := 4) rfl rfl (by decide) rfl (fun ls hl => ?_)
        refine lv_goto (tgt := 7) hx hb dX6_spanOf_55 (by decide) ?_
        obtain ⟨n24, hn23, hI25⟩ := h
        exact ih8 n24 (y20, x3, (x3 + (1 : Int32))) hn23 hI25 _ _ _ ⟨hP, hD, hS, lv_sub hl [3, 4, 2, 1, 0] rfl⟩
      · refine lv_icmp_ne (tgt := 47) hx hb dX6_spanOf_39 (by decide) (fun c_19 => ?_) (fun c_19 => ?_)
        · have h := h.1 c_19
          refine lv_iload_n hx hb dX6_spanOf_47 rfl (lv_at hl 2 rfl) ?_
          exact join22 x1 h _ _ _ ⟨hP, hD, hS, lv_sub hl [0, 1, 4] rfl⟩
        · have h := h.2 c_19
          refine lv_iload hx hb dX6_spanOf_42 (lv_at hl 4 rfl) ?_
          refine lv_goto (tgt := 48) hx hb dX6_spanOf_44 (by decide) ?_
          exact join22 x3 h _ _ _ ⟨hP, hD, hS, lv_sub hl [0, 1, 4] rfl⟩
def wp_X6_span (a1 : Int32) (nw : Nat → Int32) (er : Nat → Int32) (us : Nat → Int32) (un : Nat → Int32) (od : Nat → Int32) (K : Int32 → (Nat → Int32) → (Nat → Int32) → (Nat → Int32) → (Nat → Int32) → Prop) : Prop :=
 wp_X6_isColumn a1 nw (fun (r1 : Int32) => ((¬ r1 = 0 → wp_X6_lay nw us un od (fun (u4 : Nat → Int32) (u5 : Nat → Int32) (u6 : Nat → Int32) => wp_X6_spanOf a1 nw u4 u6 (fun (r7 : Int32) => K r7 er u4 u5 u6))) ∧
 (r1 = 0 → wp_X6_error (-2 : Int32) er (fun (r10 : Int32) (u11 : Nat → Int32) => K r10 u11 us un od))))
abbrev rm_X6_span : Room := { frames := 5, cells := 0, slots := 0, locals := 108 }
set_option maxHeartbeats 4000000 in
set_option maxRecDepth 100000 in
theorem c_X6_span (l : Launch) (G : GG) (ad : Nat → Nat) (sz : Nat) (nw : Nat → Int32) (ps : Nat → Int32) (er : Nat → Int32) (us : Nat → Int32) (un : Nat → Int32) (od : Nat → Int32) (li : Nat → Int32) (st : Int32) (lm : Int32) (hs : Int64) (a1 : Int32) {K : Int32 → (Nat → Int32) → (Nat → Int32) → (Nat → Int32) → (Nat → Int32) → Prop} (h : wp_X6_span a1 nw er us un od K) : CI l yX6_span wsX6_span rm_X6_span G [.ref (ad 0), .int a1] (wM G ad nw ps er us un od li st lm hs) sz (fun u : (Nat → Int32) × (Nat → Int32) × (Nat → Int32) × (Nat → Int32) => wM G ad nw ps u.1 u.2.1 u.2.2.1 u.2.2.2 li st lm hs) (fun r u => K r u.1 u.2.1 u.2.2.1 u.2.2.2) := by
  refine Met.ofW (cc := cX6_span) (maxL := 2) (ret := (some .int)) (by decide) rfl ?_
  intro p e s m args below meth c s₁ B hml hv
  obtain ⟨rfl, hsz, hP, hK, hD0, hZ⟩ := hv
  have hx := B.exec
  have hb := B.bytes
  have hr := B.returns
  have hts := atoms_spec (ws := wsX6_span) B.pre
  have hown : s.vm.findClass RX6 = some m.cls := findClass_of_methodNamed B.named
  have hlocks := B.notSynchronized
  subst hsz
  have hD := hD0.self (sz := s.heap.size)
  generalize hAe : va_A (wM G ad nw ps er us un od li st lm hs) s.heap.size = A at hD hZ ⊢
  have hA : ∀ q : Nat, s.heap.size ≤ q → A q := fun q h => by rw [← hAe]; exact Or.inr h
  have hS : va_S A s.heap s.heap [] := va_S.rf
  have hl := lv_entry ([.ref (ad 0), .int a1]) (n := 2) (Nat.le_of_ble_eq_true rfl)
  rw [lg_entry_eq]
  generalize (lg_sl ([.ref (ad 0), .int a1]) ++ List.replicate (2 - (lg_sl ([.ref (ad 0), .int a1])).length) Slot.unset).toArray = ls at hl ⊢
  have hl : lv_has ls 2 [(0, .ref (ad 0)), (1, .int a1)] := hl
  unfold wp_X6_span at h
  refine lv_aload_n hx hb dX6_span_0 rfl (lv_at hl 0 rfl) ?_
  refine lv_iload_n hx hb dX6_span_1 rfl (lv_at hl 1 rfl) ?_
  refine kc_i (wr := ([] : va_W)) (va_runV (As := [.int a1]) (rest := []) ⟨hx, hb, hml, hown, hts⟩ (c_X6_isColumn l G ad _ nw ps er us un od li st lm hs a1 h) (cwV 1 hts gX6_span_X6_isColumn rfl rfl rfl (by decide +kernel) ⟨Nat.le_of_ble_eq_true rfl, Nat.le_of_ble_eq_true rfl⟩) (kpV hK hP hD hZ hS hA [0, 1, 2, 3, 4, 5, 6, 7] rfl (by decide) (q0 := 0) (ci := 6) rfl rfl) rfl rfl hl.1 rfl (lv_room (Nat.le_of_ble_eq_true rfl)) dX6_span_2 ⟨Nat.zero_le _, Nat.zero_le _⟩) hP hD hS hA [0, 1, 2, 3, 4, 5, 6, 7] [] rfl rfl (by decide) (by decide) (fun r1 w13 H locs h hP hD hS => ?_)
  have hP : va_P G.1 vwCl (wM G ad nw ps er us un od li st lm hs) H := hP
  have hD : va_D A (wM G ad nw ps er us un od li st lm hs) := hD
  try dsimp only at h
  refine lv_if_ne (tgt := 15) hx hb dX6_span_5 (by decide) (fun c_2 => ?_) (fun c_2 => ?_)
  · have h := h.1 c_2
    refine lv_aload_n hx hb dX6_span_15 rfl (lv_at hl 0 rfl) ?_
    refine kc_v (wr := ([] : va_W)) (va_runV (As := []) (rest := []) ⟨hx, hb, hml, hown, hts⟩ (c_X6_lay l G ad _ nw ps er us un od li st lm hs  h) (cwV 0 hts gX6_span_X6_lay rfl rfl rfl (by decide +kernel) ⟨Nat.le_of_ble_eq_true rfl, Nat.le_of_ble_eq_true rfl⟩) (kpV hK hP hD hZ hS hA [0, 1, 2, 3, 4, 5, 6, 7] rfl (by decide) (q0 := 0) (ci := 6) rfl rfl) rfl rfl hl.1 rfl (lv_room (Nat.le_of_ble_eq_true rfl)) dX6_span_16 ⟨Nat.zero_le _, Nat.zero_le _⟩) hP hD hS hA [0, 1, 2, 3, 4, 5, 6, 7] [] rfl rfl (by decide) (by decide) (fun w9 H locs h hP hD hS => ?_)
    obtain ⟨u4, u5, u6⟩ := w9
    have hP : va_P G.1 vwCl (wM G ad nw ps er u4 u5 u6 li st lm hs) H := hP
    have hD : va_D A (wM G ad nw ps er u4 u5 u6 li st lm hs) := hD
    try dsimp only at h
    refine lv_aload_n hx hb dX6_span_19 rfl (lv_at hl 0 rfl) ?_
    refine lv_iload_n hx hb dX6_span_20 rfl (lv_at hl 1 rfl) ?_
    refine kc_i (wr := ([] : va_W)) (va_runV (As := [.int a1]) (rest := []) ⟨hx, hb, hml, hown, hts⟩ (c_X6_spanOf l G ad _ nw ps er u4 u5 u6 li st lm hs a1 h) (cwV 1 hts gX6_span_X6_spanOf rfl rfl rfl (by decide +kernel) ⟨Nat.le_of_ble_eq_true rfl, Nat.le_of_ble_eq_true rfl⟩) (kpV hK hP hD hZ hS hA [0, 1, 2, 3, 4, 5, 6, 7] rfl (by decide) (q0 := 0) (ci := 6) rfl rfl) rfl rfl hl.1 rfl (lv_room (Nat.le_of_ble_eq_true rfl)) dX6_span_21 ⟨Nat.zero_le _, Nat.zero_le _⟩) hP hD hS hA [0, 1, 2, 3, 4, 5, 6, 7] [] rfl rfl (by decide) (by decide) (fun r7 w8 H locs h hP hD hS => ?_)
    have hP : va_P G.1 vwCl (wM G ad nw ps er u4 u5 u6 li st lm hs) H := hP
    have hD : va_D A (wM G ad nw ps er u4 u5 u6 li st lm hs) := hD
    try dsimp only at h
    exact W.iret hx hb hr (fun t ht hW => ⟨⟨_, (er, u4, u5, u6), rfl, h, by rw [ht]; exact hP, hD⟩, hS.F ht⟩) hS.2.2 dX6_span_24
  · have h := h.2 c_2
    refine lv_aload_n hx hb dX6_span_8 rfl (lv_at hl 0 rfl) ?_
    refine lv_bipush (v := (-2 : Int32)) hx hb dX6_span_9 (by decide) ?_
    refine kc_i (wr := ([] : va_W)) (va_runV (As := [.int (-2 : Int32)]) (rest := []) ⟨hx, hb, hml, hown, hts⟩ (c_X6_error l G ad _ nw ps er us un od li st lm hs (-2 : Int32) h) (cwV 1 hts gX6_span_X6_error rfl rfl rfl (by decide +kernel) ⟨Nat.le_of_ble_eq_true rfl, Nat.le_of_ble_eq_true rfl⟩) (kpV hK hP hD hZ hS hA [0, 1, 2, 3, 4, 5, 6, 7] rfl (by decide) (q0 := 0) (ci := 6) rfl rfl) rfl rfl hl.1 rfl (lv_room (Nat.le_of_ble_eq_true rfl)) dX6_span_11 ⟨Nat.zero_le _, Nat.zero_le _⟩) hP hD hS hA [0, 1, 2, 3, 4, 5, 6, 7] [] rfl rfl (by decide) (by decide) (fun r10 w12 H locs h hP hD hS => ?_)
    obtain ⟨u11, rfl⟩ : ∃ z, z = w12 := ⟨_, rfl⟩
    have hP : va_P G.1 vwCl (wM G ad nw ps u11 us un od li st lm hs) H := hP
    have hD : va_D A (wM G ad nw ps u11 us un od li st lm hs) := hD
    try dsimp only at h
    exact W.iret hx hb hr (fun t ht hW => ⟨⟨_, (u11, us, un, od), rfl, h, by rw [ht]; exact hP, hD⟩, hS.F ht⟩) hS.2.2 dX6_span_14
def wp_X6_mayStand (a1 : Int32) (nw : Nat → Int32) (us : Nat → Int32) (un : Nat → Int32) (od : Nat → Int32) (li : Nat → Int32) (K : Int32 → (Nat → Int32) → (Nat → Int32) → Prop) : Prop :=
 wp_X6_noDemands un (fun (u2 : Nat → Int32) => (Lp3 (0 : Int32) (0 : Int32) u2 (fun (x3 : Int32) (x4 : Int32) (z5 : Nat → Int32) (J9 : Int32 → Int32 → (Nat → Int32) → Prop) => ((a1 ≤ x4 → wp_X6_layRows nw z5 od (fun (r13 : Int32) (u14 : Nat → Int32) => ((r13 = 0 ∨ r13 = 1) ∧ K r13 z5 u14))) ∧
 (¬ (a1 ≤ x4) → (vp_in x4 6 ∧ (vp_in x4 6 ∧ (((x3 &&& ((jshl (1 : Int32) ((li x4.toNatClampNeg) / (nI 10))) ||| (jshl (1 : Int32) (jrem (li x4.toNatClampNeg) (nI 10))))) = 0 → (vp_in x4 6 ∧ (vp_in x4 6 ∧ wp_X6_demand ((li x4.toNatClampNeg) / (nI 10)) (jrem (li x4.toNatClampNeg) (nI 10)) us z5 (fun (u23 : Nat → Int32) => J9 (x3 ||| ((jshl (1 : Int32) ((li x4.toNatClampNeg) / (nI 10))) ||| (jshl (1 : Int32) (jrem (li x4.toNatClampNeg) (nI 10))))) (x4 + (1 : Int32)) u23)))) ∧
 (¬ ((x3 &&& ((jshl (1 : Int32) ((li x4.toNatClampNeg) / (nI 10))) ||| (jshl (1 : Int32) (jrem (li x4.toNatClampNeg) (nI 10))))) = 0) → K (0 : Int32) z5 od)))))))))
abbrev rm_X6_mayStand : Room := { frames := 2, cells := 0, slots := 0, locals := 47 }
set_option maxHeartbeats 4000000 in
set_option maxRecDepth 100000 in
theorem c_X6_mayStand (l : Launch) (G : GG) (ad : Nat → Nat) (sz : Nat) (nw : Nat → Int32) (ps : Nat → Int32) (er : Nat → Int32) (us : Nat → Int32) (un : Nat → Int32) (od : Nat → Int32) (li : Nat → Int32) (st : Int32) (lm : Int32) (hs : Int64) (a1 : Int32) {K : Int32 → (Nat → Int32) → (Nat → Int32) → Prop} (h : wp_X6_mayStand a1 nw us un od li K) : CI l yX6_mayStand wsX6_mayStand rm_X6_mayStand G [.ref (ad 0), .int a1] (wM G ad nw ps er us un od li st lm hs) sz (fun u : (Nat → Int32) × (Nat → Int32) => wM G ad nw ps er us u.1 u.2 li st lm hs) (fun r u => K r u.1 u.2) := by
  refine Met.ofW (cc := cX6_mayStand) (maxL := 5) (ret := (some .boolean)) (by decide) rfl ?_
  intro p e s m args below meth c s₁ B hml hv
  obtain ⟨rfl, hsz, hP, hK, hD0, hZ⟩ := hv
  have hx := B.exec
  have hb := B.bytes
  have hr := B.returns
  have hts := atoms_spec (ws := wsX6_mayStand) B.pre
  have hown : s.vm.findClass RX6 = some m.cls := findClass_of_methodNamed B.named
  have hlocks := B.notSynchronized
  subst hsz
  have hD := hD0.self (sz := s.heap.size)
  generalize hAe : va_A (wM G ad nw ps er us un od li st lm hs) s.heap.size = A at hD hZ ⊢
  have hA : ∀ q : Nat, s.heap.size ≤ q → A q := fun q h => by rw [← hAe]; exact Or.inr h
  have hS : va_S A s.heap s.heap [] := va_S.rf
  have hl := lv_entry ([.ref (ad 0), .int a1]) (n := 5) (Nat.le_of_ble_eq_true rfl)
  rw [lg_entry_eq]
  generalize (lg_sl ([.ref (ad 0), .int a1]) ++ List.replicate (5 - (lg_sl ([.ref (ad 0), .int a1])).length) Slot.unset).toArray = ls at hl ⊢
  have hl : lv_has ls 5 [(0, .ref (ad 0)), (1, .int a1)] := hl
  unfold wp_X6_mayStand at h
  have hinX6 : ∀ w ∈ wsX60, w ∈ wsX6_mayStand := by decide +kernel
  refine lv_iconst (v := (0 : Int32)) hx hb dX6_mayStand_0 (by decide) ?_
  refine lv_istore_n (lv' := [(2, .int (0 : Int32)), (0, .ref (ad 0)), (1, .int a1)]) hx hb dX6_mayStand_1 rfl hl (by decide) rfl (fun ls hl => ?_)
  refine lv_aload_n hx hb dX6_mayStand_2 rfl (lv_at hl 1 rfl) ?_
  refine kc_v (wr := ([] : va_W)) (va_runV (As := []) (rest := []) ⟨hx, hb, hml, hown, hts⟩ (c_X6_noDemands l G ad _ nw ps er us un od li st lm hs  h) (cwV 0 hts gX6_mayStand_X6_noDemands rfl rfl rfl (by decide +kernel) ⟨Nat.le_of_ble_eq_true rfl, Nat.le_of_ble_eq_true rfl⟩) (kpV hK hP hD hZ hS hA [0, 1, 2, 3, 4, 5, 6, 7] rfl (by decide) (q0 := 0) (ci := 6) rfl rfl) rfl rfl hl.1 rfl (lv_room (Nat.le_of_ble_eq_true rfl)) dX6_mayStand_3 ⟨Nat.zero_le _, Nat.zero_le _⟩) hP hD hS hA [0, 1, 2, 3, 4, 5, 6, 7] [] rfl rfl (by decide) (by decide) (fun w28 H locs h hP hD hS => ?_)
  obtain ⟨u2, rfl⟩ : ∃ z, z = w28 := ⟨_, rfl⟩
  have hP : va_P G.1 vwCl (wM G ad nw ps er us u2 od li st lm hs) H := hP
  have hD : va_D A (wM G ad nw ps er us u2 od li st lm hs) := hD
  try dsimp only at h
  refine lv_iconst (v := (0 : Int32)) hx hb dX6_mayStand_6 (by decide) ?_
  refine lv_istore_n (lv' := [(3, .int (0 : Int32)), (2, .int (0 : Int32)), (0, .ref (ad 0)), (1, .int a1)]) hx hb dX6_mayStand_7 rfl hl (by decide) rfl (fun ls hl => ?_)
  obtain ⟨I6, n7, h0, hst8⟩ := h
  refine loopW (σ := Int32 × Int32 × (Nat → Int32)) (P := fun q H locs ls => va_P G.1 vwCl (wM G ad nw ps er us q.2.2 od li st lm hs) H ∧ va_D A (wM G ad nw ps er us q.2.2 od li st lm hs) ∧ va_S A s.heap H locs ∧ lv_has ls 5 [(0, .ref (ad 0)), (1, .int a1), (2, .int q.1), (3, .int q.2.1)]) (I := fun n q => I6 n q.1 q.2.1 q.2.2) n7 ((0 : Int32), (0 : Int32), u2) h0 _ _ _ ⟨hP, hD, hS, lv_sub hl [2, 3, 1, 0] rfl⟩ ?_
  rintro n11 ⟨x3, x4, z5⟩ hI ih10 H locs ls ⟨hP, hD, hS, hl⟩
  have hP : va_P G.1 vwCl (wM G ad nw ps er us z5 od li st lm hs) H := hP
  have hD : va_D A (wM G ad nw ps er us z5 od li st lm hs) := hD
  have hl : lv_has ls 5 [(0, .ref (ad 0)), (1, .int a1), (2, .int x3), (3, .int x4)] := hl
  have h := hst8 n11 x3 x4 z5 hI
  refine lv_iload_n hx hb dX6_mayStand_8 rfl (lv_at hl 3 rfl) ?_
  refine lv_iload_n hx hb dX6_mayStand_9 rfl (lv_at hl 1 rfl) ?_
  refine lv_icmp_ge (tgt := 80) hx hb dX6_mayStand_10 (by decide) (fun c_12 => ?_) (fun c_12 => ?_)
  · have h := h.1 c_12
    refine lv_aload_n hx hb dX6_mayStand_80 rfl (lv_at hl 0 rfl) ?_
    refine kc_i (wr := ([] : va_W)) (va_runV (As := []) (rest := []) ⟨hx, hb, hml, hown, hts⟩ (c_X6_layRows l G ad _ nw ps er us z5 od li st lm hs  h) (cwV 0 hts gX6_mayStand_X6_layRows rfl rfl rfl (by decide +kernel) ⟨Nat.le_of_ble_eq_true rfl, Nat.le_of_ble_eq_true rfl⟩) (kpV hK hP hD hZ hS hA [0, 1, 2, 3, 4, 5, 6, 7] rfl (by decide) (q0 := 0) (ci := 6) rfl rfl) rfl rfl hl.1 rfl (lv_room (Nat.le_of_ble_eq_true rfl)) dX6_mayStand_81 ⟨Nat.zero_le _, Nat.zero_le _⟩) hP hD hS hA [0, 1, 2, 3, 4, 5, 6, 7] [] rfl rfl (by decide) (by decide) (fun r13 w16 H locs h hP hD hS => ?_)
    obtain ⟨u14, rfl⟩ : ∃ z, z = w16 := ⟨_, rfl⟩
    have hP : va_P G.1 vwCl (wM G ad nw ps er us z5 u14 li st lm hs) H := hP
    have hD : va_D A (wM G ad nw ps er us z5 u14 li st lm hs) := hD
    try dsimp only at h
    obtain ⟨hz15, h⟩ := h
    exact W.zret hx hb hr (nar_b hz15) (fun t ht hW => ⟨⟨_, (z5, u14), rfl, h, by rw [ht]; exact hP, hD⟩, hS.F ht⟩) hS.2.2 dX6_mayStand_84
  · have h := h.2 c_12
    refine lv_iconst (v := (1 : Int32)) hx hb dX6_mayStand_13 (by decide) ?_
    refine lv_aload_n hx hb dX6_mayStand_14 rfl (lv_at hl 0 rfl) ?_
    refine va_get (D := G.1) (ci := 6) (v := .ref (ad 7)) (C := RX6) (T := TX6) (N := 10) hx hb hts hinX6 hown hK.1 hP 0 rfl rfl 7 (by decide) (hts (.fieldLink RX6 28 "PlaFolderModel" "list" "[I") (by decide +kernel)) (fun _ h9 => h9) rfl dX6_mayStand_15 ?_
    refine lv_iload_n hx hb dX6_mayStand_18 rfl (lv_at hl 3 rfl) ?_
    obtain ⟨hi17, h⟩ := h
    refine x_iald hx hb hK hP 7 rfl hi17 rfl dX6_mayStand_19 ?_
    refine lv_bipush (v := (nI 10)) hx hb dX6_mayStand_20 (by decide) ?_
    refine lv_idiv hx hb dX6_mayStand_22 (by decide) ?_
    refine lv_ishl hx hb dX6_mayStand_23 ?_
    refine lv_iconst (v := (1 : Int32)) hx hb dX6_mayStand_24 (by decide) ?_
    refine lv_aload_n hx hb dX6_mayStand_25 rfl (lv_at hl 0 rfl) ?_
    refine va_get (D := G.1) (ci := 6) (v := .ref (ad 7)) (C := RX6) (T := TX6) (N := 10) hx hb hts hinX6 hown hK.1 hP 0 rfl rfl 7 (by decide) (hts (.fieldLink RX6 28 "PlaFolderModel" "list" "[I") (by decide +kernel)) (fun _ h9 => h9) rfl dX6_mayStand_26 ?_
    refine lv_iload_n hx hb dX6_mayStand_29 rfl (lv_at hl 3 rfl) ?_
    obtain ⟨hi18, h⟩ := h
    refine x_iald hx hb hK hP 7 rfl hi18 rfl dX6_mayStand_30 ?_
    refine lv_bipush (v := (nI 10)) hx hb dX6_mayStand_31 (by decide) ?_
    refine lv_irem hx hb dX6_mayStand_33 (by decide) ?_
    refine lv_ishl hx hb dX6_mayStand_34 ?_
    refine lv_ior hx hb dX6_mayStand_35 ?_
    refine lv_istore (lv' := [(4, .int ((jshl (1 : Int32) ((li x4.toNatClampNeg) / (nI 10))) ||| (jshl (1 : Int32) (jrem (li x4.toNatClampNeg) (nI 10))))), (0, .ref (ad 0)), (1, .int a1), (2, .int x3), (3, .int x4)]) hx hb dX6_mayStand_36 hl (by decide) rfl (fun ls hl => ?_)
    refine lv_iload_n hx hb dX6_mayStand_38 rfl (lv_at hl 3 rfl) ?_
    refine lv_iload hx hb dX6_mayStand_39 (lv_at hl 0 rfl) ?_
    refine lv_iand hx hb dX6_mayStand_41 ?_
    refine lv_if_eq (tgt := 47) hx hb dX6_mayStand_42 (by decide) (fun c_19 => ?_) (fun c_19 => ?_)
    · have h := h.1 c_19
      refine lv_iload_n hx hb dX6_mayStand_47 rfl (lv_at hl 3 rfl) ?_
      refine lv_iload hx hb dX6_mayStand_48 (lv_at hl 0 rfl) ?_
      refine lv_ior hx hb dX6_mayStand_50 ?_
      refine lv_istore_n (lv' := [(2, .int (x3 ||| ((jshl (1 : Int32) ((li x4.toNatClampNeg) / (nI 10))) ||| (jshl (1 : Int32) (jrem (li x4.toNatClampNeg) (nI 10)))))), (4, .int ((jshl (1 : Int32) ((li x4.toNatClampNeg) / (nI 10))) ||| (jshl (1 : Int32) (jrem (li x4.toNatClampNeg) (nI 10))))), (0, .ref (ad 0)), (1, .int a1), (3, .int x4)]) hx hb dX6_mayStand_51 rfl hl (by decide) rfl (fun ls hl => ?_)
      refine lv_aload_n hx hb dX6_mayStand_52 rfl (lv_at hl 2 rfl) ?_
      refine lv_aload_n hx hb dX6_mayStand_53 rfl (lv_at hl 2 rfl) ?_
      refine va_get (D := G.1) (ci := 6) (v := .ref (ad 7)) (C := RX6) (T := TX6) (N := 10) hx hb hts hinX6 hown hK.1 hP 0 rfl rfl 7 (by decide) (hts (.fieldLink RX6 28 "PlaFolderModel" "list" "[I") (by decide +kernel)) (fun _ h9 => h9) rfl dX6_mayStand_54 ?_
      refine lv_iload_n hx hb dX6_mayStand_57 rfl (lv_at hl 4 rfl) ?_
      obtain ⟨hi20, h⟩ := h
      refine x_iald hx hb hK hP 7 rfl hi20 rfl dX6_mayStand_58 ?_
      refine lv_bipush (v := (nI 10)) hx hb dX6_mayStand_59 (by decide) ?_
      refine lv_idiv hx hb dX6_mayStand_61 (by decide) ?_
      refine lv_aload_n hx hb dX6_mayStand_62 rfl (lv_at hl 2 rfl) ?_
      refine va_get (D := G.1) (ci := 6) (v := .ref (ad 7)) (C := RX6) (T := TX6) (N := 10) hx hb hts hinX6 hown hK.1 hP 0 rfl rfl 7 (by decide) (hts (.fieldLink RX6 28 "PlaFolderModel" "list" "[I") (by decide +kernel)) (fun _ h9 => h9) rfl dX6_mayStand_63 ?_
      refine lv_iload_n hx hb dX6_mayStand_66 rfl (lv_at hl 4 rfl) ?_
      obtain ⟨hi21, h⟩ := h
      refine x_iald hx hb hK hP 7 rfl hi21 rfl dX6_mayStand_67 ?_
      refine lv_bipush (v := (nI 10)) hx hb dX6_mayStand_68 (by decide) ?_
      refine lv_irem hx hb dX6_mayStand_70 (by decide) ?_
      refine kc_v (wr := ([] : va_W)) (va_runV (As := [.int ((li x4.toNatClampNeg) / (nI 10)), .int (jrem (li x4.toNatClampNeg) (nI 10))]) (rest := []) ⟨hx, hb, hml, hown, hts⟩ (c_X6_demand l G ad _ nw ps er us z5 od li st lm hs ((li x4.toNatClampNeg) / (nI 10)) (jrem (li x4.toNatClampNeg) (nI 10)) h) (cwV 2 hts gX6_mayStand_X6_demand rfl rfl rfl (by decide +kernel) ⟨Nat.le_of_ble_eq_true rfl, Nat.le_of_ble_eq_true rfl⟩) (kpV hK hP hD hZ hS hA [0, 1, 2, 3, 4, 5, 6, 7] rfl (by decide) (q0 := 0) (ci := 6) rfl rfl) rfl rfl hl.1 rfl (lv_room (Nat.le_of_ble_eq_true rfl)) dX6_mayStand_71 ⟨Nat.zero_le _, Nat.zero_le _⟩) hP hD hS hA [0, 1, 2, 3, 4, 5, 6, 7] [] rfl rfl (by decide) (by decide) (fun w27 H locs h hP hD hS => ?_)
      obtain ⟨u23, rfl⟩ : ∃ z, z = w27 := ⟨_, rfl⟩
      have hP : va_P G.1 vwCl (wM G ad nw ps er us u23 od li st lm hs) H := hP
      have hD : va_D A (wM G ad nw ps er us u23 od li st lm hs) := hD
      try dsimp only at h
      refine lv_iinc (v := (x4 + (1 : Int32))) (lv' := [(3, .int (x4 + (1 : Int32))), (2, .int (x3 ||| ((jshl (1 : Int32) ((li x4.toNatClampNeg) / (nI 10))) ||| (jshl (1 : Int32) (jrem (li x4.toNatClampNeg) (nI 10)))))), (4, .int ((jshl (1 : Int32) ((li x4.toNatClampNeg) / (nI 10))) ||| (jshl (1 : Int32) (jrem (li x4.toNatClampNeg) (nI 10))))), (0, .ref (ad 0)), (1, .int a1)]) hx hb dX6_mayStand_74 hl (k := 4) rfl rfl (by decide) rfl (fun ls hl => ?_)
      refine lv_goto (tgt := 8) hx hb dX6_mayStand_77 (by decide) ?_
      obtain ⟨n25, hn24, hI26⟩ := h
      exact ih10 n25 ((x3 ||| ((jshl (1 : Int32) ((li x4.toNatClampNeg) / (nI 10))) ||| (jshl (1 : Int32) (jrem (li x4.toNatClampNeg) (nI 10))))), (x4 + (1 : Int32)), u23) hn24 hI26 _ _ _ ⟨hP, hD, hS, lv_sub hl [3, 4, 1, 0] rfl⟩
    · have h := h.2 c_19
      refine lv_iconst (v := (0 : Int32)) hx hb dX6_mayStand_45 (by decide) ?_
      exact W.zret hx hb hr (by decide) (fun t ht hW => ⟨⟨_, (z5, od), rfl, h, by rw [ht]; exact hP, hD⟩, hS.F ht⟩) hS.2.2 dX6_mayStand_46
def wp_X6_findList (a1 : Int32) (nw : Nat → Int32) (us : Nat → Int32) (un : Nat → Int32) (od : Nat → Int32) (li : Nat → Int32) (lm : Int32) (K : Int32 → (Nat → Int32) → (Nat → Int32) → (Nat → Int32) → Int32 → Prop) : Prop :=
 (Lp4 (0 : Int32) un od (upd li 0 (-1 : Int32)) (fun (x1 : Int32) (z2 : Nat → Int32) (z3 : Nat → Int32) (z4 : Nat → Int32) (J8 : Int32 → (Nat → Int32) → (Nat → Int32) → (Nat → Int32) → Prop) => (Jn4 (fun (x12 : Int32) (z13 : Nat → Int32) (z14 : Nat → Int32) (z15 : Nat → Int32) => ((¬ x12 = a1 → K (0 : Int32) z13 z14 z15 a1) ∧
 (x12 = a1 → K (1 : Int32) z13 z14 z15 a1)))
 (fun (J16 : Int32 → (Nat → Int32) → (Nat → Int32) → (Nat → Int32) → Prop) => ((x1 < 0 → J16 x1 z2 z3 z4) ∧
 (¬ (x1 < 0) → ((a1 ≤ x1 → J16 x1 z2 z3 z4) ∧
 (¬ (a1 ≤ x1) → (vp_in x1 6 ∧ (vp_in x1 6 ∧ (vp_in x1 6 ∧ ((((upd z4 x1.toNatClampNeg ((z4 x1.toNatClampNeg) + (1 : Int32))) x1.toNatClampNeg) ≤ (nI 99) → (vp_in x1 6 ∧ (vp_in x1 6 ∧ wp_X6_fits (((upd z4 x1.toNatClampNeg ((z4 x1.toNatClampNeg) + (1 : Int32))) x1.toNatClampNeg) / (nI 10)) (jrem ((upd z4 x1.toNatClampNeg ((z4 x1.toNatClampNeg) + (1 : Int32))) x1.toNatClampNeg) (nI 10)) nw us (fun (r26 : Int32) => ((r26 = 0 → J8 x1 z2 z3 (upd z4 x1.toNatClampNeg ((z4 x1.toNatClampNeg) + (1 : Int32)))) ∧
 (¬ (r26 = 0) → wp_X6_mayStand (x1 + (1 : Int32)) nw us z2 z3 (upd z4 x1.toNatClampNeg ((z4 x1.toNatClampNeg) + (1 : Int32))) (fun (r31 : Int32) (u32 : Nat → Int32) (u33 : Nat → Int32) => ((r31 = 0 → J8 x1 u32 u33 (upd z4 x1.toNatClampNeg ((z4 x1.toNatClampNeg) + (1 : Int32)))) ∧
 (¬ (r31 = 0) → (vp_in x1 6 ∧ (vp_in (x1 + (1 : Int32)) 6 ∧ J8 (x1 + (1 : Int32)) u32 u33 (upd (upd z4 x1.toNatClampNeg ((z4 x1.toNatClampNeg) + (1 : Int32))) ((x1 + (1 : Int32)).toNatClampNeg) (((nI 10) * (((upd z4 x1.toNatClampNeg ((z4 x1.toNatClampNeg) + (1 : Int32))) x1.toNatClampNeg) / (nI 10))) + (nI 9)))))))))))))) ∧
 (¬ (((upd z4 x1.toNatClampNeg ((z4 x1.toNatClampNeg) + (1 : Int32))) x1.toNatClampNeg) ≤ (nI 99)) → J8 (x1 + (-1 : Int32)) z2 z3 (upd z4 x1.toNatClampNeg ((z4 x1.toNatClampNeg) + (1 : Int32))))))))))))))))
abbrev rm_X6_findList : Room := { frames := 3, cells := 0, slots := 0, locals := 71 }
set_option maxHeartbeats 4000000 in
set_option maxRecDepth 100000 in
theorem c_X6_findList (l : Launch) (G : GG) (ad : Nat → Nat) (sz : Nat) (nw : Nat → Int32) (ps : Nat → Int32) (er : Nat → Int32) (us : Nat → Int32) (un : Nat → Int32) (od : Nat → Int32) (li : Nat → Int32) (st : Int32) (lm : Int32) (hs : Int64) (a1 : Int32) {K : Int32 → (Nat → Int32) → (Nat → Int32) → (Nat → Int32) → Int32 → Prop} (h : wp_X6_findList a1 nw us un od li lm K) : CI l yX6_findList wsX6_findList rm_X6_findList G [.ref (ad 0), .int a1] (wM G ad nw ps er us un od li st lm hs) sz (fun u : (Nat → Int32) × (Nat → Int32) × (Nat → Int32) × Int32 => wM G ad nw ps er us u.1 u.2.1 u.2.2.1 st u.2.2.2 hs) (fun r u => K r u.1 u.2.1 u.2.2.1 u.2.2.2) := by
  refine Met.ofW (cc := cX6_findList) (maxL := 4) (ret := (some .boolean)) (by decide) rfl ?_
  intro p e s m args below meth c s₁ B hml hv
  obtain ⟨rfl, hsz, hP, hK, hD0, hZ⟩ := hv
  have hx := B.exec
  have hb := B.bytes
  have hr := B.returns
  have hts := atoms_spec (ws := wsX6_findList) B.pre
  have hown : s.vm.findClass RX6 = some m.cls := findClass_of_methodNamed B.named
  have hlocks := B.notSynchronized
  subst hsz
  have hD := hD0.self (sz := s.heap.size)
  generalize hAe : va_A (wM G ad nw ps er us un od li st lm hs) s.heap.size = A at hD hZ ⊢
  have hA : ∀ q : Nat, s.heap.size ≤ q → A q := fun q h => by rw [← hAe]; exact Or.inr h
  have hS : va_S A s.heap s.heap [] := va_S.rf
  have hl := lv_entry ([.ref (ad 0), .int a1]) (n := 4) (Nat.le_of_ble_eq_true rfl)
  rw [lg_entry_eq]
  generalize (lg_sl ([.ref (ad 0), .int a1]) ++ List.replicate (4 - (lg_sl ([.ref (ad 0), .int a1])).length) Slot.unset).toArray = ls at hl ⊢
  have hl : lv_has ls 4 [(0, .ref (ad 0)), (1, .int a1)] := hl
  unfold wp_X6_findList at h
  have hinX6 : ∀ w ∈ wsX60, w ∈ wsX6_findList := by decide +kernel
  refine lv_iconst (v := (0 : Int32)) hx hb dX6_findList_0 (by decide) ?_
  refine lv_istore_n (lv' := [(2, .int (0 : Int32)), (0, .ref (ad 0)), (1, .int a1)]) hx hb dX6_findList_1 rfl hl (by decide) rfl (fun ls hl => ?_)
  refine lv_aload_n hx hb dX6_findList_2 rfl (lv_at hl 1 rfl) ?_
  refine va_get (D := G.1) (ci := 6) (v := .ref (ad 7)) (C := RX6) (T := TX6) (N := 10) hx hb hts hinX6 hown hK.1 hP 0 rfl rfl 7 (by decide) (hts (.fieldLink RX6 28 "PlaFolderModel" "list" "[I") (by decide +kernel)) (fun _ h9 => h9) rfl dX6_findList_3 ?_
  refine lv_iconst (v := (0 : Int32)) hx hb dX6_findList_6 (by decide) ?_
  refine lv_iconst (v := (-1 : Int32)) hx hb dX6_findList_7 (by decide) ?_
  refine x_iast hx hb hK hP hD hS 7 rfl (vin_c (by decide)) (k := 0) (by decide) dX6_findList_8 (fun H locs hP hD hS => ?_)
  have hP : va_P G.1 vwCl (wM G ad nw ps er us un od (upd li 0 (-1 : Int32)) st lm hs) H := hP
  have hD : va_D A (wM G ad nw ps er us un od (upd li 0 (-1 : Int32)) st lm hs) := hD
  obtain ⟨I5, n6, h0, hst7⟩ := h
  refine loopW (σ := Int32 × (Nat → Int32) × (Nat → Int32) × (Nat → Int32)) (P := fun q H locs ls => va_P G.1 vwCl (wM G ad nw ps er us q.2.1 q.2.2.1 q.2.2.2 st lm hs) H ∧ va_D A (wM G ad nw ps er us q.2.1 q.2.2.1 q.2.2.2 st lm hs) ∧ va_S A s.heap H locs ∧ lv_has ls 4 [(0, .ref (ad 0)), (1, .int a1), (2, .int q.1)]) (I := fun n q => I5 n q.1 q.2.1 q.2.2.1 q.2.2.2) n6 ((0 : Int32), un, od, (upd li 0 (-1 : Int32))) h0 _ _ _ ⟨hP, hD, hS, lv_sub hl [1, 2, 0] rfl⟩ ?_
  rintro n10 ⟨x1, z2, z3, z4⟩ hI ih9 H locs ls ⟨hP, hD, hS, hl⟩
  have hP : va_P G.1 vwCl (wM G ad nw ps er us z2 z3 z4 st lm hs) H := hP
  have hD : va_D A (wM G ad nw ps er us z2 z3 z4 st lm hs) := hD
  have hl : lv_has ls 4 [(0, .ref (ad 0)), (1, .int a1), (2, .int x1)] := hl
  have h := hst7 n10 x1 z2 z3 z4 hI
  refine lv_iload_n hx hb dX6_findList_9 rfl (lv_at hl 2 rfl) ?_
  obtain ⟨J16, hJ48, h⟩ := h
  refine joinW (σ := Int32 × (Nat → Int32) × (Nat → Int32) × (Nat → Int32)) (J := fun q => J16 q.1 q.2.1 q.2.2.1 q.2.2.2) (pc := 109) (st := fun q => []) (P := fun q H locs ls => va_P G.1 vwCl (wM G ad nw ps er us q.2.1 q.2.2.1 q.2.2.2 st lm hs) H ∧ va_D A (wM G ad nw ps er us q.2.1 q.2.2.1 q.2.2.2 st lm hs) ∧ va_S A s.heap H locs ∧ lv_has ls 4 [(0, .ref (ad 0)), (1, .int a1), (2, .int q.1)]) ?_ (fun join17 => ?_)
  · rintro ⟨x12, z13, z14, z15⟩ h H locs ls ⟨hP, hD, hS, hl⟩
    have hP : va_P G.1 vwCl (wM G ad nw ps er us z13 z14 z15 st lm hs) H := hP
    have hD : va_D A (wM G ad nw ps er us z13 z14 z15 st lm hs) := hD
    have hl : lv_has ls 4 [(0, .ref (ad 0)), (1, .int a1), (2, .int x12)] := hl
    have h := hJ48 x12 z13 z14 z15 h
    refine W.eq (g2 := F0 m 109 ls ([])) rfl ?_
    refine lv_aload_n hx hb dX6_findList_109 rfl (lv_at hl 0 rfl) ?_
    refine lv_iload_n hx hb dX6_findList_110 rfl (lv_at hl 1 rfl) ?_
    refine va_put (D := G.1) (ci := 6) (v := .int a1) (ty := .int) (C := RX6) (T := TX6) (N := 10) hx hb hts hinX6 tyX6 tyX6_ok nmX6 hown hK.1 hP hD hS 0 rfl rfl 8 (by decide) (hts (.fieldLink RX6 131 "PlaFolderModel" "listMany" "I") (by decide +kernel)) (fun _ h9 => h9) rfl (by decide +kernel) rfl rfl (Nat.le_of_ble_eq_true rfl) dX6_findList_111 (fun H locs hP hD hS => ?_)
    have hP : va_P G.1 vwCl (wM G ad nw ps er us z13 z14 z15 st a1 hs) H := hP
    have hD : va_D A (wM G ad nw ps er us z13 z14 z15 st a1 hs) := hD
    refine lv_iload_n hx hb dX6_findList_114 rfl (lv_at hl 2 rfl) ?_
    refine lv_iload_n hx hb dX6_findList_115 rfl (lv_at hl 1 rfl) ?_
    refine lv_icmp_ne (tgt := 123) hx hb dX6_findList_116 (by decide) (fun c_18 => ?_) (fun c_18 => ?_)
    · have h := h.1 c_18
      refine lv_iconst (v := (0 : Int32)) hx hb dX6_findList_123 (by decide) ?_
      exact W.zret hx hb hr (by decide) (fun t ht hW => ⟨⟨_, (z13, z14, z15, a1), rfl, h, by rw [ht]; exact hP, hD⟩, hS.F ht⟩) hS.2.2 dX6_findList_124
    · have h := h.2 c_18
      refine lv_iconst (v := (1 : Int32)) hx hb dX6_findList_119 (by decide) ?_
      refine lv_goto (tgt := 124) hx hb dX6_findList_120 (by decide) ?_
      exact W.zret hx hb hr (by decide) (fun t ht hW => ⟨⟨_, (z13, z14, z15, a1), rfl, h, by rw [ht]; exact hP, hD⟩, hS.F ht⟩) hS.2.2 dX6_findList_124
  · refine lv_if_lt (tgt := 109) hx hb dX6_findList_10 (by decide) (fun c_11 => ?_) (fun c_11 => ?_)
    · have h := h.1 c_11
      exact join17 (x1, z2, z3, z4) h _ _ _ ⟨hP, hD, hS, lv_sub hl [0, 1, 2] rfl⟩
    · have h := h.2 c_11
      refine lv_iload_n hx hb dX6_findList_13 rfl (lv_at hl 2 rfl) ?_
      refine lv_iload_n hx hb dX6_findList_14 rfl (lv_at hl 1 rfl) ?_
      refine lv_icmp_ge (tgt := 109) hx hb dX6_findList_15 (by decide) (fun c_19 => ?_) (fun c_19 => ?_)
      · have h := h.1 c_19
        exact join17 (x1, z2, z3, z4) h _ _ _ ⟨hP, hD, hS, lv_sub hl [0, 1, 2] rfl⟩
      · have h := h.2 c_19
        refine lv_aload_n hx hb dX6_findList_18 rfl (lv_at hl 0 rfl) ?_
        refine va_get (D := G.1) (ci := 6) (v := .ref (ad 7)) (C := RX6) (T := TX6) (N := 10) hx hb hts hinX6 hown hK.1 hP 0 rfl rfl 7 (by decide) (hts (.fieldLink RX6 28 "PlaFolderModel" "list" "[I") (by decide +kernel)) (fun _ h9 => h9) rfl dX6_findList_19 ?_
        refine lv_iload_n hx hb dX6_findList_22 rfl (lv_at hl 2 rfl) ?_
        refine lv_dup2_11 hx hb dX6_findList_23 rfl rfl ?_
        obtain ⟨hi20, h⟩ := h
        refine x_iald hx hb hK hP 7 rfl hi20 rfl dX6_findList_24 ?_
        refine lv_iconst (v := (1 : Int32)) hx hb dX6_findList_25 (by decide) ?_
        refine lv_iadd hx hb dX6_findList_26 ?_
        obtain ⟨hi21, h⟩ := h
        refine x_iast hx hb hK hP hD hS 7 rfl hi21 rfl dX6_findList_27 (fun H locs hP hD hS => ?_)
        have hP : va_P G.1 vwCl (wM G ad nw ps er us z2 z3 (upd z4 x1.toNatClampNeg ((z4 x1.toNatClampNeg) + (1 : Int32))) st lm hs) H := hP
        have hD : va_D A (wM G ad nw ps er us z2 z3 (upd z4 x1.toNatClampNeg ((z4 x1.toNatClampNeg) + (1 : Int32))) st lm hs) := hD
        refine lv_aload_n hx hb dX6_findList_28 rfl (lv_at hl 0 rfl) ?_
        refine va_get (D := G.1) (ci := 6) (v := .ref (ad 7)) (C := RX6) (T := TX6) (N := 10) hx hb hts hinX6 hown hK.1 hP 0 rfl rfl 7 (by decide) (hts (.fieldLink RX6 28 "PlaFolderModel" "list" "[I") (by decide +kernel)) (fun _ h9 => h9) rfl dX6_findList_29 ?_
        refine lv_iload_n hx hb dX6_findList_32 rfl (lv_at hl 2 rfl) ?_
        obtain ⟨hi22, h⟩ := h
        refine x_iald hx hb hK hP 7 rfl hi22 rfl dX6_findList_33 ?_
        refine lv_bipush (v := (nI 99)) hx hb dX6_findList_34 (by decide) ?_
        refine lv_icmp_le (tgt := 45) hx hb dX6_findList_36 (by decide) (fun c_23 => ?_) (fun c_23 => ?_)
        · have h := h.1 c_23
          refine lv_aload_n hx hb dX6_findList_45 rfl (lv_at hl 0 rfl) ?_
          refine lv_aload_n hx hb dX6_findList_46 rfl (lv_at hl 0 rfl) ?_
          refine va_get (D := G.1) (ci := 6) (v := .ref (ad 7)) (C := RX6) (T := TX6) (N := 10) hx hb hts hinX6 hown hK.1 hP 0 rfl rfl 7 (by decide) (hts (.fieldLink RX6 28 "PlaFolderModel" "list" "[I") (by decide +kernel)) (fun _ h9 => h9) rfl dX6_findList_47 ?_
          refine lv_iload_n hx hb dX6_findList_50 rfl (lv_at hl 2 rfl) ?_
          obtain ⟨hi24, h⟩ := h
          refine x_iald hx hb hK hP 7 rfl hi24 rfl dX6_findList_51 ?_
          refine lv_bipush (v := (nI 10)) hx hb dX6_findList_52 (by decide) ?_
          refine lv_idiv hx hb dX6_findList_54 (by decide) ?_
          refine lv_aload_n hx hb dX6_findList_55 rfl (lv_at hl 0 rfl) ?_
          refine va_get (D := G.1) (ci := 6) (v := .ref (ad 7)) (C := RX6) (T := TX6) (N := 10) hx hb hts hinX6 hown hK.1 hP 0 rfl rfl 7 (by decide) (hts (.fieldLink RX6 28 "PlaFolderModel" "list" "[I") (by decide +kernel)) (fun _ h9 => h9) rfl dX6_findList_56 ?_
          refine lv_iload_n hx hb dX6_findList_59 rfl (lv_at hl 2 rfl) ?_
          obtain ⟨hi25, h⟩ := h
          refine x_iald hx hb hK hP 7 rfl hi25 rfl dX6_findList_60 ?_
          refine lv_bipush (v := (nI 10)) hx hb dX6_findList_61 (by decide) ?_
          refine lv_irem hx hb dX6_findList_63 (by decide) ?_
          refine kc_i (wr := ([] : va_W)) (va_runV (As := [.int (((upd z4 x1.toNatClampNeg ((z4 x1.toNatClampNeg) + (1 : Int32))) x1.toNatClampNeg) / (nI 10)), .int (jrem ((upd z4 x1.toNatClampNeg ((z4 x1.toNatClampNeg) + (1 : Int32))) x1.toNatClampNeg) (nI 10))]) (rest := []) ⟨hx, hb, hml, hown, hts⟩ (c_X6_fits l G ad _ nw ps er us z2 z3 (upd z4 x1.toNatClampNeg ((z4 x1.toNatClampNeg) + (1 : Int32))) st lm hs (((upd z4 x1.toNatClampNeg ((z4 x1.toNatClampNeg) + (1 : Int32))) x1.toNatClampNeg) / (nI 10)) (jrem ((upd z4 x1.toNatClampNeg ((z4 x1.toNatClampNeg) + (1 : Int32))) x1.toNatClampNeg) (nI 10)) h) (cwV 2 hts gX6_findList_X6_fits rfl rfl rfl (by decide +kernel) ⟨Nat.le_of_ble_eq_true rfl, Nat.le_of_ble_eq_true rfl⟩) (kpV hK hP hD hZ hS hA [0, 1, 2, 3, 4, 5, 6, 7] rfl (by decide) (q0 := 0) (ci := 6) rfl rfl) rfl rfl hl.1 rfl (lv_room (Nat.le_of_ble_eq_true rfl)) dX6_findList_64 ⟨Nat.zero_le _, Nat.zero_le _⟩) hP hD hS hA [0, 1, 2, 3, 4, 5, 6, 7] [] rfl rfl (by decide) (by decide) (fun r26 w44 H locs h hP hD hS => ?_)
          have hP : va_P G.1 vwCl (wM G ad nw ps er us z2 z3 (upd z4 x1.toNatClampNeg ((z4 x1.toNatClampNeg) + (1 : Int32))) st lm hs) H := hP
          have hD : va_D A (wM G ad nw ps er us z2 z3 (upd z4 x1.toNatClampNeg ((z4 x1.toNatClampNeg) + (1 : Int32))) st lm hs) := hD
          try dsimp only at h
          refine lv_if_eq (tgt := 9) hx hb dX6_findList_67 (by decide) (fun c_27 => ?_) (fun c_27 => ?_)
          · have h := h.1 c_27
            obtain ⟨n29, hn28, hI30⟩ := h
            exact ih9 n29 (x1, z2, z3, (upd z4 x1.toNatClampNeg ((z4 x1.toNatClampNeg) + (1 : Int32)))) hn28 hI30 _ _ _ ⟨hP, hD, hS, lv_sub hl [0, 1, 2] rfl⟩
          · have h := h.2 c_27
            refine lv_aload_n hx hb dX6_findList_70 rfl (lv_at hl 0 rfl) ?_
            refine lv_iload_n hx hb dX6_findList_71 rfl (lv_at hl 2 rfl) ?_
            refine lv_iconst (v := (1 : Int32)) hx hb dX6_findList_72 (by decide) ?_
            refine lv_iadd hx hb dX6_findList_73 ?_
            refine kc_i (wr := ([] : va_W)) (va_runV (As := [.int (x1 + (1 : Int32))]) (rest := []) ⟨hx, hb, hml, hown, hts⟩ (c_X6_mayStand l G ad _ nw ps er us z2 z3 (upd z4 x1.toNatClampNeg ((z4 x1.toNatClampNeg) + (1 : Int32))) st lm hs (x1 + (1 : Int32)) h) (cwV 1 hts gX6_findList_X6_mayStand rfl rfl rfl (by decide +kernel) ⟨Nat.le_of_ble_eq_true rfl, Nat.le_of_ble_eq_true rfl⟩) (kpV hK hP hD hZ hS hA [0, 1, 2, 3, 4, 5, 6, 7] rfl (by decide) (q0 := 0) (ci := 6) rfl rfl) rfl rfl hl.1 rfl (lv_room (Nat.le_of_ble_eq_true rfl)) dX6_findList_74 ⟨Nat.zero_le _, Nat.zero_le _⟩) hP hD hS hA [0, 1, 2, 3, 4, 5, 6, 7] [] rfl rfl (by decide) (by decide) (fun r31 w43 H locs h hP hD hS => ?_)
            obtain ⟨u32, u33⟩ := w43
            have hP : va_P G.1 vwCl (wM G ad nw ps er us u32 u33 (upd z4 x1.toNatClampNeg ((z4 x1.toNatClampNeg) + (1 : Int32))) st lm hs) H := hP
            have hD : va_D A (wM G ad nw ps er us u32 u33 (upd z4 x1.toNatClampNeg ((z4 x1.toNatClampNeg) + (1 : Int32))) st lm hs) := hD
            try dsimp only at h
            refine lv_if_eq (tgt := 9) hx hb dX6_findList_77 (by decide) (fun c_34 => ?_) (fun c_34 => ?_)
            · have h := h.1 c_34
              obtain ⟨n36, hn35, hI37⟩ := h
              exact ih9 n36 (x1, u32, u33, (upd z4 x1.toNatClampNeg ((z4 x1.toNatClampNeg) + (1 : Int32)))) hn35 hI37 _ _ _ ⟨hP, hD, hS, lv_sub hl [0, 1, 2] rfl⟩
            · have h := h.2 c_34
              refine lv_aload_n hx hb dX6_findList_80 rfl (lv_at hl 0 rfl) ?_
              refine va_get (D := G.1) (ci := 6) (v := .ref (ad 7)) (C := RX6) (T := TX6) (N := 10) hx hb hts hinX6 hown hK.1 hP 0 rfl rfl 7 (by decide) (hts (.fieldLink RX6 28 "PlaFolderModel" "list" "[I") (by decide +kernel)) (fun _ h9 => h9) rfl dX6_findList_81 ?_
              refine lv_iload_n hx hb dX6_findList_84 rfl (lv_at hl 2 rfl) ?_
              obtain ⟨hi38, h⟩ := h
              refine x_iald hx hb hK hP 7 rfl hi38 rfl dX6_findList_85 ?_
              refine lv_bipush (v := (nI 10)) hx hb dX6_findList_86 (by decide) ?_
              refine lv_idiv hx hb dX6_findList_88 (by decide) ?_
              refine lv_istore_n (lv' := [(3, .int (((upd z4 x1.toNatClampNeg ((z4 x1.toNatClampNeg) + (1 : Int32))) x1.toNatClampNeg) / (nI 10))), (0, .ref (ad 0)), (1, .int a1), (2, .int x1)]) hx hb dX6_findList_89 rfl hl (by decide) rfl (fun ls hl => ?_)
              refine lv_iinc (v := (x1 + (1 : Int32))) (lv' := [(2, .int (x1 + (1 : Int32))), (3, .int (((upd z4 x1.toNatClampNeg ((z4 x1.toNatClampNeg) + (1 : Int32))) x1.toNatClampNeg) / (nI 10))), (0, .ref (ad 0)), (1, .int a1)]) hx hb dX6_findList_90 hl (k := 3) rfl rfl (by decide) rfl (fun ls hl => ?_)
              refine lv_aload_n hx hb dX6_findList_93 rfl (lv_at hl 2 rfl) ?_
              refine va_get (D := G.1) (ci := 6) (v := .ref (ad 7)) (C := RX6) (T := TX6) (N := 10) hx hb hts hinX6 hown hK.1 hP 0 rfl rfl 7 (by decide) (hts (.fieldLink RX6 28 "PlaFolderModel" "list" "[I") (by decide +kernel)) (fun _ h9 => h9) rfl dX6_findList_94 ?_
              refine lv_iload_n hx hb dX6_findList_97 rfl (lv_at hl 0 rfl) ?_
              refine lv_bipush (v := (nI 10)) hx hb dX6_findList_98 (by decide) ?_
              refine lv_iload_n hx hb dX6_findList_100 rfl (lv_at hl 1 rfl) ?_
              refine lv_imul hx hb dX6_findList_101 ?_
              refine lv_bipush (v := (nI 9)) hx hb dX6_findList_102 (by decide) ?_
              refine lv_iadd hx hb dX6_findList_104 ?_
              obtain ⟨hi39, h⟩ := h
              refine x_iast hx hb hK hP hD hS 7 rfl hi39 rfl dX6_findList_105 (fun H locs hP hD hS => ?_)
              have hP : va_P G.1 vwCl (wM G ad nw ps er us u32 u33 (upd (upd z4 x1.toNatClampNeg ((z4 x1.toNatClampNeg) + (1 : Int32))) ((x1 + (1 : Int32)).toNatClampNeg) (((nI 10) * (((upd z4 x1.toNatClampNeg ((z4 x1.toNatClampNeg) + (1 : Int32))) x1.toNatClampNeg) / (nI 10))) + (nI 9))) st lm hs) H := hP
              have hD : va_D A (wM G ad nw ps er us u32 u33 (upd (upd z4 x1.toNatClampNeg ((z4 x1.toNatClampNeg) + (1 : Int32))) ((x1 + (1 : Int32)).toNatClampNeg) (((nI 10) * (((upd z4 x1.toNatClampNeg ((z4 x1.toNatClampNeg) + (1 : Int32))) x1.toNatClampNeg) / (nI 10))) + (nI 9))) st lm hs) := hD
              refine lv_goto (tgt := 9) hx hb dX6_findList_106 (by decide) ?_
              obtain ⟨n41, hn40, hI42⟩ := h
              exact ih9 n41 ((x1 + (1 : Int32)), u32, u33, (upd (upd z4 x1.toNatClampNeg ((z4 x1.toNatClampNeg) + (1 : Int32))) ((x1 + (1 : Int32)).toNatClampNeg) (((nI 10) * (((upd z4 x1.toNatClampNeg ((z4 x1.toNatClampNeg) + (1 : Int32))) x1.toNatClampNeg) / (nI 10))) + (nI 9)))) hn40 hI42 _ _ _ ⟨hP, hD, hS, lv_sub hl [2, 3, 0] rfl⟩
        · have h := h.2 c_23
          refine lv_iinc (v := (x1 + (-1 : Int32))) (lv' := [(2, .int (x1 + (-1 : Int32))), (0, .ref (ad 0)), (1, .int a1)]) hx hb dX6_findList_39 hl (k := 2) rfl rfl (by decide) rfl (fun ls hl => ?_)
          refine lv_goto (tgt := 9) hx hb dX6_findList_42 (by decide) ?_
          obtain ⟨n46, hn45, hI47⟩ := h
          exact ih9 n46 ((x1 + (-1 : Int32)), z2, z3, (upd z4 x1.toNatClampNeg ((z4 x1.toNatClampNeg) + (1 : Int32)))) hn45 hI47 _ _ _ ⟨hP, hD, hS, lv_sub hl [1, 2, 0] rfl⟩
def wp_X6_findBest (nw : Nat → Int32) (us : Nat → Int32) (un : Nat → Int32) (od : Nat → Int32) (li : Nat → Int32) (lm : Int32) (K : (Nat → Int32) → (Nat → Int32) → (Nat → Int32) → (Nat → Int32) → Int32 → Prop) : Prop :=
 wp_X6_layUsed nw us (fun (u2 : Nat → Int32) => (Lp5 (((nw 0) / (nI 2)) + ((nw 1) / (nI 2))) un od li lm (fun (x3 : Int32) (z4 : Nat → Int32) (z5 : Nat → Int32) (z6 : Nat → Int32) (z7 : Int32) (J11 : Int32 → (Nat → Int32) → (Nat → Int32) → (Nat → Int32) → Int32 → Prop) => wp_X6_findList x3 nw u2 z4 z5 z6 z7 (fun (r14 : Int32) (u15 : Nat → Int32) (u16 : Nat → Int32) (u17 : Nat → Int32) (u18 : Int32) => ((¬ r14 = 0 → K u2 u15 u16 u17 u18) ∧
 (r14 = 0 → J11 (x3 + (-1 : Int32)) u15 u16 u17 u18))))))
abbrev rm_X6_findBest : Room := { frames := 4, cells := 0, slots := 0, locals := 94 }
set_option maxHeartbeats 4000000 in
set_option maxRecDepth 100000 in
theorem c_X6_findBest (l : Launch) (G : GG) (ad : Nat → Nat) (sz : Nat) (nw : Nat → Int32) (ps : Nat → Int32) (er : Nat → Int32) (us : Nat → Int32) (un : Nat → Int32) (od : Nat → Int32) (li : Nat → Int32) (st : Int32) (lm : Int32) (hs : Int64) {K : (Nat → Int32) → (Nat → Int32) → (Nat → Int32) → (Nat → Int32) → Int32 → Prop} (h : wp_X6_findBest nw us un od li lm K) : CV l yX6_findBest wsX6_findBest rm_X6_findBest G [.ref (ad 0)] (wM G ad nw ps er us un od li st lm hs) sz (fun u : (Nat → Int32) × (Nat → Int32) × (Nat → Int32) × (Nat → Int32) × Int32 => wM G ad nw ps er u.1 u.2.1 u.2.2.1 u.2.2.2.1 st u.2.2.2.2 hs) (fun u => K u.1 u.2.1 u.2.2.1 u.2.2.2.1 u.2.2.2.2) := by
  refine Met.ofW (cc := cX6_findBest) (maxL := 2) (ret := none) (by decide) rfl ?_
  intro p e s m args below meth c s₁ B hml hv
  obtain ⟨rfl, hsz, hP, hK, hD0, hZ⟩ := hv
  have hx := B.exec
  have hb := B.bytes
  have hr := B.returns
  have hts := atoms_spec (ws := wsX6_findBest) B.pre
  have hown : s.vm.findClass RX6 = some m.cls := findClass_of_methodNamed B.named
  have hlocks := B.notSynchronized
  subst hsz
  have hD := hD0.self (sz := s.heap.size)
  generalize hAe : va_A (wM G ad nw ps er us un od li st lm hs) s.heap.size = A at hD hZ ⊢
  have hA : ∀ q : Nat, s.heap.size ≤ q → A q := fun q h => by rw [← hAe]; exact Or.inr h
  have hS : va_S A s.heap s.heap [] := va_S.rf
  have hl := lv_entry ([.ref (ad 0)]) (n := 2) (Nat.le_of_ble_eq_true rfl)
  rw [lg_entry_eq]
  generalize (lg_sl ([.ref (ad 0)]) ++ List.replicate (2 - (lg_sl ([.ref (ad 0)])).length) Slot.unset).toArray = ls at hl ⊢
  have hl : lv_has ls 2 [(0, .ref (ad 0))] := hl
  unfold wp_X6_findBest at h
  have hinX6 : ∀ w ∈ wsX60, w ∈ wsX6_findBest := by decide +kernel
  refine lv_aload_n hx hb dX6_findBest_0 rfl (lv_at hl 0 rfl) ?_
  refine kc_v (wr := ([] : va_W)) (va_runV (As := []) (rest := []) ⟨hx, hb, hml, hown, hts⟩ (c_X6_layUsed l G ad _ nw ps er us un od li st lm hs  h) (cwV 0 hts gX6_findBest_X6_layUsed rfl rfl rfl (by decide +kernel) ⟨Nat.le_of_ble_eq_true rfl, Nat.le_of_ble_eq_true rfl⟩) (kpV hK hP hD hZ hS hA [0, 1, 2, 3, 4, 5, 6, 7] rfl (by decide) (q0 := 0) (ci := 6) rfl rfl) rfl rfl hl.1 rfl (lv_room (Nat.le_of_ble_eq_true rfl)) dX6_findBest_1 ⟨Nat.zero_le _, Nat.zero_le _⟩) hP hD hS hA [0, 1, 2, 3, 4, 5, 6, 7] [] rfl rfl (by decide) (by decide) (fun w24 H locs h hP hD hS => ?_)
  obtain ⟨u2, rfl⟩ : ∃ z, z = w24 := ⟨_, rfl⟩
  have hP : va_P G.1 vwCl (wM G ad nw ps er u2 un od li st lm hs) H := hP
  have hD : va_D A (wM G ad nw ps er u2 un od li st lm hs) := hD
  try dsimp only at h
  refine lv_aload_n hx hb dX6_findBest_4 rfl (lv_at hl 0 rfl) ?_
  refine va_get (D := G.1) (ci := 6) (v := .ref (ad 1)) (C := RX6) (T := TX6) (N := 10) hx hb hts hinX6 hown hK.1 hP 0 rfl rfl 0 (by decide) (hts (.fieldLink RX6 7 "PlaFolderModel" "now" "[I") (by decide +kernel)) (fun _ h9 => h9) rfl dX6_findBest_5 ?_
  refine lv_iconst (v := (0 : Int32)) hx hb dX6_findBest_8 (by decide) ?_
  refine x_iald hx hb hK hP 1 rfl (vin_c (by decide)) (k := 0) (by decide) dX6_findBest_9 ?_
  refine lv_iconst (v := (nI 2)) hx hb dX6_findBest_10 (by decide) ?_
  refine lv_idiv hx hb dX6_findBest_11 (by decide) ?_
  refine lv_aload_n hx hb dX6_findBest_12 rfl (lv_at hl 0 rfl) ?_
  refine va_get (D := G.1) (ci := 6) (v := .ref (ad 1)) (C := RX6) (T := TX6) (N := 10) hx hb hts hinX6 hown hK.1 hP 0 rfl rfl 0 (by decide) (hts (.fieldLink RX6 7 "PlaFolderModel" "now" "[I") (by decide +kernel)) (fun _ h9 => h9) rfl dX6_findBest_13 ?_
  refine lv_iconst (v := (1 : Int32)) hx hb dX6_findBest_16 (by decide) ?_
  refine x_iald hx hb hK hP 1 rfl (vin_c (by decide)) (k := 1) (by decide) dX6_findBest_17 ?_
  refine lv_iconst (v := (nI 2)) hx hb dX6_findBest_18 (by decide) ?_
  refine lv_idiv hx hb dX6_findBest_19 (by decide) ?_
  refine lv_iadd hx hb dX6_findBest_20 ?_
  refine lv_istore_n (lv' := [(1, .int (((nw 0) / (nI 2)) + ((nw 1) / (nI 2)))), (0, .ref (ad 0))]) hx hb dX6_findBest_21 rfl hl (by decide) rfl (fun ls hl => ?_)
  obtain ⟨I8, n9, h0, hst10⟩ := h
  refine loopW (σ := Int32 × (Nat → Int32) × (Nat → Int32) × (Nat → Int32) × Int32) (P := fun q H locs ls => va_P G.1 vwCl (wM G ad nw ps er u2 q.2.1 q.2.2.1 q.2.2.2.1 st q.2.2.2.2 hs) H ∧ va_D A (wM G ad nw ps er u2 q.2.1 q.2.2.1 q.2.2.2.1 st q.2.2.2.2 hs) ∧ va_S A s.heap H locs ∧ lv_has ls 2 [(0, .ref (ad 0)), (1, .int q.1)]) (I := fun n q => I8 n q.1 q.2.1 q.2.2.1 q.2.2.2.1 q.2.2.2.2) n9 ((((nw 0) / (nI 2)) + ((nw 1) / (nI 2))), un, od, li, lm) h0 _ _ _ ⟨hP, hD, hS, lv_sub hl [1, 0] rfl⟩ ?_
  rintro n13 ⟨x3, z4, z5, z6, z7⟩ hI ih12 H locs ls ⟨hP, hD, hS, hl⟩
  have hP : va_P G.1 vwCl (wM G ad nw ps er u2 z4 z5 z6 st z7 hs) H := hP
  have hD : va_D A (wM G ad nw ps er u2 z4 z5 z6 st z7 hs) := hD
  have hl : lv_has ls 2 [(0, .ref (ad 0)), (1, .int x3)] := hl
  have h := hst10 n13 x3 z4 z5 z6 z7 hI
  refine lv_aload_n hx hb dX6_findBest_22 rfl (lv_at hl 0 rfl) ?_
  refine lv_iload_n hx hb dX6_findBest_23 rfl (lv_at hl 1 rfl) ?_
  refine kc_i (wr := ([] : va_W)) (va_runV (As := [.int x3]) (rest := []) ⟨hx, hb, hml, hown, hts⟩ (c_X6_findList l G ad _ nw ps er u2 z4 z5 z6 st z7 hs x3 h) (cwV 1 hts gX6_findBest_X6_findList rfl rfl rfl (by decide +kernel) ⟨Nat.le_of_ble_eq_true rfl, Nat.le_of_ble_eq_true rfl⟩) (kpV hK hP hD hZ hS hA [0, 1, 2, 3, 4, 5, 6, 7] rfl (by decide) (q0 := 0) (ci := 6) rfl rfl) rfl rfl hl.1 rfl (lv_room (Nat.le_of_ble_eq_true rfl)) dX6_findBest_24 ⟨Nat.zero_le _, Nat.zero_le _⟩) hP hD hS hA [0, 1, 2, 3, 4, 5, 6, 7] [] rfl rfl (by decide) (by decide) (fun r14 w23 H locs h hP hD hS => ?_)
  obtain ⟨u15, u16, u17, u18⟩ := w23
  have hP : va_P G.1 vwCl (wM G ad nw ps er u2 u15 u16 u17 st u18 hs) H := hP
  have hD : va_D A (wM G ad nw ps er u2 u15 u16 u17 st u18 hs) := hD
  try dsimp only at h
  refine lv_if_ne (tgt := 36) hx hb dX6_findBest_27 (by decide) (fun c_19 => ?_) (fun c_19 => ?_)
  · have h := h.1 c_19
    exact W.vret hx hb hr (fun t ht hW => ⟨⟨(u2, u15, u16, u17, u18), rfl, h, by rw [ht]; exact hP, hD⟩, hS.F ht⟩) hS.2.2 dX6_findBest_36
  · have h := h.2 c_19
    refine lv_iinc (v := (x3 + (-1 : Int32))) (lv' := [(1, .int (x3 + (-1 : Int32))), (0, .ref (ad 0))]) hx hb dX6_findBest_30 hl (k := 1) rfl rfl (by decide) rfl (fun ls hl => ?_)
    refine lv_goto (tgt := 22) hx hb dX6_findBest_33 (by decide) ?_
    obtain ⟨n21, hn20, hI22⟩ := h
    exact ih12 n21 ((x3 + (-1 : Int32)), u15, u16, u17, u18) hn20 hI22 _ _ _ ⟨hP, hD, hS, lv_sub hl [1, 0] rfl⟩
def wp_X6_bestUpper (a1 : Int32) (nw : Nat → Int32) (er : Nat → Int32) (us : Nat → Int32) (un : Nat → Int32) (od : Nat → Int32) (li : Nat → Int32) (lm : Int32) (K : Int32 → (Nat → Int32) → (Nat → Int32) → (Nat → Int32) → (Nat → Int32) → (Nat → Int32) → Int32 → Prop) : Prop :=
 (((-1 : Int32) ≤ a1 → wp_X6_findBest nw us un od li lm (fun (u3 : Nat → Int32) (u4 : Nat → Int32) (u5 : Nat → Int32) (u6 : Nat → Int32) (u7 : Int32) => ((0 ≤ a1 → ((u7 ≤ a1 → K (-1 : Int32) er u3 u4 u5 u6 u7) ∧
 (¬ (u7 ≤ a1) → (vp_in a1 6 ∧ K ((u6 a1.toNatClampNeg) / (nI 10)) er u3 u4 u5 u6 u7)))) ∧
 (¬ (0 ≤ a1) → K u7 er u3 u4 u5 u6 u7)))) ∧
 (¬ ((-1 : Int32) ≤ a1) → wp_X6_error (-2 : Int32) er (fun (r12 : Int32) (u13 : Nat → Int32) => K r12 u13 us un od li lm)))
abbrev rm_X6_bestUpper : Room := { frames := 5, cells := 0, slots := 0, locals := 115 }
set_option maxHeartbeats 4000000 in
set_option maxRecDepth 100000 in
theorem c_X6_bestUpper (l : Launch) (G : GG) (ad : Nat → Nat) (sz : Nat) (nw : Nat → Int32) (ps : Nat → Int32) (er : Nat → Int32) (us : Nat → Int32) (un : Nat → Int32) (od : Nat → Int32) (li : Nat → Int32) (st : Int32) (lm : Int32) (hs : Int64) (a1 : Int32) {K : Int32 → (Nat → Int32) → (Nat → Int32) → (Nat → Int32) → (Nat → Int32) → (Nat → Int32) → Int32 → Prop} (h : wp_X6_bestUpper a1 nw er us un od li lm K) : CI l yX6_bestUpper wsX6_bestUpper rm_X6_bestUpper G [.ref (ad 0), .int a1] (wM G ad nw ps er us un od li st lm hs) sz (fun u : (Nat → Int32) × (Nat → Int32) × (Nat → Int32) × (Nat → Int32) × (Nat → Int32) × Int32 => wM G ad nw ps u.1 u.2.1 u.2.2.1 u.2.2.2.1 u.2.2.2.2.1 st u.2.2.2.2.2 hs) (fun r u => K r u.1 u.2.1 u.2.2.1 u.2.2.2.1 u.2.2.2.2.1 u.2.2.2.2.2) := by
  refine Met.ofW (cc := cX6_bestUpper) (maxL := 2) (ret := (some .int)) (by decide) rfl ?_
  intro p e s m args below meth c s₁ B hml hv
  obtain ⟨rfl, hsz, hP, hK, hD0, hZ⟩ := hv
  have hx := B.exec
  have hb := B.bytes
  have hr := B.returns
  have hts := atoms_spec (ws := wsX6_bestUpper) B.pre
  have hown : s.vm.findClass RX6 = some m.cls := findClass_of_methodNamed B.named
  have hlocks := B.notSynchronized
  subst hsz
  have hD := hD0.self (sz := s.heap.size)
  generalize hAe : va_A (wM G ad nw ps er us un od li st lm hs) s.heap.size = A at hD hZ ⊢
  have hA : ∀ q : Nat, s.heap.size ≤ q → A q := fun q h => by rw [← hAe]; exact Or.inr h
  have hS : va_S A s.heap s.heap [] := va_S.rf
  have hl := lv_entry ([.ref (ad 0), .int a1]) (n := 2) (Nat.le_of_ble_eq_true rfl)
  rw [lg_entry_eq]
  generalize (lg_sl ([.ref (ad 0), .int a1]) ++ List.replicate (2 - (lg_sl ([.ref (ad 0), .int a1])).length) Slot.unset).toArray = ls at hl ⊢
  have hl : lv_has ls 2 [(0, .ref (ad 0)), (1, .int a1)] := hl
  unfold wp_X6_bestUpper at h
  have hinX6 : ∀ w ∈ wsX60, w ∈ wsX6_bestUpper := by decide +kernel
  refine lv_iload_n hx hb dX6_bestUpper_0 rfl (lv_at hl 1 rfl) ?_
  refine lv_iconst (v := (-1 : Int32)) hx hb dX6_bestUpper_1 (by decide) ?_
  refine lv_icmp_ge (tgt := 12) hx hb dX6_bestUpper_2 (by decide) (fun c_1 => ?_) (fun c_1 => ?_)
  · have h := h.1 c_1
    refine lv_aload_n hx hb dX6_bestUpper_12 rfl (lv_at hl 0 rfl) ?_
    refine kc_v (wr := ([] : va_W)) (va_runV (As := []) (rest := []) ⟨hx, hb, hml, hown, hts⟩ (c_X6_findBest l G ad _ nw ps er us un od li st lm hs  h) (cwV 0 hts gX6_bestUpper_X6_findBest rfl rfl rfl (by decide +kernel) ⟨Nat.le_of_ble_eq_true rfl, Nat.le_of_ble_eq_true rfl⟩) (kpV hK hP hD hZ hS hA [0, 1, 2, 3, 4, 5, 6, 7] rfl (by decide) (q0 := 0) (ci := 6) rfl rfl) rfl rfl hl.1 rfl (lv_room (Nat.le_of_ble_eq_true rfl)) dX6_bestUpper_13 ⟨Nat.zero_le _, Nat.zero_le _⟩) hP hD hS hA [0, 1, 2, 3, 4, 5, 6, 7] [] rfl rfl (by decide) (by decide) (fun w11 H locs h hP hD hS => ?_)
    obtain ⟨u3, u4, u5, u6, u7⟩ := w11
    have hP : va_P G.1 vwCl (wM G ad nw ps er u3 u4 u5 u6 st u7 hs) H := hP
    have hD : va_D A (wM G ad nw ps er u3 u4 u5 u6 st u7 hs) := hD
    try dsimp only at h
    refine lv_iload_n hx hb dX6_bestUpper_16 rfl (lv_at hl 1 rfl) ?_
    refine lv_if_ge (tgt := 27) hx hb dX6_bestUpper_17 (by decide) (fun c_8 => ?_) (fun c_8 => ?_)
    · have h := h.1 c_8
      refine lv_iload_n hx hb dX6_bestUpper_27 rfl (lv_at hl 1 rfl) ?_
      refine lv_aload_n hx hb dX6_bestUpper_28 rfl (lv_at hl 0 rfl) ?_
      refine va_get (D := G.1) (ci := 6) (v := .int u7) (C := RX6) (T := TX6) (N := 10) hx hb hts hinX6 hown hK.1 hP 0 rfl rfl 8 (by decide) (hts (.fieldLink RX6 131 "PlaFolderModel" "listMany" "I") (by decide +kernel)) (fun _ h9 => h9) rfl dX6_bestUpper_29 ?_
      refine lv_icmp_ge (tgt := 47) hx hb dX6_bestUpper_32 (by decide) (fun c_9 => ?_) (fun c_9 => ?_)
      · have h := h.1 c_9
        refine lv_iconst (v := (-1 : Int32)) hx hb dX6_bestUpper_47 (by decide) ?_
        exact W.iret hx hb hr (fun t ht hW => ⟨⟨_, (er, u3, u4, u5, u6, u7), rfl, h, by rw [ht]; exact hP, hD⟩, hS.F ht⟩) hS.2.2 dX6_bestUpper_48
      · have h := h.2 c_9
        refine lv_aload_n hx hb dX6_bestUpper_35 rfl (lv_at hl 0 rfl) ?_
        refine va_get (D := G.1) (ci := 6) (v := .ref (ad 7)) (C := RX6) (T := TX6) (N := 10) hx hb hts hinX6 hown hK.1 hP 0 rfl rfl 7 (by decide) (hts (.fieldLink RX6 28 "PlaFolderModel" "list" "[I") (by decide +kernel)) (fun _ h9 => h9) rfl dX6_bestUpper_36 ?_
        refine lv_iload_n hx hb dX6_bestUpper_39 rfl (lv_at hl 1 rfl) ?_
        obtain ⟨hi10, h⟩ := h
        refine x_iald hx hb hK hP 7 rfl hi10 rfl dX6_bestUpper_40 ?_
        refine lv_bipush (v := (nI 10)) hx hb dX6_bestUpper_41 (by decide) ?_
        refine lv_idiv hx hb dX6_bestUpper_43 (by decide) ?_
        refine lv_goto (tgt := 48) hx hb dX6_bestUpper_44 (by decide) ?_
        exact W.iret hx hb hr (fun t ht hW => ⟨⟨_, (er, u3, u4, u5, u6, u7), rfl, h, by rw [ht]; exact hP, hD⟩, hS.F ht⟩) hS.2.2 dX6_bestUpper_48
    · have h := h.2 c_8
      refine lv_aload_n hx hb dX6_bestUpper_20 rfl (lv_at hl 0 rfl) ?_
      refine va_get (D := G.1) (ci := 6) (v := .int u7) (C := RX6) (T := TX6) (N := 10) hx hb hts hinX6 hown hK.1 hP 0 rfl rfl 8 (by decide) (hts (.fieldLink RX6 131 "PlaFolderModel" "listMany" "I") (by decide +kernel)) (fun _ h9 => h9) rfl dX6_bestUpper_21 ?_
      refine lv_goto (tgt := 48) hx hb dX6_bestUpper_24 (by decide) ?_
      exact W.iret hx hb hr (fun t ht hW => ⟨⟨_, (er, u3, u4, u5, u6, u7), rfl, h, by rw [ht]; exact hP, hD⟩, hS.F ht⟩) hS.2.2 dX6_bestUpper_48
  · have h := h.2 c_1
    refine lv_aload_n hx hb dX6_bestUpper_5 rfl (lv_at hl 0 rfl) ?_
    refine lv_bipush (v := (-2 : Int32)) hx hb dX6_bestUpper_6 (by decide) ?_
    refine kc_i (wr := ([] : va_W)) (va_runV (As := [.int (-2 : Int32)]) (rest := []) ⟨hx, hb, hml, hown, hts⟩ (c_X6_error l G ad _ nw ps er us un od li st lm hs (-2 : Int32) h) (cwV 1 hts gX6_bestUpper_X6_error rfl rfl rfl (by decide +kernel) ⟨Nat.le_of_ble_eq_true rfl, Nat.le_of_ble_eq_true rfl⟩) (kpV hK hP hD hZ hS hA [0, 1, 2, 3, 4, 5, 6, 7] rfl (by decide) (q0 := 0) (ci := 6) rfl rfl) rfl rfl hl.1 rfl (lv_room (Nat.le_of_ble_eq_true rfl)) dX6_bestUpper_8 ⟨Nat.zero_le _, Nat.zero_le _⟩) hP hD hS hA [0, 1, 2, 3, 4, 5, 6, 7] [] rfl rfl (by decide) (by decide) (fun r12 w14 H locs h hP hD hS => ?_)
    obtain ⟨u13, rfl⟩ : ∃ z, z = w14 := ⟨_, rfl⟩
    have hP : va_P G.1 vwCl (wM G ad nw ps u13 us un od li st lm hs) H := hP
    have hD : va_D A (wM G ad nw ps u13 us un od li st lm hs) := hD
    try dsimp only at h
    exact W.iret hx hb hr (fun t ht hW => ⟨⟨_, (u13, us, un, od, li, lm), rfl, h, by rw [ht]; exact hP, hD⟩, hS.F ht⟩) hS.2.2 dX6_bestUpper_11
def wp_X6_bestLower (a1 : Int32) (nw : Nat → Int32) (er : Nat → Int32) (us : Nat → Int32) (un : Nat → Int32) (od : Nat → Int32) (li : Nat → Int32) (lm : Int32) (K : Int32 → (Nat → Int32) → (Nat → Int32) → (Nat → Int32) → (Nat → Int32) → (Nat → Int32) → Int32 → Prop) : Prop :=
 ((0 ≤ a1 → wp_X6_findBest nw us un od li lm (fun (u3 : Nat → Int32) (u4 : Nat → Int32) (u5 : Nat → Int32) (u6 : Nat → Int32) (u7 : Int32) => ((u7 ≤ a1 → K (-1 : Int32) er u3 u4 u5 u6 u7) ∧
 (¬ (u7 ≤ a1) → (vp_in a1 6 ∧ K (jrem (u6 a1.toNatClampNeg) (nI 10)) er u3 u4 u5 u6 u7))))) ∧
 (¬ (0 ≤ a1) → wp_X6_error (-2 : Int32) er (fun (r11 : Int32) (u12 : Nat → Int32) => K r11 u12 us un od li lm)))
abbrev rm_X6_bestLower : Room := { frames := 5, cells := 0, slots := 0, locals := 115 }
set_option maxHeartbeats 4000000 in
set_option maxRecDepth 100000 in
theorem c_X6_bestLower (l : Launch) (G : GG) (ad : Nat → Nat) (sz : Nat) (nw : Nat → Int32) (ps : Nat → Int32) (er : Nat → Int32) (us : Nat → Int32) (un : Nat → Int32) (od : Nat → Int32) (li : Nat → Int32) (st : Int32) (lm : Int32) (hs : Int64) (a1 : Int32) {K : Int32 → (Nat → Int32) → (Nat → Int32) → (Nat → Int32) → (Nat → Int32) → (Nat → Int32) → Int32 → Prop} (h : wp_X6_bestLower a1 nw er us un od li lm K) : CI l yX6_bestLower wsX6_bestLower rm_X6_bestLower G [.ref (ad 0), .int a1] (wM G ad nw ps er us un od li st lm hs) sz (fun u : (Nat → Int32) × (Nat → Int32) × (Nat → Int32) × (Nat → Int32) × (Nat → Int32) × Int32 => wM G ad nw ps u.1 u.2.1 u.2.2.1 u.2.2.2.1 u.2.2.2.2.1 st u.2.2.2.2.2 hs) (fun r u => K r u.1 u.2.1 u.2.2.1 u.2.2.2.1 u.2.2.2.2.1 u.2.2.2.2.2) := by
  refine Met.ofW (cc := cX6_bestLower) (maxL := 2) (ret := (some .int)) (by decide) rfl ?_
  intro p e s m args below meth c s₁ B hml hv
  obtain ⟨rfl, hsz, hP, hK, hD0, hZ⟩ := hv
  have hx := B.exec
  have hb := B.bytes
  have hr := B.returns
  have hts := atoms_spec (ws := wsX6_bestLower) B.pre
  have hown : s.vm.findClass RX6 = some m.cls := findClass_of_methodNamed B.named
  have hlocks := B.notSynchronized
  subst hsz
  have hD := hD0.self (sz := s.heap.size)
  generalize hAe : va_A (wM G ad nw ps er us un od li st lm hs) s.heap.size = A at hD hZ ⊢
  have hA : ∀ q : Nat, s.heap.size ≤ q → A q := fun q h => by rw [← hAe]; exact Or.inr h
  have hS : va_S A s.heap s.heap [] := va_S.rf
  have hl := lv_entry ([.ref (ad 0), .int a1]) (n := 2) (Nat.le_of_ble_eq_true rfl)
  rw [lg_entry_eq]
  generalize (lg_sl ([.ref (ad 0), .int a1]) ++ List.replicate (2 - (lg_sl ([.ref (ad 0), .int a1])).length) Slot.unset).toArray = ls at hl ⊢
  have hl : lv_has ls 2 [(0, .ref (ad 0)), (1, .int a1)] := hl
  unfold wp_X6_bestLower at h
  have hinX6 : ∀ w ∈ wsX60, w ∈ wsX6_bestLower := by decide +kernel
  refine lv_iload_n hx hb dX6_bestLower_0 rfl (lv_at hl 1 rfl) ?_
  refine lv_if_ge (tgt := 11) hx hb dX6_bestLower_1 (by decide) (fun c_1 => ?_) (fun c_1 => ?_)
  · have h := h.1 c_1
    refine lv_aload_n hx hb dX6_bestLower_11 rfl (lv_at hl 0 rfl) ?_
    refine kc_v (wr := ([] : va_W)) (va_runV (As := []) (rest := []) ⟨hx, hb, hml, hown, hts⟩ (c_X6_findBest l G ad _ nw ps er us un od li st lm hs  h) (cwV 0 hts gX6_bestLower_X6_findBest rfl rfl rfl (by decide +kernel) ⟨Nat.le_of_ble_eq_true rfl, Nat.le_of_ble_eq_true rfl⟩) (kpV hK hP hD hZ hS hA [0, 1, 2, 3, 4, 5, 6, 7] rfl (by decide) (q0 := 0) (ci := 6) rfl rfl) rfl rfl hl.1 rfl (lv_room (Nat.le_of_ble_eq_true rfl)) dX6_bestLower_12 ⟨Nat.zero_le _, Nat.zero_le _⟩) hP hD hS hA [0, 1, 2, 3, 4, 5, 6, 7] [] rfl rfl (by decide) (by decide) (fun w10 H locs h hP hD hS => ?_)
    obtain ⟨u3, u4, u5, u6, u7⟩ := w10
    have hP : va_P G.1 vwCl (wM G ad nw ps er u3 u4 u5 u6 st u7 hs) H := hP
    have hD : va_D A (wM G ad nw ps er u3 u4 u5 u6 st u7 hs) := hD
    try dsimp only at h
    refine lv_iload_n hx hb dX6_bestLower_15 rfl (lv_at hl 1 rfl) ?_
    refine lv_aload_n hx hb dX6_bestLower_16 rfl (lv_at hl 0 rfl) ?_
    refine va_get (D := G.1) (ci := 6) (v := .int u7) (C := RX6) (T := TX6) (N := 10) hx hb hts hinX6 hown hK.1 hP 0 rfl rfl 8 (by decide) (hts (.fieldLink RX6 131 "PlaFolderModel" "listMany" "I") (by decide +kernel)) (fun _ h9 => h9) rfl dX6_bestLower_17 ?_
    refine lv_icmp_ge (tgt := 35) hx hb dX6_bestLower_20 (by decide) (fun c_8 => ?_) (fun c_8 => ?_)
    · have h := h.1 c_8
      refine lv_iconst (v := (-1 : Int32)) hx hb dX6_bestLower_35 (by decide) ?_
      exact W.iret hx hb hr (fun t ht hW => ⟨⟨_, (er, u3, u4, u5, u6, u7), rfl, h, by rw [ht]; exact hP, hD⟩, hS.F ht⟩) hS.2.2 dX6_bestLower_36
    · have h := h.2 c_8
      refine lv_aload_n hx hb dX6_bestLower_23 rfl (lv_at hl 0 rfl) ?_
      refine va_get (D := G.1) (ci := 6) (v := .ref (ad 7)) (C := RX6) (T := TX6) (N := 10) hx hb hts hinX6 hown hK.1 hP 0 rfl rfl 7 (by decide) (hts (.fieldLink RX6 28 "PlaFolderModel" "list" "[I") (by decide +kernel)) (fun _ h9 => h9) rfl dX6_bestLower_24 ?_
      refine lv_iload_n hx hb dX6_bestLower_27 rfl (lv_at hl 1 rfl) ?_
      obtain ⟨hi9, h⟩ := h
      refine x_iald hx hb hK hP 7 rfl hi9 rfl dX6_bestLower_28 ?_
      refine lv_bipush (v := (nI 10)) hx hb dX6_bestLower_29 (by decide) ?_
      refine lv_irem hx hb dX6_bestLower_31 (by decide) ?_
      refine lv_goto (tgt := 36) hx hb dX6_bestLower_32 (by decide) ?_
      exact W.iret hx hb hr (fun t ht hW => ⟨⟨_, (er, u3, u4, u5, u6, u7), rfl, h, by rw [ht]; exact hP, hD⟩, hS.F ht⟩) hS.2.2 dX6_bestLower_36
  · have h := h.2 c_1
    refine lv_aload_n hx hb dX6_bestLower_4 rfl (lv_at hl 0 rfl) ?_
    refine lv_bipush (v := (-2 : Int32)) hx hb dX6_bestLower_5 (by decide) ?_
    refine kc_i (wr := ([] : va_W)) (va_runV (As := [.int (-2 : Int32)]) (rest := []) ⟨hx, hb, hml, hown, hts⟩ (c_X6_error l G ad _ nw ps er us un od li st lm hs (-2 : Int32) h) (cwV 1 hts gX6_bestLower_X6_error rfl rfl rfl (by decide +kernel) ⟨Nat.le_of_ble_eq_true rfl, Nat.le_of_ble_eq_true rfl⟩) (kpV hK hP hD hZ hS hA [0, 1, 2, 3, 4, 5, 6, 7] rfl (by decide) (q0 := 0) (ci := 6) rfl rfl) rfl rfl hl.1 rfl (lv_room (Nat.le_of_ble_eq_true rfl)) dX6_bestLower_7 ⟨Nat.zero_le _, Nat.zero_le _⟩) hP hD hS hA [0, 1, 2, 3, 4, 5, 6, 7] [] rfl rfl (by decide) (by decide) (fun r11 w13 H locs h hP hD hS => ?_)
    obtain ⟨u12, rfl⟩ : ∃ z, z = w13 := ⟨_, rfl⟩
    have hP : va_P G.1 vwCl (wM G ad nw ps u12 us un od li st lm hs) H := hP
    have hD : va_D A (wM G ad nw ps u12 us un od li st lm hs) := hD
    try dsimp only at h
    exact W.iret hx hb hr (fun t ht hW => ⟨⟨_, (u12, us, un, od, li, lm), rfl, h, by rw [ht]; exact hP, hD⟩, hS.F ht⟩) hS.2.2 dX6_bestLower_10
def wp_X6_foldBest (nw : Nat → Int32) (ps : Nat → Int32) (us : Nat → Int32) (un : Nat → Int32) (od : Nat → Int32) (li : Nat → Int32) (st : Int32) (lm : Int32) (K : Int32 → (Nat → Int32) → (Nat → Int32) → (Nat → Int32) → (Nat → Int32) → (Nat → Int32) → (Nat → Int32) → Int32 → Int32 → Prop) : Prop :=
 wp_X6_save nw ps st (fun (u2 : Nat → Int32) (u3 : Int32) => wp_X6_findBest nw us un od li lm (fun (u5 : Nat → Int32) (u6 : Nat → Int32) (u7 : Nat → Int32) (u8 : Nat → Int32) (u9 : Int32) => wp_X6_noFolds nw (fun (u11 : Nat → Int32) => (Lp2 (0 : Int32) u11 (fun (x12 : Int32) (z13 : Nat → Int32) (J17 : Int32 → (Nat → Int32) → Prop) => ((u9 ≤ x12 → wp_X6_areaNow z13 (fun (r21 : Int32) => K r21 z13 u2 u5 u6 u7 u8 u3 u9)) ∧
 (¬ (u9 ≤ x12) → (vp_in x12 6 ∧ (vp_in x12 6 ∧ (vp_in ((nI 43) + ((u8 x12.toNatClampNeg) / (nI 10))) 53 ∧ (vp_in x12 6 ∧ (vp_in x12 6 ∧ (vp_in ((nI 33) + (jrem (u8 x12.toNatClampNeg) (nI 10))) 53 ∧ J17 (x12 + (1 : Int32)) (upd (upd z13 (((nI 43) + ((u8 x12.toNatClampNeg) / (nI 10))).toNatClampNeg) (jrem (u8 x12.toNatClampNeg) (nI 10))) (((nI 33) + (jrem (u8 x12.toNatClampNeg) (nI 10))).toNatClampNeg) ((u8 x12.toNatClampNeg) / (nI 10))))))))))))))))
abbrev rm_X6_foldBest : Room := { frames := 5, cells := 0, slots := 0, locals := 115 }
set_option maxHeartbeats 4000000 in
set_option maxRecDepth 100000 in
theorem c_X6_foldBest (l : Launch) (G : GG) (ad : Nat → Nat) (sz : Nat) (nw : Nat → Int32) (ps : Nat → Int32) (er : Nat → Int32) (us : Nat → Int32) (un : Nat → Int32) (od : Nat → Int32) (li : Nat → Int32) (st : Int32) (lm : Int32) (hs : Int64) {K : Int32 → (Nat → Int32) → (Nat → Int32) → (Nat → Int32) → (Nat → Int32) → (Nat → Int32) → (Nat → Int32) → Int32 → Int32 → Prop} (h : wp_X6_foldBest nw ps us un od li st lm K) : CI l yX6_foldBest wsX6_foldBest rm_X6_foldBest G [.ref (ad 0)] (wM G ad nw ps er us un od li st lm hs) sz (fun u : (Nat → Int32) × (Nat → Int32) × (Nat → Int32) × (Nat → Int32) × (Nat → Int32) × (Nat → Int32) × Int32 × Int32 => wM G ad u.1 u.2.1 er u.2.2.1 u.2.2.2.1 u.2.2.2.2.1 u.2.2.2.2.2.1 u.2.2.2.2.2.2.1 u.2.2.2.2.2.2.2 hs) (fun r u => K r u.1 u.2.1 u.2.2.1 u.2.2.2.1 u.2.2.2.2.1 u.2.2.2.2.2.1 u.2.2.2.2.2.2.1 u.2.2.2.2.2.2.2) := by
  refine Met.ofW (cc := cX6_foldBest) (maxL := 2) (ret := (some .int)) (by decide) rfl ?_
  intro p e s m args below meth c s₁ B hml hv
  obtain ⟨rfl, hsz, hP, hK, hD0, hZ⟩ := hv
  have hx := B.exec
  have hb := B.bytes
  have hr := B.returns
  have hts := atoms_spec (ws := wsX6_foldBest) B.pre
  have hown : s.vm.findClass RX6 = some m.cls := findClass_of_methodNamed B.named
  have hlocks := B.notSynchronized
  subst hsz
  have hD := hD0.self (sz := s.heap.size)
  generalize hAe : va_A (wM G ad nw ps er us un od li st lm hs) s.heap.size = A at hD hZ ⊢
  have hA : ∀ q : Nat, s.heap.size ≤ q → A q := fun q h => by rw [← hAe]; exact Or.inr h
  have hS : va_S A s.heap s.heap [] := va_S.rf
  have hl := lv_entry ([.ref (ad 0)]) (n := 2) (Nat.le_of_ble_eq_true rfl)
  rw [lg_entry_eq]
  generalize (lg_sl ([.ref (ad 0)]) ++ List.replicate (2 - (lg_sl ([.ref (ad 0)])).length) Slot.unset).toArray = ls at hl ⊢
  have hl : lv_has ls 2 [(0, .ref (ad 0))] := hl
  unfold wp_X6_foldBest at h
  have hinX6 : ∀ w ∈ wsX60, w ∈ wsX6_foldBest := by decide +kernel
  refine lv_aload_n hx hb dX6_foldBest_0 rfl (lv_at hl 0 rfl) ?_
  refine kc_v (wr := ([] : va_W)) (va_runV (As := []) (rest := []) ⟨hx, hb, hml, hown, hts⟩ (c_X6_save l G ad _ nw ps er us un od li st lm hs  h) (cwV 0 hts gX6_foldBest_X6_save rfl rfl rfl (by decide +kernel) ⟨Nat.le_of_ble_eq_true rfl, Nat.le_of_ble_eq_true rfl⟩) (kpV hK hP hD hZ hS hA [0, 1, 2, 3, 4, 5, 6, 7] rfl (by decide) (q0 := 0) (ci := 6) rfl rfl) rfl rfl hl.1 rfl (lv_room (Nat.le_of_ble_eq_true rfl)) dX6_foldBest_1 ⟨Nat.zero_le _, Nat.zero_le _⟩) hP hD hS hA [0, 1, 2, 3, 4, 5, 6, 7] [] rfl rfl (by decide) (by decide) (fun w34 H locs h hP hD hS => ?_)
  obtain ⟨u2, u3⟩ := w34
  have hP : va_P G.1 vwCl (wM G ad nw u2 er us un od li u3 lm hs) H := hP
  have hD : va_D A (wM G ad nw u2 er us un od li u3 lm hs) := hD
  try dsimp only at h
  refine lv_aload_n hx hb dX6_foldBest_4 rfl (lv_at hl 0 rfl) ?_
  refine kc_v (wr := ([] : va_W)) (va_runV (As := []) (rest := []) ⟨hx, hb, hml, hown, hts⟩ (c_X6_findBest l G ad _ nw u2 er us un od li u3 lm hs  h) (cwV 0 hts gX6_foldBest_X6_findBest rfl rfl rfl (by decide +kernel) ⟨Nat.le_of_ble_eq_true rfl, Nat.le_of_ble_eq_true rfl⟩) (kpV hK hP hD hZ hS hA [0, 1, 2, 3, 4, 5, 6, 7] rfl (by decide) (q0 := 0) (ci := 6) rfl rfl) rfl rfl hl.1 rfl (lv_room (Nat.le_of_ble_eq_true rfl)) dX6_foldBest_5 ⟨Nat.zero_le _, Nat.zero_le _⟩) hP hD hS hA [0, 1, 2, 3, 4, 5, 6, 7] [] rfl rfl (by decide) (by decide) (fun w33 H locs h hP hD hS => ?_)
  obtain ⟨u5, u6, u7, u8, u9⟩ := w33
  have hP : va_P G.1 vwCl (wM G ad nw u2 er u5 u6 u7 u8 u3 u9 hs) H := hP
  have hD : va_D A (wM G ad nw u2 er u5 u6 u7 u8 u3 u9 hs) := hD
  try dsimp only at h
  refine lv_aload_n hx hb dX6_foldBest_8 rfl (lv_at hl 0 rfl) ?_
  refine kc_v (wr := ([] : va_W)) (va_runV (As := []) (rest := []) ⟨hx, hb, hml, hown, hts⟩ (c_X6_noFolds l G ad _ nw u2 er u5 u6 u7 u8 u3 u9 hs  h) (cwV 0 hts gX6_foldBest_X6_noFolds rfl rfl rfl (by decide +kernel) ⟨Nat.le_of_ble_eq_true rfl, Nat.le_of_ble_eq_true rfl⟩) (kpV hK hP hD hZ hS hA [0, 1, 2, 3, 4, 5, 6, 7] rfl (by decide) (q0 := 0) (ci := 6) rfl rfl) rfl rfl hl.1 rfl (lv_room (Nat.le_of_ble_eq_true rfl)) dX6_foldBest_9 ⟨Nat.zero_le _, Nat.zero_le _⟩) hP hD hS hA [0, 1, 2, 3, 4, 5, 6, 7] [] rfl rfl (by decide) (by decide) (fun w32 H locs h hP hD hS => ?_)
  obtain ⟨u11, rfl⟩ : ∃ z, z = w32 := ⟨_, rfl⟩
  have hP : va_P G.1 vwCl (wM G ad u11 u2 er u5 u6 u7 u8 u3 u9 hs) H := hP
  have hD : va_D A (wM G ad u11 u2 er u5 u6 u7 u8 u3 u9 hs) := hD
  try dsimp only at h
  refine lv_iconst (v := (0 : Int32)) hx hb dX6_foldBest_12 (by decide) ?_
  refine lv_istore_n (lv' := [(1, .int (0 : Int32)), (0, .ref (ad 0))]) hx hb dX6_foldBest_13 rfl hl (by decide) rfl (fun ls hl => ?_)
  obtain ⟨I14, n15, h0, hst16⟩ := h
  refine loopW (σ := Int32 × (Nat → Int32)) (P := fun q H locs ls => va_P G.1 vwCl (wM G ad q.2 u2 er u5 u6 u7 u8 u3 u9 hs) H ∧ va_D A (wM G ad q.2 u2 er u5 u6 u7 u8 u3 u9 hs) ∧ va_S A s.heap H locs ∧ lv_has ls 2 [(0, .ref (ad 0)), (1, .int q.1)]) (I := fun n q => I14 n q.1 q.2) n15 ((0 : Int32), u11) h0 _ _ _ ⟨hP, hD, hS, lv_sub hl [1, 0] rfl⟩ ?_
  rintro n19 ⟨x12, z13⟩ hI ih18 H locs ls ⟨hP, hD, hS, hl⟩
  have hP : va_P G.1 vwCl (wM G ad z13 u2 er u5 u6 u7 u8 u3 u9 hs) H := hP
  have hD : va_D A (wM G ad z13 u2 er u5 u6 u7 u8 u3 u9 hs) := hD
  have hl : lv_has ls 2 [(0, .ref (ad 0)), (1, .int x12)] := hl
  have h := hst16 n19 x12 z13 hI
  refine lv_iload_n hx hb dX6_foldBest_14 rfl (lv_at hl 1 rfl) ?_
  refine lv_aload_n hx hb dX6_foldBest_15 rfl (lv_at hl 0 rfl) ?_
  refine va_get (D := G.1) (ci := 6) (v := .int u9) (C := RX6) (T := TX6) (N := 10) hx hb hts hinX6 hown hK.1 hP 0 rfl rfl 8 (by decide) (hts (.fieldLink RX6 131 "PlaFolderModel" "listMany" "I") (by decide +kernel)) (fun _ h9 => h9) rfl dX6_foldBest_16 ?_
  refine lv_icmp_ge (tgt := 80) hx hb dX6_foldBest_19 (by decide) (fun c_20 => ?_) (fun c_20 => ?_)
  · have h := h.1 c_20
    refine lv_aload_n hx hb dX6_foldBest_80 rfl (lv_at hl 0 rfl) ?_
    refine kc_i (wr := ([] : va_W)) (va_runV (As := []) (rest := []) ⟨hx, hb, hml, hown, hts⟩ (c_X6_areaNow l G ad _ z13 u2 er u5 u6 u7 u8 u3 u9 hs  h) (cwV 0 hts gX6_foldBest_X6_areaNow rfl rfl rfl (by decide +kernel) ⟨Nat.le_of_ble_eq_true rfl, Nat.le_of_ble_eq_true rfl⟩) (kpV hK hP hD hZ hS hA [0, 1, 2, 3, 4, 5, 6, 7] rfl (by decide) (q0 := 0) (ci := 6) rfl rfl) rfl rfl hl.1 rfl (lv_room (Nat.le_of_ble_eq_true rfl)) dX6_foldBest_81 ⟨Nat.zero_le _, Nat.zero_le _⟩) hP hD hS hA [0, 1, 2, 3, 4, 5, 6, 7] [] rfl rfl (by decide) (by decide) (fun r21 w22 H locs h hP hD hS => ?_)
    have hP : va_P G.1 vwCl (wM G ad z13 u2 er u5 u6 u7 u8 u3 u9 hs) H := hP
    have hD : va_D A (wM G ad z13 u2 er u5 u6 u7 u8 u3 u9 hs) := hD
    try dsimp only at h
    exact W.iret hx hb hr (fun t ht hW => ⟨⟨_, (z13, u2, u5, u6, u7, u8, u3, u9), rfl, h, by rw [ht]; exact hP, hD⟩, hS.F ht⟩) hS.2.2 dX6_foldBest_84
  · have h := h.2 c_20
    refine lv_aload_n hx hb dX6_foldBest_22 rfl (lv_at hl 0 rfl) ?_
    refine va_get (D := G.1) (ci := 6) (v := .ref (ad 1)) (C := RX6) (T := TX6) (N := 10) hx hb hts hinX6 hown hK.1 hP 0 rfl rfl 0 (by decide) (hts (.fieldLink RX6 7 "PlaFolderModel" "now" "[I") (by decide +kernel)) (fun _ h9 => h9) rfl dX6_foldBest_23 ?_
    refine lv_bipush (v := (nI 43)) hx hb dX6_foldBest_26 (by decide) ?_
    refine lv_aload_n hx hb dX6_foldBest_28 rfl (lv_at hl 0 rfl) ?_
    refine va_get (D := G.1) (ci := 6) (v := .ref (ad 7)) (C := RX6) (T := TX6) (N := 10) hx hb hts hinX6 hown hK.1 hP 0 rfl rfl 7 (by decide) (hts (.fieldLink RX6 28 "PlaFolderModel" "list" "[I") (by decide +kernel)) (fun _ h9 => h9) rfl dX6_foldBest_29 ?_
    refine lv_iload_n hx hb dX6_foldBest_32 rfl (lv_at hl 1 rfl) ?_
    obtain ⟨hi23, h⟩ := h
    refine x_iald hx hb hK hP 7 rfl hi23 rfl dX6_foldBest_33 ?_
    refine lv_bipush (v := (nI 10)) hx hb dX6_foldBest_34 (by decide) ?_
    refine lv_idiv hx hb dX6_foldBest_36 (by decide) ?_
    refine lv_iadd hx hb dX6_foldBest_37 ?_
    refine lv_aload_n hx hb dX6_foldBest_38 rfl (lv_at hl 0 rfl) ?_
    refine va_get (D := G.1) (ci := 6) (v := .ref (ad 7)) (C := RX6) (T := TX6) (N := 10) hx hb hts hinX6 hown hK.1 hP 0 rfl rfl 7 (by decide) (hts (.fieldLink RX6 28 "PlaFolderModel" "list" "[I") (by decide +kernel)) (fun _ h9 => h9) rfl dX6_foldBest_39 ?_
    refine lv_iload_n hx hb dX6_foldBest_42 rfl (lv_at hl 1 rfl) ?_
    obtain ⟨hi24, h⟩ := h
    refine x_iald hx hb hK hP 7 rfl hi24 rfl dX6_foldBest_43 ?_
    refine lv_bipush (v := (nI 10)) hx hb dX6_foldBest_44 (by decide) ?_
    refine lv_irem hx hb dX6_foldBest_46 (by decide) ?_
    obtain ⟨hi25, h⟩ := h
    refine x_iast hx hb hK hP hD hS 1 rfl hi25 rfl dX6_foldBest_47 (fun H locs hP hD hS => ?_)
    have hP : va_P G.1 vwCl (wM G ad (upd z13 (((nI 43) + ((u8 x12.toNatClampNeg) / (nI 10))).toNatClampNeg) (jrem (u8 x12.toNatClampNeg) (nI 10))) u2 er u5 u6 u7 u8 u3 u9 hs) H := hP
    have hD : va_D A (wM G ad (upd z13 (((nI 43) + ((u8 x12.toNatClampNeg) / (nI 10))).toNatClampNeg) (jrem (u8 x12.toNatClampNeg) (nI 10))) u2 er u5 u6 u7 u8 u3 u9 hs) := hD
    refine lv_aload_n hx hb dX6_foldBest_48 rfl (lv_at hl 0 rfl) ?_
    refine va_get (D := G.1) (ci := 6) (v := .ref (ad 1)) (C := RX6) (T := TX6) (N := 10) hx hb hts hinX6 hown hK.1 hP 0 rfl rfl 0 (by decide) (hts (.fieldLink RX6 7 "PlaFolderModel" "now" "[I") (by decide +kernel)) (fun _ h9 => h9) rfl dX6_foldBest_49 ?_
    refine lv_bipush (v := (nI 33)) hx hb dX6_foldBest_52 (by decide) ?_
    refine lv_aload_n hx hb dX6_foldBest_54 rfl (lv_at hl 0 rfl) ?_
    refine va_get (D := G.1) (ci := 6) (v := .ref (ad 7)) (C := RX6) (T := TX6) (N := 10) hx hb hts hinX6 hown hK.1 hP 0 rfl rfl 7 (by decide) (hts (.fieldLink RX6 28 "PlaFolderModel" "list" "[I") (by decide +kernel)) (fun _ h9 => h9) rfl dX6_foldBest_55 ?_
    refine lv_iload_n hx hb dX6_foldBest_58 rfl (lv_at hl 1 rfl) ?_
    obtain ⟨hi26, h⟩ := h
    refine x_iald hx hb hK hP 7 rfl hi26 rfl dX6_foldBest_59 ?_
    refine lv_bipush (v := (nI 10)) hx hb dX6_foldBest_60 (by decide) ?_
    refine lv_irem hx hb dX6_foldBest_62 (by decide) ?_
    refine lv_iadd hx hb dX6_foldBest_63 ?_
    refine lv_aload_n hx hb dX6_foldBest_64 rfl (lv_at hl 0 rfl) ?_
    refine va_get (D := G.1) (ci := 6) (v := .ref (ad 7)) (C := RX6) (T := TX6) (N := 10) hx hb hts hinX6 hown hK.1 hP 0 rfl rfl 7 (by decide) (hts (.fieldLink RX6 28 "PlaFolderModel" "list" "[I") (by decide +kernel)) (fun _ h9 => h9) rfl dX6_foldBest_65 ?_
    refine lv_iload_n hx hb dX6_foldBest_68 rfl (lv_at hl 1 rfl) ?_
    obtain ⟨hi27, h⟩ := h
    refine x_iald hx hb hK hP 7 rfl hi27 rfl dX6_foldBest_69 ?_
    refine lv_bipush (v := (nI 10)) hx hb dX6_foldBest_70 (by decide) ?_
    refine lv_idiv hx hb dX6_foldBest_72 (by decide) ?_
    obtain ⟨hi28, h⟩ := h
    refine x_iast hx hb hK hP hD hS 1 rfl hi28 rfl dX6_foldBest_73 (fun H locs hP hD hS => ?_)
    have hP : va_P G.1 vwCl (wM G ad (upd (upd z13 (((nI 43) + ((u8 x12.toNatClampNeg) / (nI 10))).toNatClampNeg) (jrem (u8 x12.toNatClampNeg) (nI 10))) (((nI 33) + (jrem (u8 x12.toNatClampNeg) (nI 10))).toNatClampNeg) ((u8 x12.toNatClampNeg) / (nI 10))) u2 er u5 u6 u7 u8 u3 u9 hs) H := hP
    have hD : va_D A (wM G ad (upd (upd z13 (((nI 43) + ((u8 x12.toNatClampNeg) / (nI 10))).toNatClampNeg) (jrem (u8 x12.toNatClampNeg) (nI 10))) (((nI 33) + (jrem (u8 x12.toNatClampNeg) (nI 10))).toNatClampNeg) ((u8 x12.toNatClampNeg) / (nI 10))) u2 er u5 u6 u7 u8 u3 u9 hs) := hD
    refine lv_iinc (v := (x12 + (1 : Int32))) (lv' := [(1, .int (x12 + (1 : Int32))), (0, .ref (ad 0))]) hx hb dX6_foldBest_74 hl (k := 1) rfl rfl (by decide) rfl (fun ls hl => ?_)
    refine lv_goto (tgt := 14) hx hb dX6_foldBest_77 (by decide) ?_
    obtain ⟨n30, hn29, hI31⟩ := h
    exact ih18 n30 ((x12 + (1 : Int32)), (upd (upd z13 (((nI 43) + ((u8 x12.toNatClampNeg) / (nI 10))).toNatClampNeg) (jrem (u8 x12.toNatClampNeg) (nI 10))) (((nI 33) + (jrem (u8 x12.toNatClampNeg) (nI 10))).toNatClampNeg) ((u8 x12.toNatClampNeg) / (nI 10)))) hn29 hI31 _ _ _ ⟨hP, hD, hS, lv_sub hl [1, 0] rfl⟩
def wp_X6_errorCount (a1 : Int32) (er : Nat → Int32) (K : Int32 → (Nat → Int32) → Prop) : Prop :=
 wp_X6_in a1 (-6 : Int32) (-2 : Int32) (fun (r1 : Int32) => ((r1 = 0 → wp_X6_error (-2 : Int32) er (fun (r3 : Int32) (u4 : Nat → Int32) => K r3 u4)) ∧
 (¬ (r1 = 0) → (vp_in ((-2 : Int32) - a1) 5 ∧ K (er ((-2 : Int32) - a1).toNatClampNeg) er))))
abbrev rm_X6_errorCount : Room := { frames := 1, cells := 0, slots := 0, locals := 22 }
set_option maxHeartbeats 4000000 in
set_option maxRecDepth 100000 in
theorem c_X6_errorCount (l : Launch) (G : GG) (ad : Nat → Nat) (sz : Nat) (nw : Nat → Int32) (ps : Nat → Int32) (er : Nat → Int32) (us : Nat → Int32) (un : Nat → Int32) (od : Nat → Int32) (li : Nat → Int32) (st : Int32) (lm : Int32) (hs : Int64) (a1 : Int32) {K : Int32 → (Nat → Int32) → Prop} (h : wp_X6_errorCount a1 er K) : CI l yX6_errorCount wsX6_errorCount rm_X6_errorCount G [.ref (ad 0), .int a1] (wM G ad nw ps er us un od li st lm hs) sz (fun u : (Nat → Int32) => wM G ad nw ps u us un od li st lm hs) (fun r u => K r u) := by
  refine Met.ofW (cc := cX6_errorCount) (maxL := 2) (ret := (some .int)) (by decide) rfl ?_
  intro p e s m args below meth c s₁ B hml hv
  obtain ⟨rfl, hsz, hP, hK, hD0, hZ⟩ := hv
  have hx := B.exec
  have hb := B.bytes
  have hr := B.returns
  have hts := atoms_spec (ws := wsX6_errorCount) B.pre
  have hown : s.vm.findClass RX6 = some m.cls := findClass_of_methodNamed B.named
  have hlocks := B.notSynchronized
  subst hsz
  have hD := hD0.self (sz := s.heap.size)
  generalize hAe : va_A (wM G ad nw ps er us un od li st lm hs) s.heap.size = A at hD hZ ⊢
  have hA : ∀ q : Nat, s.heap.size ≤ q → A q := fun q h => by rw [← hAe]; exact Or.inr h
  have hS : va_S A s.heap s.heap [] := va_S.rf
  have hl := lv_entry ([.ref (ad 0), .int a1]) (n := 2) (Nat.le_of_ble_eq_true rfl)
  rw [lg_entry_eq]
  generalize (lg_sl ([.ref (ad 0), .int a1]) ++ List.replicate (2 - (lg_sl ([.ref (ad 0), .int a1])).length) Slot.unset).toArray = ls at hl ⊢
  have hl : lv_has ls 2 [(0, .ref (ad 0)), (1, .int a1)] := hl
  unfold wp_X6_errorCount at h
  have hinX6 : ∀ w ∈ wsX60, w ∈ wsX6_errorCount := by decide +kernel
  refine lv_iload_n hx hb dX6_errorCount_0 rfl (lv_at hl 1 rfl) ?_
  refine lv_bipush (v := (-6 : Int32)) hx hb dX6_errorCount_1 (by decide) ?_
  refine lv_bipush (v := (-2 : Int32)) hx hb dX6_errorCount_3 (by decide) ?_
  refine kc_i (wr := ([0, 1, 2, 3, 4, 5, 6, 7] : List Nat).filterMap (fun i => (wM G ad nw ps er us un od li st lm hs)[i]?)) (va_runS (As := [.int a1, .int (-6 : Int32), .int (-2 : Int32)]) (rest := []) ⟨hx, hb, hml, hown, hts⟩ (c_X6_in l G  _  a1 (-6 : Int32) (-2 : Int32) h) (va_cwS 3 hts gX6_errorCount_X6_in rfl rfl rfl (by decide +kernel) ⟨Nat.le_of_ble_eq_true rfl, Nat.le_of_ble_eq_true rfl⟩) (kpS hK hP hD hZ hS hA [] rfl (by decide)) rfl rfl hl.1 rfl (lv_room (Nat.le_of_ble_eq_true rfl)) dX6_errorCount_5 ⟨Nat.zero_le _, Nat.zero_le _⟩) hP hD hS hA [] [0, 1, 2, 3, 4, 5, 6, 7] rfl rfl (by decide) (by decide) (fun r1 w7 H locs h hP hD hS => ?_)
  have hP : va_P G.1 vwCl (wM G ad nw ps er us un od li st lm hs) H := hP
  have hD : va_D A (wM G ad nw ps er us un od li st lm hs) := hD
  try dsimp only at h
  refine lv_if_eq (tgt := 23) hx hb dX6_errorCount_8 (by decide) (fun c_2 => ?_) (fun c_2 => ?_)
  · have h := h.1 c_2
    refine lv_aload_n hx hb dX6_errorCount_23 rfl (lv_at hl 0 rfl) ?_
    refine lv_bipush (v := (-2 : Int32)) hx hb dX6_errorCount_24 (by decide) ?_
    refine kc_i (wr := ([] : va_W)) (va_runV (As := [.int (-2 : Int32)]) (rest := []) ⟨hx, hb, hml, hown, hts⟩ (c_X6_error l G ad _ nw ps er us un od li st lm hs (-2 : Int32) h) (cwV 1 hts gX6_errorCount_X6_error rfl rfl rfl (by decide +kernel) ⟨Nat.le_of_ble_eq_true rfl, Nat.le_of_ble_eq_true rfl⟩) (kpV hK hP hD hZ hS hA [0, 1, 2, 3, 4, 5, 6, 7] rfl (by decide) (q0 := 0) (ci := 6) rfl rfl) rfl rfl hl.1 rfl (lv_room (Nat.le_of_ble_eq_true rfl)) dX6_errorCount_26 ⟨Nat.zero_le _, Nat.zero_le _⟩) hP hD hS hA [0, 1, 2, 3, 4, 5, 6, 7] [] rfl rfl (by decide) (by decide) (fun r3 w5 H locs h hP hD hS => ?_)
    obtain ⟨u4, rfl⟩ : ∃ z, z = w5 := ⟨_, rfl⟩
    have hP : va_P G.1 vwCl (wM G ad nw ps u4 us un od li st lm hs) H := hP
    have hD : va_D A (wM G ad nw ps u4 us un od li st lm hs) := hD
    try dsimp only at h
    exact W.iret hx hb hr (fun t ht hW => ⟨⟨_, u4, rfl, h, by rw [ht]; exact hP, hD⟩, hS.F ht⟩) hS.2.2 dX6_errorCount_29
  · have h := h.2 c_2
    refine lv_aload_n hx hb dX6_errorCount_11 rfl (lv_at hl 0 rfl) ?_
    refine va_get (D := G.1) (ci := 6) (v := .ref (ad 3)) (C := RX6) (T := TX6) (N := 10) hx hb hts hinX6 hown hK.1 hP 0 rfl rfl 3 (by decide) (hts (.fieldLink RX6 16 "PlaFolderModel" "errors" "[I") (by decide +kernel)) (fun _ h9 => h9) rfl dX6_errorCount_12 ?_
    refine lv_bipush (v := (-2 : Int32)) hx hb dX6_errorCount_15 (by decide) ?_
    refine lv_iload_n hx hb dX6_errorCount_17 rfl (lv_at hl 1 rfl) ?_
    refine lv_isub hx hb dX6_errorCount_18 ?_
    obtain ⟨hi6, h⟩ := h
    refine x_iald hx hb hK hP 3 rfl hi6 rfl dX6_errorCount_19 ?_
    refine lv_goto (tgt := 29) hx hb dX6_errorCount_20 (by decide) ?_
    exact W.iret hx hb hr (fun t ht hW => ⟨⟨_, er, rfl, h, by rw [ht]; exact hP, hD⟩, hS.F ht⟩) hS.2.2 dX6_errorCount_29
def wp_X6_mix (a1 : Int64) (hs : Int64) (K : Int64 → Prop) : Prop :=
 K (((31 : Int64) * hs) + a1)
abbrev rm_X6_mix : Room := { frames := 0, cells := 0, slots := 0, locals := 0 }
set_option maxHeartbeats 4000000 in
set_option maxRecDepth 100000 in
theorem c_X6_mix (l : Launch) (G : GG) (ad : Nat → Nat) (sz : Nat) (nw : Nat → Int32) (ps : Nat → Int32) (er : Nat → Int32) (us : Nat → Int32) (un : Nat → Int32) (od : Nat → Int32) (li : Nat → Int32) (st : Int32) (lm : Int32) (hs : Int64) (a1 : Int64) {K : Int64 → Prop} (h : wp_X6_mix a1 hs K) : CV l yX6_mix wsX6_mix rm_X6_mix G [.ref (ad 0), .long a1] (wM G ad nw ps er us un od li st lm hs) sz (fun u : Int64 => wM G ad nw ps er us un od li st lm u) (fun u => K u) := by
  refine Met.ofW (cc := cX6_mix) (maxL := 3) (ret := none) (by decide) rfl ?_
  intro p e s m args below meth c s₁ B hml hv
  obtain ⟨rfl, hsz, hP, hK, hD0, hZ⟩ := hv
  have hx := B.exec
  have hb := B.bytes
  have hr := B.returns
  have hts := atoms_spec (ws := wsX6_mix) B.pre
  have hown : s.vm.findClass RX6 = some m.cls := findClass_of_methodNamed B.named
  have hlocks := B.notSynchronized
  subst hsz
  have hD := hD0.self (sz := s.heap.size)
  generalize hAe : va_A (wM G ad nw ps er us un od li st lm hs) s.heap.size = A at hD hZ ⊢
  have hA : ∀ q : Nat, s.heap.size ≤ q → A q := fun q h => by rw [← hAe]; exact Or.inr h
  have hS : va_S A s.heap s.heap [] := va_S.rf
  have hl := lv_entry ([.ref (ad 0), .long a1]) (n := 3) (Nat.le_of_ble_eq_true rfl)
  rw [lg_entry_eq]
  generalize (lg_sl ([.ref (ad 0), .long a1]) ++ List.replicate (3 - (lg_sl ([.ref (ad 0), .long a1])).length) Slot.unset).toArray = ls at hl ⊢
  have hl : lv_has ls 3 [(0, .ref (ad 0)), (1, .long a1)] := hl
  unfold wp_X6_mix at h
  have hinX6 : ∀ w ∈ wsX60, w ∈ wsX6_mix := by decide +kernel
  refine lv_aload_n hx hb dX6_mix_0 rfl (lv_at hl 0 rfl) ?_
  refine lv_ldc2 (v := (31 : Int64)) hx hb hown (hts (.constantLong RX6 140 (31)) (by decide +kernel)) dX6_mix_1 ?_
  refine lv_aload_n hx hb dX6_mix_4 rfl (lv_at hl 0 rfl) ?_
  refine va_get (D := G.1) (ci := 6) (v := .long hs) (C := RX6) (T := TX6) (N := 10) hx hb hts hinX6 hown hK.1 hP 0 rfl rfl 9 (by decide) (hts (.fieldLink RX6 142 "PlaFolderModel" "hash" "J") (by decide +kernel)) (fun _ h9 => h9) rfl dX6_mix_5 ?_
  refine lv_lmul hx hb dX6_mix_8 ?_
  refine lv_lload_n hx hb dX6_mix_9 rfl (lv_at hl 1 rfl) ?_
  refine lv_ladd hx hb dX6_mix_10 ?_
  refine va_put (D := G.1) (ci := 6) (v := .long (((31 : Int64) * hs) + a1)) (ty := .long) (C := RX6) (T := TX6) (N := 10) hx hb hts hinX6 tyX6 tyX6_ok nmX6 hown hK.1 hP hD hS 0 rfl rfl 9 (by decide) (hts (.fieldLink RX6 142 "PlaFolderModel" "hash" "J") (by decide +kernel)) (fun _ h9 => h9) rfl (by decide +kernel) rfl rfl (Nat.le_of_ble_eq_true rfl) dX6_mix_11 (fun H locs hP hD hS => ?_)
  have hP : va_P G.1 vwCl (wM G ad nw ps er us un od li st lm (((31 : Int64) * hs) + a1)) H := hP
  have hD : va_D A (wM G ad nw ps er us un od li st lm (((31 : Int64) * hs) + a1)) := hD
  exact W.vret hx hb hr (fun t ht hW => ⟨⟨(((31 : Int64) * hs) + a1), rfl, h, by rw [ht]; exact hP, hD⟩, hS.F ht⟩) hS.2.2 dX6_mix_14
def wp_X6_mixTerms (nw : Nat → Int32) (us : Nat → Int32) (od : Nat → Int32) (hs : Int64) (K : Int64 → Prop) : Prop :=
 (Lp2 (0 : Int32) hs (fun (x1 : Int32) (z2 : Int64) (J6 : Int32 → Int64 → Prop) => (((nw 2) ≤ x1 → (Lp2 (0 : Int32) z2 (fun (x10 : Int32) (z11 : Int64) (J15 : Int32 → Int64 → Prop) => (((nI 10) ≤ x10 → K z11) ∧
 (¬ ((nI 10) ≤ x10) → wp_X6_isColumn x10 nw (fun (r19 : Int32) => ((r19 = 0 → J15 (x10 + (1 : Int32)) z11) ∧
 (¬ (r19 = 0) → (vp_in x10 10 ∧ wp_X6_mix ((us x10.toNatClampNeg).toInt64) z11 (fun (u26 : Int64) => wp_X6_partnerOf x10 nw (fun (r27 : Int32) => wp_X6_mix r27.toInt64 u26 (fun (u29 : Int64) => wp_X6_spanOf x10 nw us od (fun (r30 : Int32) => wp_X6_mix r30.toInt64 u29 (fun (u32 : Int64) => J15 (x10 + (1 : Int32)) u32)))))))))))))) ∧
 (¬ ((nw 2) ≤ x1) → (vp_in ((nI 3) + x1) 53 ∧ wp_X6_mix ((nw ((nI 3) + x1).toNatClampNeg).toInt64) z2 (fun (u44 : Int64) => (vp_in ((nI 13) + x1) 53 ∧ wp_X6_mix ((nw ((nI 13) + x1).toNatClampNeg).toInt64) u44 (fun (u47 : Int64) => (vp_in ((nI 23) + x1) 53 ∧ wp_X6_mix ((nw ((nI 23) + x1).toNatClampNeg).toInt64) u47 (fun (u50 : Int64) => wp_X6_redundant x1 nw (fun (r51 : Int32) => (Jn1 (fun (y53 : Int64) => wp_X6_mix y53 u50 (fun (u57 : Int64) => wp_X6_rowAt x1 od (fun (r58 : Int32) => wp_X6_mix r58.toInt64 u57 (fun (u60 : Int64) => J6 (x1 + (1 : Int32)) u60))))
 (fun (J54 : Int64 → Prop) => ((r51 = 0 → J54 (0 : Int64)) ∧
 (¬ (r51 = 0) → J54 (1 : Int64))))))))))))))))
abbrev rm_X6_mixTerms : Room := { frames := 2, cells := 0, slots := 0, locals := 48 }
set_option maxHeartbeats 4000000 in
set_option maxRecDepth 100000 in
theorem c_X6_mixTerms (l : Launch) (G : GG) (ad : Nat → Nat) (sz : Nat) (nw : Nat → Int32) (ps : Nat → Int32) (er : Nat → Int32) (us : Nat → Int32) (un : Nat → Int32) (od : Nat → Int32) (li : Nat → Int32) (st : Int32) (lm : Int32) (hs : Int64) {K : Int64 → Prop} (h : wp_X6_mixTerms nw us od hs K) : CV l yX6_mixTerms wsX6_mixTerms rm_X6_mixTerms G [.ref (ad 0)] (wM G ad nw ps er us un od li st lm hs) sz (fun u : Int64 => wM G ad nw ps er us un od li st lm u) (fun u => K u) := by
  refine Met.ofW (cc := cX6_mixTerms) (maxL := 2) (ret := none) (by decide) rfl ?_
  intro p e s m args below meth c s₁ B hml hv
  obtain ⟨rfl, hsz, hP, hK, hD0, hZ⟩ := hv
  have hx := B.exec
  have hb := B.bytes
  have hr := B.returns
  have hts := atoms_spec (ws := wsX6_mixTerms) B.pre
  have hown : s.vm.findClass RX6 = some m.cls := findClass_of_methodNamed B.named
  have hlocks := B.notSynchronized
  subst hsz
  have hD := hD0.self (sz := s.heap.size)
  generalize hAe : va_A (wM G ad nw ps er us un od li st lm hs) s.heap.size = A at hD hZ ⊢
  have hA : ∀ q : Nat, s.heap.size ≤ q → A q := fun q h => by rw [← hAe]; exact Or.inr h
  have hS : va_S A s.heap s.heap [] := va_S.rf
  have hl := lv_entry ([.ref (ad 0)]) (n := 2) (Nat.le_of_ble_eq_true rfl)
  rw [lg_entry_eq]
  generalize (lg_sl ([.ref (ad 0)]) ++ List.replicate (2 - (lg_sl ([.ref (ad 0)])).length) Slot.unset).toArray = ls at hl ⊢
  have hl : lv_has ls 2 [(0, .ref (ad 0))] := hl
  unfold wp_X6_mixTerms at h
  have hinX6 : ∀ w ∈ wsX60, w ∈ wsX6_mixTerms := by decide +kernel
  refine lv_iconst (v := (0 : Int32)) hx hb dX6_mixTerms_0 (by decide) ?_
  refine lv_istore_n (lv' := [(1, .int (0 : Int32)), (0, .ref (ad 0))]) hx hb dX6_mixTerms_1 rfl hl (by decide) rfl (fun ls hl => ?_)
  obtain ⟨I3, n4, h0, hst5⟩ := h
  refine loopW (σ := Int32 × Int64) (P := fun q H locs ls => va_P G.1 vwCl (wM G ad nw ps er us un od li st lm q.2) H ∧ va_D A (wM G ad nw ps er us un od li st lm q.2) ∧ va_S A s.heap H locs ∧ lv_has ls 2 [(0, .ref (ad 0)), (1, .int q.1)]) (I := fun n q => I3 n q.1 q.2) n4 ((0 : Int32), hs) h0 _ _ _ ⟨hP, hD, hS, lv_sub hl [1, 0] rfl⟩ ?_
  rintro n8 ⟨x1, z2⟩ hI ih7 H locs ls ⟨hP, hD, hS, hl⟩
  have hP : va_P G.1 vwCl (wM G ad nw ps er us un od li st lm z2) H := hP
  have hD : va_D A (wM G ad nw ps er us un od li st lm z2) := hD
  have hl : lv_has ls 2 [(0, .ref (ad 0)), (1, .int x1)] := hl
  have h := hst5 n8 x1 z2 hI
  refine lv_iload_n hx hb dX6_mixTerms_2 rfl (lv_at hl 1 rfl) ?_
  refine lv_aload_n hx hb dX6_mixTerms_3 rfl (lv_at hl 0 rfl) ?_
  refine va_get (D := G.1) (ci := 6) (v := .ref (ad 1)) (C := RX6) (T := TX6) (N := 10) hx hb hts hinX6 hown hK.1 hP 0 rfl rfl 0 (by decide) (hts (.fieldLink RX6 7 "PlaFolderModel" "now" "[I") (by decide +kernel)) (fun _ h9 => h9) rfl dX6_mixTerms_4 ?_
  refine lv_iconst (v := (nI 2)) hx hb dX6_mixTerms_7 (by decide) ?_
  refine x_iald hx hb hK hP 1 rfl (vin_c (by decide)) (k := 2) (by decide) dX6_mixTerms_8 ?_
  refine lv_icmp_ge (tgt := 86) hx hb dX6_mixTerms_9 (by decide) (fun c_9 => ?_) (fun c_9 => ?_)
  · have h := h.1 c_9
    refine lv_iconst (v := (0 : Int32)) hx hb dX6_mixTerms_86 (by decide) ?_
    refine lv_istore_n (lv' := [(1, .int (0 : Int32)), (0, .ref (ad 0))]) hx hb dX6_mixTerms_87 rfl hl (by decide) rfl (fun ls hl => ?_)
    obtain ⟨I12, n13, h0, hst14⟩ := h
    refine loopW (σ := Int32 × Int64) (P := fun q H locs ls => va_P G.1 vwCl (wM G ad nw ps er us un od li st lm q.2) H ∧ va_D A (wM G ad nw ps er us un od li st lm q.2) ∧ va_S A s.heap H locs ∧ lv_has ls 2 [(0, .ref (ad 0)), (1, .int q.1)]) (I := fun n q => I12 n q.1 q.2) n13 ((0 : Int32), z2) h0 _ _ _ ⟨hP, hD, hS, lv_sub hl [1, 0] rfl⟩ ?_
    rintro n17 ⟨x10, z11⟩ hI ih16 H locs ls ⟨hP, hD, hS, hl⟩
    have hP : va_P G.1 vwCl (wM G ad nw ps er us un od li st lm z11) H := hP
    have hD : va_D A (wM G ad nw ps er us un od li st lm z11) := hD
    have hl : lv_has ls 2 [(0, .ref (ad 0)), (1, .int x10)] := hl
    have h := hst14 n17 x10 z11 hI
    refine lv_iload_n hx hb dX6_mixTerms_88 rfl (lv_at hl 1 rfl) ?_
    refine lv_bipush (v := (nI 10)) hx hb dX6_mixTerms_89 (by decide) ?_
    refine lv_icmp_ge (tgt := 139) hx hb dX6_mixTerms_91 (by decide) (fun c_18 => ?_) (fun c_18 => ?_)
    · have h := h.1 c_18
      exact W.vret hx hb hr (fun t ht hW => ⟨⟨z11, rfl, h, by rw [ht]; exact hP, hD⟩, hS.F ht⟩) hS.2.2 dX6_mixTerms_139
    · have h := h.2 c_18
      refine lv_aload_n hx hb dX6_mixTerms_94 rfl (lv_at hl 0 rfl) ?_
      refine lv_iload_n hx hb dX6_mixTerms_95 rfl (lv_at hl 1 rfl) ?_
      refine kc_i (wr := ([] : va_W)) (va_runV (As := [.int x10]) (rest := []) ⟨hx, hb, hml, hown, hts⟩ (c_X6_isColumn l G ad _ nw ps er us un od li st lm z11 x10 h) (cwV 1 hts gX6_mixTerms_X6_isColumn rfl rfl rfl (by decide +kernel) ⟨Nat.le_of_ble_eq_true rfl, Nat.le_of_ble_eq_true rfl⟩) (kpV hK hP hD hZ hS hA [0, 1, 2, 3, 4, 5, 6, 7] rfl (by decide) (q0 := 0) (ci := 6) rfl rfl) rfl rfl hl.1 rfl (lv_room (Nat.le_of_ble_eq_true rfl)) dX6_mixTerms_96 ⟨Nat.zero_le _, Nat.zero_le _⟩) hP hD hS hA [0, 1, 2, 3, 4, 5, 6, 7] [] rfl rfl (by decide) (by decide) (fun r19 w41 H locs h hP hD hS => ?_)
      have hP : va_P G.1 vwCl (wM G ad nw ps er us un od li st lm z11) H := hP
      have hD : va_D A (wM G ad nw ps er us un od li st lm z11) := hD
      try dsimp only at h
      refine lv_if_eq (tgt := 133) hx hb dX6_mixTerms_99 (by decide) (fun c_20 => ?_) (fun c_20 => ?_)
      · have h := h.1 c_20
        refine lv_iinc (v := (x10 + (1 : Int32))) (lv' := [(1, .int (x10 + (1 : Int32))), (0, .ref (ad 0))]) hx hb dX6_mixTerms_133 hl (k := 1) rfl rfl (by decide) rfl (fun ls hl => ?_)
        refine lv_goto (tgt := 88) hx hb dX6_mixTerms_136 (by decide) ?_
        obtain ⟨n22, hn21, hI23⟩ := h
        exact ih16 n22 ((x10 + (1 : Int32)), z11) hn21 hI23 _ _ _ ⟨hP, hD, hS, lv_sub hl [1, 0] rfl⟩
      · have h := h.2 c_20
        refine lv_aload_n hx hb dX6_mixTerms_102 rfl (lv_at hl 0 rfl) ?_
        refine lv_aload_n hx hb dX6_mixTerms_103 rfl (lv_at hl 0 rfl) ?_
        refine va_get (D := G.1) (ci := 6) (v := .ref (ad 4)) (C := RX6) (T := TX6) (N := 10) hx hb hts hinX6 hown hK.1 hP 0 rfl rfl 4 (by decide) (hts (.fieldLink RX6 19 "PlaFolderModel" "used" "[I") (by decide +kernel)) (fun _ h9 => h9) rfl dX6_mixTerms_104 ?_
        refine lv_iload_n hx hb dX6_mixTerms_107 rfl (lv_at hl 1 rfl) ?_
        obtain ⟨hi24, h⟩ := h
        refine x_iald hx hb hK hP 4 rfl hi24 rfl dX6_mixTerms_108 ?_
        refine lv_i2l (v := (us x10.toNatClampNeg).toInt64) hx hb dX6_mixTerms_109 rfl ?_
        refine kc_v (wr := ([] : va_W)) (va_runV (As := [.long ((us x10.toNatClampNeg).toInt64)]) (rest := []) ⟨hx, hb, hml, hown, hts⟩ (c_X6_mix l G ad _ nw ps er us un od li st lm z11 ((us x10.toNatClampNeg).toInt64) h) (cwV 1 hts gX6_mixTerms_X6_mix rfl rfl rfl (by decide +kernel) ⟨Nat.le_of_ble_eq_true rfl, Nat.le_of_ble_eq_true rfl⟩) (kpV hK hP hD hZ hS hA [0, 1, 2, 3, 4, 5, 6, 7] rfl (by decide) (q0 := 0) (ci := 6) rfl rfl) rfl rfl hl.1 rfl (lv_room (Nat.le_of_ble_eq_true rfl)) dX6_mixTerms_110 ⟨Nat.zero_le _, Nat.zero_le _⟩) hP hD hS hA [0, 1, 2, 3, 4, 5, 6, 7] [] rfl rfl (by decide) (by decide) (fun w40 H locs h hP hD hS => ?_)
        obtain ⟨u26, rfl⟩ : ∃ z, z = w40 := ⟨_, rfl⟩
        have hP : va_P G.1 vwCl (wM G ad nw ps er us un od li st lm u26) H := hP
        have hD : va_D A (wM G ad nw ps er us un od li st lm u26) := hD
        try dsimp only at h
        refine lv_aload_n hx hb dX6_mixTerms_113 rfl (lv_at hl 0 rfl) ?_
        refine lv_aload_n hx hb dX6_mixTerms_114 rfl (lv_at hl 0 rfl) ?_
        refine lv_iload_n hx hb dX6_mixTerms_115 rfl (lv_at hl 1 rfl) ?_
        refine kc_i (wr := ([] : va_W)) (va_runV (As := [.int x10]) (rest := [.ref (ad 0)]) ⟨hx, hb, hml, hown, hts⟩ (c_X6_partnerOf l G ad _ nw ps er us un od li st lm u26 x10 h) (cwV 1 hts gX6_mixTerms_X6_partnerOf rfl rfl rfl (by decide +kernel) ⟨Nat.le_of_ble_eq_true rfl, Nat.le_of_ble_eq_true rfl⟩) (kpV hK hP hD hZ hS hA [0, 1, 2, 3, 4, 5, 6, 7] rfl (by decide) (q0 := 0) (ci := 6) rfl rfl) rfl rfl hl.1 rfl (lv_room (Nat.le_of_ble_eq_true rfl)) dX6_mixTerms_116 ⟨Nat.zero_le _, Nat.zero_le _⟩) hP hD hS hA [0, 1, 2, 3, 4, 5, 6, 7] [] rfl rfl (by decide) (by decide) (fun r27 w39 H locs h hP hD hS => ?_)
        have hP : va_P G.1 vwCl (wM G ad nw ps er us un od li st lm u26) H := hP
        have hD : va_D A (wM G ad nw ps er us un od li st lm u26) := hD
        try dsimp only at h
        refine lv_i2l (v := r27.toInt64) hx hb dX6_mixTerms_119 rfl ?_
        refine kc_v (wr := ([] : va_W)) (va_runV (As := [.long r27.toInt64]) (rest := []) ⟨hx, hb, hml, hown, hts⟩ (c_X6_mix l G ad _ nw ps er us un od li st lm u26 r27.toInt64 h) (cwV 1 hts gX6_mixTerms_X6_mix rfl rfl rfl (by decide +kernel) ⟨Nat.le_of_ble_eq_true rfl, Nat.le_of_ble_eq_true rfl⟩) (kpV hK hP hD hZ hS hA [0, 1, 2, 3, 4, 5, 6, 7] rfl (by decide) (q0 := 0) (ci := 6) rfl rfl) rfl rfl hl.1 rfl (lv_room (Nat.le_of_ble_eq_true rfl)) dX6_mixTerms_120 ⟨Nat.zero_le _, Nat.zero_le _⟩) hP hD hS hA [0, 1, 2, 3, 4, 5, 6, 7] [] rfl rfl (by decide) (by decide) (fun w38 H locs h hP hD hS => ?_)
        obtain ⟨u29, rfl⟩ : ∃ z, z = w38 := ⟨_, rfl⟩
        have hP : va_P G.1 vwCl (wM G ad nw ps er us un od li st lm u29) H := hP
        have hD : va_D A (wM G ad nw ps er us un od li st lm u29) := hD
        try dsimp only at h
        refine lv_aload_n hx hb dX6_mixTerms_123 rfl (lv_at hl 0 rfl) ?_
        refine lv_aload_n hx hb dX6_mixTerms_124 rfl (lv_at hl 0 rfl) ?_
        refine lv_iload_n hx hb dX6_mixTerms_125 rfl (lv_at hl 1 rfl) ?_
        refine kc_i (wr := ([] : va_W)) (va_runV (As := [.int x10]) (rest := [.ref (ad 0)]) ⟨hx, hb, hml, hown, hts⟩ (c_X6_spanOf l G ad _ nw ps er us un od li st lm u29 x10 h) (cwV 1 hts gX6_mixTerms_X6_spanOf rfl rfl rfl (by decide +kernel) ⟨Nat.le_of_ble_eq_true rfl, Nat.le_of_ble_eq_true rfl⟩) (kpV hK hP hD hZ hS hA [0, 1, 2, 3, 4, 5, 6, 7] rfl (by decide) (q0 := 0) (ci := 6) rfl rfl) rfl rfl hl.1 rfl (lv_room (Nat.le_of_ble_eq_true rfl)) dX6_mixTerms_126 ⟨Nat.zero_le _, Nat.zero_le _⟩) hP hD hS hA [0, 1, 2, 3, 4, 5, 6, 7] [] rfl rfl (by decide) (by decide) (fun r30 w37 H locs h hP hD hS => ?_)
        have hP : va_P G.1 vwCl (wM G ad nw ps er us un od li st lm u29) H := hP
        have hD : va_D A (wM G ad nw ps er us un od li st lm u29) := hD
        try dsimp only at h
        refine lv_i2l (v := r30.toInt64) hx hb dX6_mixTerms_129 rfl ?_
        refine kc_v (wr := ([] : va_W)) (va_runV (As := [.long r30.toInt64]) (rest := []) ⟨hx, hb, hml, hown, hts⟩ (c_X6_mix l G ad _ nw ps er us un od li st lm u29 r30.toInt64 h) (cwV 1 hts gX6_mixTerms_X6_mix rfl rfl rfl (by decide +kernel) ⟨Nat.le_of_ble_eq_true rfl, Nat.le_of_ble_eq_true rfl⟩) (kpV hK hP hD hZ hS hA [0, 1, 2, 3, 4, 5, 6, 7] rfl (by decide) (q0 := 0) (ci := 6) rfl rfl) rfl rfl hl.1 rfl (lv_room (Nat.le_of_ble_eq_true rfl)) dX6_mixTerms_130 ⟨Nat.zero_le _, Nat.zero_le _⟩) hP hD hS hA [0, 1, 2, 3, 4, 5, 6, 7] [] rfl rfl (by decide) (by decide) (fun w36 H locs h hP hD hS => ?_)
        obtain ⟨u32, rfl⟩ : ∃ z, z = w36 := ⟨_, rfl⟩
        have hP : va_P G.1 vwCl (wM G ad nw ps er us un od li st lm u32) H := hP
        have hD : va_D A (wM G ad nw ps er us un od li st lm u32) := hD
        try dsimp only at h
        refine lv_iinc (v := (x10 + (1 : Int32))) (lv' := [(1, .int (x10 + (1 : Int32))), (0, .ref (ad 0))]) hx hb dX6_mixTerms_133 hl (k := 1) rfl rfl (by decide) rfl (fun ls hl => ?_)
        refine lv_goto (tgt := 88) hx hb dX6_mixTerms_136 (by decide) ?_
        obtain ⟨n34, hn33, hI35⟩ := h
        exact ih16 n34 ((x10 + (1 : Int32)), u32) hn33 hI35 _ _ _ ⟨hP, hD, hS, lv_sub hl [1, 0] rfl⟩
  · have h := h.2 c_9
    refine lv_aload_n hx hb dX6_mixTerms_12 rfl (lv_at hl 0 rfl) ?_
    refine lv_aload_n hx hb dX6_mixTerms_13 rfl (lv_at hl 0 rfl) ?_
    refine va_get (D := G.1) (ci := 6) (v := .ref (ad 1)) (C := RX6) (T := TX6) (N := 10) hx hb hts hinX6 hown hK.1 hP 0 rfl rfl 0 (by decide) (hts (.fieldLink RX6 7 "PlaFolderModel" "now" "[I") (by decide +kernel)) (fun _ h9 => h9) rfl dX6_mixTerms_14 ?_
    refine lv_iconst (v := (nI 3)) hx hb dX6_mixTerms_17 (by decide) ?_
    refine lv_iload_n hx hb dX6_mixTerms_18 rfl (lv_at hl 1 rfl) ?_
    refine lv_iadd hx hb dX6_mixTerms_19 ?_
    obtain ⟨hi42, h⟩ := h
    refine x_iald hx hb hK hP 1 rfl hi42 rfl dX6_mixTerms_20 ?_
    refine lv_i2l (v := (nw ((nI 3) + x1).toNatClampNeg).toInt64) hx hb dX6_mixTerms_21 rfl ?_
    refine kc_v (wr := ([] : va_W)) (va_runV (As := [.long ((nw ((nI 3) + x1).toNatClampNeg).toInt64)]) (rest := []) ⟨hx, hb, hml, hown, hts⟩ (c_X6_mix l G ad _ nw ps er us un od li st lm z2 ((nw ((nI 3) + x1).toNatClampNeg).toInt64) h) (cwV 1 hts gX6_mixTerms_X6_mix rfl rfl rfl (by decide +kernel) ⟨Nat.le_of_ble_eq_true rfl, Nat.le_of_ble_eq_true rfl⟩) (kpV hK hP hD hZ hS hA [0, 1, 2, 3, 4, 5, 6, 7] rfl (by decide) (q0 := 0) (ci := 6) rfl rfl) rfl rfl hl.1 rfl (lv_room (Nat.le_of_ble_eq_true rfl)) dX6_mixTerms_22 ⟨Nat.zero_le _, Nat.zero_le _⟩) hP hD hS hA [0, 1, 2, 3, 4, 5, 6, 7] [] rfl rfl (by decide) (by decide) (fun w71 H locs h hP hD hS => ?_)
    obtain ⟨u44, rfl⟩ : ∃ z, z = w71 := ⟨_, rfl⟩
    have hP : va_P G.1 vwCl (wM G ad nw ps er us un od li st lm u44) H := hP
    have hD : va_D A (wM G ad nw ps er us un od li st lm u44) := hD
    try dsimp only at h
    refine lv_aload_n hx hb dX6_mixTerms_25 rfl (lv_at hl 0 rfl) ?_
    refine lv_aload_n hx hb dX6_mixTerms_26 rfl (lv_at hl 0 rfl) ?_
    refine va_get (D := G.1) (ci := 6) (v := .ref (ad 1)) (C := RX6) (T := TX6) (N := 10) hx hb hts hinX6 hown hK.1 hP 0 rfl rfl 0 (by decide) (hts (.fieldLink RX6 7 "PlaFolderModel" "now" "[I") (by decide +kernel)) (fun _ h9 => h9) rfl dX6_mixTerms_27 ?_
    refine lv_bipush (v := (nI 13)) hx hb dX6_mixTerms_30 (by decide) ?_
    refine lv_iload_n hx hb dX6_mixTerms_32 rfl (lv_at hl 1 rfl) ?_
    refine lv_iadd hx hb dX6_mixTerms_33 ?_
    obtain ⟨hi45, h⟩ := h
    refine x_iald hx hb hK hP 1 rfl hi45 rfl dX6_mixTerms_34 ?_
    refine lv_i2l (v := (nw ((nI 13) + x1).toNatClampNeg).toInt64) hx hb dX6_mixTerms_35 rfl ?_
    refine kc_v (wr := ([] : va_W)) (va_runV (As := [.long ((nw ((nI 13) + x1).toNatClampNeg).toInt64)]) (rest := []) ⟨hx, hb, hml, hown, hts⟩ (c_X6_mix l G ad _ nw ps er us un od li st lm u44 ((nw ((nI 13) + x1).toNatClampNeg).toInt64) h) (cwV 1 hts gX6_mixTerms_X6_mix rfl rfl rfl (by decide +kernel) ⟨Nat.le_of_ble_eq_true rfl, Nat.le_of_ble_eq_true rfl⟩) (kpV hK hP hD hZ hS hA [0, 1, 2, 3, 4, 5, 6, 7] rfl (by decide) (q0 := 0) (ci := 6) rfl rfl) rfl rfl hl.1 rfl (lv_room (Nat.le_of_ble_eq_true rfl)) dX6_mixTerms_36 ⟨Nat.zero_le _, Nat.zero_le _⟩) hP hD hS hA [0, 1, 2, 3, 4, 5, 6, 7] [] rfl rfl (by decide) (by decide) (fun w70 H locs h hP hD hS => ?_)
    obtain ⟨u47, rfl⟩ : ∃ z, z = w70 := ⟨_, rfl⟩
    have hP : va_P G.1 vwCl (wM G ad nw ps er us un od li st lm u47) H := hP
    have hD : va_D A (wM G ad nw ps er us un od li st lm u47) := hD
    try dsimp only at h
    refine lv_aload_n hx hb dX6_mixTerms_39 rfl (lv_at hl 0 rfl) ?_
    refine lv_aload_n hx hb dX6_mixTerms_40 rfl (lv_at hl 0 rfl) ?_
    refine va_get (D := G.1) (ci := 6) (v := .ref (ad 1)) (C := RX6) (T := TX6) (N := 10) hx hb hts hinX6 hown hK.1 hP 0 rfl rfl 0 (by decide) (hts (.fieldLink RX6 7 "PlaFolderModel" "now" "[I") (by decide +kernel)) (fun _ h9 => h9) rfl dX6_mixTerms_41 ?_
    refine lv_bipush (v := (nI 23)) hx hb dX6_mixTerms_44 (by decide) ?_
    refine lv_iload_n hx hb dX6_mixTerms_46 rfl (lv_at hl 1 rfl) ?_
    refine lv_iadd hx hb dX6_mixTerms_47 ?_
    obtain ⟨hi48, h⟩ := h
    refine x_iald hx hb hK hP 1 rfl hi48 rfl dX6_mixTerms_48 ?_
    refine lv_i2l (v := (nw ((nI 23) + x1).toNatClampNeg).toInt64) hx hb dX6_mixTerms_49 rfl ?_
    refine kc_v (wr := ([] : va_W)) (va_runV (As := [.long ((nw ((nI 23) + x1).toNatClampNeg).toInt64)]) (rest := []) ⟨hx, hb, hml, hown, hts⟩ (c_X6_mix l G ad _ nw ps er us un od li st lm u47 ((nw ((nI 23) + x1).toNatClampNeg).toInt64) h) (cwV 1 hts gX6_mixTerms_X6_mix rfl rfl rfl (by decide +kernel) ⟨Nat.le_of_ble_eq_true rfl, Nat.le_of_ble_eq_true rfl⟩) (kpV hK hP hD hZ hS hA [0, 1, 2, 3, 4, 5, 6, 7] rfl (by decide) (q0 := 0) (ci := 6) rfl rfl) rfl rfl hl.1 rfl (lv_room (Nat.le_of_ble_eq_true rfl)) dX6_mixTerms_50 ⟨Nat.zero_le _, Nat.zero_le _⟩) hP hD hS hA [0, 1, 2, 3, 4, 5, 6, 7] [] rfl rfl (by decide) (by decide) (fun w69 H locs h hP hD hS => ?_)
    obtain ⟨u50, rfl⟩ : ∃ z, z = w69 := ⟨_, rfl⟩
    have hP : va_P G.1 vwCl (wM G ad nw ps er us un od li st lm u50) H := hP
    have hD : va_D A (wM G ad nw ps er us un od li st lm u50) := hD
    try dsimp only at h
    refine lv_aload_n hx hb dX6_mixTerms_53 rfl (lv_at hl 0 rfl) ?_
    refine lv_aload_n hx hb dX6_mixTerms_54 rfl (lv_at hl 0 rfl) ?_
    refine lv_iload_n hx hb dX6_mixTerms_55 rfl (lv_at hl 1 rfl) ?_
    refine kc_i (wr := ([] : va_W)) (va_runV (As := [.int x1]) (rest := [.ref (ad 0)]) ⟨hx, hb, hml, hown, hts⟩ (c_X6_redundant l G ad _ nw ps er us un od li st lm u50 x1 h) (cwV 1 hts gX6_mixTerms_X6_redundant rfl rfl rfl (by decide +kernel) ⟨Nat.le_of_ble_eq_true rfl, Nat.le_of_ble_eq_true rfl⟩) (kpV hK hP hD hZ hS hA [0, 1, 2, 3, 4, 5, 6, 7] rfl (by decide) (q0 := 0) (ci := 6) rfl rfl) rfl rfl hl.1 rfl (lv_room (Nat.le_of_ble_eq_true rfl)) dX6_mixTerms_56 ⟨Nat.zero_le _, Nat.zero_le _⟩) hP hD hS hA [0, 1, 2, 3, 4, 5, 6, 7] [] rfl rfl (by decide) (by decide) (fun r51 w68 H locs h hP hD hS => ?_)
    have hP : va_P G.1 vwCl (wM G ad nw ps er us un od li st lm u50) H := hP
    have hD : va_D A (wM G ad nw ps er us un od li st lm u50) := hD
    try dsimp only at h
    obtain ⟨J54, hJ67, h⟩ := h
    refine joinW (σ := Int64) (J := fun q => J54 q) (pc := 67) (st := fun q => .long q :: .ref (ad 0) :: []) (P := fun q H locs ls => va_P G.1 vwCl (wM G ad nw ps er us un od li st lm u50) H ∧ va_D A (wM G ad nw ps er us un od li st lm u50) ∧ va_S A s.heap H locs ∧ lv_has ls 2 [(0, .ref (ad 0)), (1, .int x1)]) ?_ (fun join55 => ?_)
    · rintro y53 h H locs ls ⟨hP, hD, hS, hl⟩
      have hP : va_P G.1 vwCl (wM G ad nw ps er us un od li st lm u50) H := hP
      have hD : va_D A (wM G ad nw ps er us un od li st lm u50) := hD
      have hl : lv_has ls 2 [(0, .ref (ad 0)), (1, .int x1)] := hl
      have h := hJ67 y53 h
      refine W.eq (g2 := F0 m 67 ls (.long y53 :: .ref (ad 0) :: [])) rfl ?_
      refine kc_v (wr := ([] : va_W)) (va_runV (As := [.long y53]) (rest := []) ⟨hx, hb, hml, hown, hts⟩ (c_X6_mix l G ad _ nw ps er us un od li st lm u50 y53 h) (cwV 1 hts gX6_mixTerms_X6_mix rfl rfl rfl (by decide +kernel) ⟨Nat.le_of_ble_eq_true rfl, Nat.le_of_ble_eq_true rfl⟩) (kpV hK hP hD hZ hS hA [0, 1, 2, 3, 4, 5, 6, 7] rfl (by decide) (q0 := 0) (ci := 6) rfl rfl) rfl rfl hl.1 rfl (lv_room (Nat.le_of_ble_eq_true rfl)) dX6_mixTerms_67 ⟨Nat.zero_le _, Nat.zero_le _⟩) hP hD hS hA [0, 1, 2, 3, 4, 5, 6, 7] [] rfl rfl (by decide) (by decide) (fun w66 H locs h hP hD hS => ?_)
      obtain ⟨u57, rfl⟩ : ∃ z, z = w66 := ⟨_, rfl⟩
      have hP : va_P G.1 vwCl (wM G ad nw ps er us un od li st lm u57) H := hP
      have hD : va_D A (wM G ad nw ps er us un od li st lm u57) := hD
      try dsimp only at h
      refine lv_aload_n hx hb dX6_mixTerms_70 rfl (lv_at hl 0 rfl) ?_
      refine lv_aload_n hx hb dX6_mixTerms_71 rfl (lv_at hl 0 rfl) ?_
      refine lv_iload_n hx hb dX6_mixTerms_72 rfl (lv_at hl 1 rfl) ?_
      refine kc_i (wr := ([] : va_W)) (va_runV (As := [.int x1]) (rest := [.ref (ad 0)]) ⟨hx, hb, hml, hown, hts⟩ (c_X6_rowAt l G ad _ nw ps er us un od li st lm u57 x1 h) (cwV 1 hts gX6_mixTerms_X6_rowAt rfl rfl rfl (by decide +kernel) ⟨Nat.le_of_ble_eq_true rfl, Nat.le_of_ble_eq_true rfl⟩) (kpV hK hP hD hZ hS hA [0, 1, 2, 3, 4, 5, 6, 7] rfl (by decide) (q0 := 0) (ci := 6) rfl rfl) rfl rfl hl.1 rfl (lv_room (Nat.le_of_ble_eq_true rfl)) dX6_mixTerms_73 ⟨Nat.zero_le _, Nat.zero_le _⟩) hP hD hS hA [0, 1, 2, 3, 4, 5, 6, 7] [] rfl rfl (by decide) (by decide) (fun r58 w65 H locs h hP hD hS => ?_)
      have hP : va_P G.1 vwCl (wM G ad nw ps er us un od li st lm u57) H := hP
      have hD : va_D A (wM G ad nw ps er us un od li st lm u57) := hD
      try dsimp only at h
      refine lv_i2l (v := r58.toInt64) hx hb dX6_mixTerms_76 rfl ?_
      refine kc_v (wr := ([] : va_W)) (va_runV (As := [.long r58.toInt64]) (rest := []) ⟨hx, hb, hml, hown, hts⟩ (c_X6_mix l G ad _ nw ps er us un od li st lm u57 r58.toInt64 h) (cwV 1 hts gX6_mixTerms_X6_mix rfl rfl rfl (by decide +kernel) ⟨Nat.le_of_ble_eq_true rfl, Nat.le_of_ble_eq_true rfl⟩) (kpV hK hP hD hZ hS hA [0, 1, 2, 3, 4, 5, 6, 7] rfl (by decide) (q0 := 0) (ci := 6) rfl rfl) rfl rfl hl.1 rfl (lv_room (Nat.le_of_ble_eq_true rfl)) dX6_mixTerms_77 ⟨Nat.zero_le _, Nat.zero_le _⟩) hP hD hS hA [0, 1, 2, 3, 4, 5, 6, 7] [] rfl rfl (by decide) (by decide) (fun w64 H locs h hP hD hS => ?_)
      obtain ⟨u60, rfl⟩ : ∃ z, z = w64 := ⟨_, rfl⟩
      have hP : va_P G.1 vwCl (wM G ad nw ps er us un od li st lm u60) H := hP
      have hD : va_D A (wM G ad nw ps er us un od li st lm u60) := hD
      try dsimp only at h
      refine lv_iinc (v := (x1 + (1 : Int32))) (lv' := [(1, .int (x1 + (1 : Int32))), (0, .ref (ad 0))]) hx hb dX6_mixTerms_80 hl (k := 1) rfl rfl (by decide) rfl (fun ls hl => ?_)
      refine lv_goto (tgt := 2) hx hb dX6_mixTerms_83 (by decide) ?_
      obtain ⟨n62, hn61, hI63⟩ := h
      exact ih7 n62 ((x1 + (1 : Int32)), u60) hn61 hI63 _ _ _ ⟨hP, hD, hS, lv_sub hl [1, 0] rfl⟩
    · refine lv_if_eq (tgt := 66) hx hb dX6_mixTerms_59 (by decide) (fun c_52 => ?_) (fun c_52 => ?_)
      · have h := h.1 c_52
        refine lv_lconst (v := (0 : Int64)) hx hb dX6_mixTerms_66 (by decide) ?_
        exact join55 (0 : Int64) h _ _ _ ⟨hP, hD, hS, lv_sub hl [0, 1] rfl⟩
      · have h := h.2 c_52
        refine lv_lconst (v := (1 : Int64)) hx hb dX6_mixTerms_62 (by decide) ?_
        refine lv_goto (tgt := 67) hx hb dX6_mixTerms_63 (by decide) ?_
        exact join55 (1 : Int64) h _ _ _ ⟨hP, hD, hS, lv_sub hl [0, 1] rfl⟩
def wp_X6_digest (nw : Nat → Int32) (er : Nat → Int32) (us : Nat → Int32) (un : Nat → Int32) (od : Nat → Int32) (li : Nat → Int32) (st : Int32) (lm : Int32) (hs : Int64) (K : Int64 → (Nat → Int32) → (Nat → Int32) → (Nat → Int32) → (Nat → Int32) → Int32 → Int64 → Prop) : Prop :=
 (Lp2 (0 : Int32) (2713 : Int64) (fun (x1 : Int32) (z2 : Int64) (J6 : Int32 → Int64 → Prop) => (((nI 5) ≤ x1 → (Lp2 (0 : Int32) z2 (fun (x10 : Int32) (z11 : Int64) (J15 : Int32 → Int64 → Prop) => (((nI 2) < x10 → wp_X6_lay nw us un od (fun (u20 : Nat → Int32) (u21 : Nat → Int32) (u22 : Nat → Int32) => wp_X6_mixTerms nw u20 u22 z11 (fun (u24 : Int64) => wp_X6_areaNow nw (fun (r25 : Int32) => wp_X6_mix r25.toInt64 u24 (fun (u27 : Int64) => wp_X6_findBest nw u20 u21 u22 li lm (fun (u29 : Nat → Int32) (u30 : Nat → Int32) (u31 : Nat → Int32) (u32 : Nat → Int32) (u33 : Int32) => wp_X6_mix u33.toInt64 u27 (fun (u35 : Int64) => (Lp2 (0 : Int32) u35 (fun (x36 : Int32) (z37 : Int64) (J41 : Int32 → Int64 → Prop) => ((u33 ≤ x36 → wp_X6_mix st.toInt64 z37 (fun (u46 : Int64) => K u46 u29 u30 u31 u32 u33 u46)) ∧
 (¬ (u33 ≤ x36) → (vp_in x36 6 ∧ wp_X6_mix (((u32 x36.toNatClampNeg) / (nI 10)).toInt64) z37 (fun (u50 : Int64) => (vp_in x36 6 ∧ wp_X6_mix ((jrem (u32 x36.toNatClampNeg) (nI 10)).toInt64) u50 (fun (u53 : Int64) => J41 (x36 + (1 : Int32)) u53))))))))))))))) ∧
 (¬ ((nI 2) < x10) → (vp_in x10 53 ∧ wp_X6_mix ((nw x10.toNatClampNeg).toInt64) z11 (fun (u67 : Int64) => J15 (x10 + (1 : Int32)) u67))))))) ∧
 (¬ ((nI 5) ≤ x1) → (vp_in x1 5 ∧ wp_X6_mix ((er x1.toNatClampNeg).toInt64) z2 (fun (u74 : Int64) => J6 (x1 + (1 : Int32)) u74))))))
abbrev rm_X6_digest : Room := { frames := 5, cells := 0, slots := 0, locals := 115 }
set_option maxHeartbeats 4000000 in
set_option maxRecDepth 100000 in
theorem c_X6_digest (l : Launch) (G : GG) (ad : Nat → Nat) (sz : Nat) (nw : Nat → Int32) (ps : Nat → Int32) (er : Nat → Int32) (us : Nat → Int32) (un : Nat → Int32) (od : Nat → Int32) (li : Nat → Int32) (st : Int32) (lm : Int32) (hs : Int64) {K : Int64 → (Nat → Int32) → (Nat → Int32) → (Nat → Int32) → (Nat → Int32) → Int32 → Int64 → Prop} (h : wp_X6_digest nw er us un od li st lm hs K) : CL l yX6_digest wsX6_digest rm_X6_digest G [.ref (ad 0)] (wM G ad nw ps er us un od li st lm hs) sz (fun u : (Nat → Int32) × (Nat → Int32) × (Nat → Int32) × (Nat → Int32) × Int32 × Int64 => wM G ad nw ps er u.1 u.2.1 u.2.2.1 u.2.2.2.1 st u.2.2.2.2.1 u.2.2.2.2.2) (fun r u => K r u.1 u.2.1 u.2.2.1 u.2.2.2.1 u.2.2.2.2.1 u.2.2.2.2.2) := by
  refine Met.ofW (cc := cX6_digest) (maxL := 2) (ret := (some .long)) (by decide) rfl ?_
  intro p e s m args below meth c s₁ B hml hv
  obtain ⟨rfl, hsz, hP, hK, hD0, hZ⟩ := hv
  have hx := B.exec
  have hb := B.bytes
  have hr := B.returns
  have hts := atoms_spec (ws := wsX6_digest) B.pre
  have hown : s.vm.findClass RX6 = some m.cls := findClass_of_methodNamed B.named
  have hlocks := B.notSynchronized
  subst hsz
  have hD := hD0.self (sz := s.heap.size)
  generalize hAe : va_A (wM G ad nw ps er us un od li st lm hs) s.heap.size = A at hD hZ ⊢
  have hA : ∀ q : Nat, s.heap.size ≤ q → A q := fun q h => by rw [← hAe]; exact Or.inr h
  have hS : va_S A s.heap s.heap [] := va_S.rf
  have hl := lv_entry ([.ref (ad 0)]) (n := 2) (Nat.le_of_ble_eq_true rfl)
  rw [lg_entry_eq]
  generalize (lg_sl ([.ref (ad 0)]) ++ List.replicate (2 - (lg_sl ([.ref (ad 0)])).length) Slot.unset).toArray = ls at hl ⊢
  have hl : lv_has ls 2 [(0, .ref (ad 0))] := hl
  unfold wp_X6_digest at h
  have hinX6 : ∀ w ∈ wsX60, w ∈ wsX6_digest := by decide +kernel
  refine lv_aload_n hx hb dX6_digest_0 rfl (lv_at hl 0 rfl) ?_
  refine lv_ldc2 (v := (2713 : Int64)) hx hb hown (hts (.constantLong RX6 150 (2713)) (by decide +kernel)) dX6_digest_1 ?_
  refine va_put (D := G.1) (ci := 6) (v := .long (2713 : Int64)) (ty := .long) (C := RX6) (T := TX6) (N := 10) hx hb hts hinX6 tyX6 tyX6_ok nmX6 hown hK.1 hP hD hS 0 rfl rfl 9 (by decide) (hts (.fieldLink RX6 142 "PlaFolderModel" "hash" "J") (by decide +kernel)) (fun _ h9 => h9) rfl (by decide +kernel) rfl rfl (Nat.le_of_ble_eq_true rfl) dX6_digest_4 (fun H locs hP hD hS => ?_)
  have hP : va_P G.1 vwCl (wM G ad nw ps er us un od li st lm (2713 : Int64)) H := hP
  have hD : va_D A (wM G ad nw ps er us un od li st lm (2713 : Int64)) := hD
  refine lv_iconst (v := (0 : Int32)) hx hb dX6_digest_7 (by decide) ?_
  refine lv_istore_n (lv' := [(1, .int (0 : Int32)), (0, .ref (ad 0))]) hx hb dX6_digest_8 rfl hl (by decide) rfl (fun ls hl => ?_)
  obtain ⟨I3, n4, h0, hst5⟩ := h
  refine loopW (σ := Int32 × Int64) (P := fun q H locs ls => va_P G.1 vwCl (wM G ad nw ps er us un od li st lm q.2) H ∧ va_D A (wM G ad nw ps er us un od li st lm q.2) ∧ va_S A s.heap H locs ∧ lv_has ls 2 [(0, .ref (ad 0)), (1, .int q.1)]) (I := fun n q => I3 n q.1 q.2) n4 ((0 : Int32), (2713 : Int64)) h0 _ _ _ ⟨hP, hD, hS, lv_sub hl [1, 0] rfl⟩ ?_
  rintro n8 ⟨x1, z2⟩ hI ih7 H locs ls ⟨hP, hD, hS, hl⟩
  have hP : va_P G.1 vwCl (wM G ad nw ps er us un od li st lm z2) H := hP
  have hD : va_D A (wM G ad nw ps er us un od li st lm z2) := hD
  have hl : lv_has ls 2 [(0, .ref (ad 0)), (1, .int x1)] := hl
  have h := hst5 n8 x1 z2 hI
  refine lv_iload_n hx hb dX6_digest_9 rfl (lv_at hl 1 rfl) ?_
  refine lv_iconst (v := (nI 5)) hx hb dX6_digest_10 (by decide) ?_
  refine lv_icmp_ge (tgt := 31) hx hb dX6_digest_11 (by decide) (fun c_9 => ?_) (fun c_9 => ?_)
  · have h := h.1 c_9
    refine lv_iconst (v := (0 : Int32)) hx hb dX6_digest_31 (by decide) ?_
    refine lv_istore_n (lv' := [(1, .int (0 : Int32)), (0, .ref (ad 0))]) hx hb dX6_digest_32 rfl hl (by decide) rfl (fun ls hl => ?_)
    obtain ⟨I12, n13, h0, hst14⟩ := h
    refine loopW (σ := Int32 × Int64) (P := fun q H locs ls => va_P G.1 vwCl (wM G ad nw ps er us un od li st lm q.2) H ∧ va_D A (wM G ad nw ps er us un od li st lm q.2) ∧ va_S A s.heap H locs ∧ lv_has ls 2 [(0, .ref (ad 0)), (1, .int q.1)]) (I := fun n q => I12 n q.1 q.2) n13 ((0 : Int32), z2) h0 _ _ _ ⟨hP, hD, hS, lv_sub hl [1, 0] rfl⟩ ?_
    rintro n17 ⟨x10, z11⟩ hI ih16 H locs ls ⟨hP, hD, hS, hl⟩
    have hP : va_P G.1 vwCl (wM G ad nw ps er us un od li st lm z11) H := hP
    have hD : va_D A (wM G ad nw ps er us un od li st lm z11) := hD
    have hl : lv_has ls 2 [(0, .ref (ad 0)), (1, .int x10)] := hl
    have h := hst14 n17 x10 z11 hI
    refine lv_iload_n hx hb dX6_digest_33 rfl (lv_at hl 1 rfl) ?_
    refine lv_iconst (v := (nI 2)) hx hb dX6_digest_34 (by decide) ?_
    refine lv_icmp_gt (tgt := 55) hx hb dX6_digest_35 (by decide) (fun c_18 => ?_) (fun c_18 => ?_)
    · have h := h.1 c_18
      refine lv_aload_n hx hb dX6_digest_55 rfl (lv_at hl 0 rfl) ?_
      refine kc_v (wr := ([] : va_W)) (va_runV (As := []) (rest := []) ⟨hx, hb, hml, hown, hts⟩ (c_X6_lay l G ad _ nw ps er us un od li st lm z11  h) (cwV 0 hts gX6_digest_X6_lay rfl rfl rfl (by decide +kernel) ⟨Nat.le_of_ble_eq_true rfl, Nat.le_of_ble_eq_true rfl⟩) (kpV hK hP hD hZ hS hA [0, 1, 2, 3, 4, 5, 6, 7] rfl (by decide) (q0 := 0) (ci := 6) rfl rfl) rfl rfl hl.1 rfl (lv_room (Nat.le_of_ble_eq_true rfl)) dX6_digest_56 ⟨Nat.zero_le _, Nat.zero_le _⟩) hP hD hS hA [0, 1, 2, 3, 4, 5, 6, 7] [] rfl rfl (by decide) (by decide) (fun w64 H locs h hP hD hS => ?_)
      obtain ⟨u20, u21, u22⟩ := w64
      have hP : va_P G.1 vwCl (wM G ad nw ps er u20 u21 u22 li st lm z11) H := hP
      have hD : va_D A (wM G ad nw ps er u20 u21 u22 li st lm z11) := hD
      try dsimp only at h
      refine lv_aload_n hx hb dX6_digest_59 rfl (lv_at hl 0 rfl) ?_
      refine kc_v (wr := ([] : va_W)) (va_runV (As := []) (rest := []) ⟨hx, hb, hml, hown, hts⟩ (c_X6_mixTerms l G ad _ nw ps er u20 u21 u22 li st lm z11  h) (cwV 0 hts gX6_digest_X6_mixTerms rfl rfl rfl (by decide +kernel) ⟨Nat.le_of_ble_eq_true rfl, Nat.le_of_ble_eq_true rfl⟩) (kpV hK hP hD hZ hS hA [0, 1, 2, 3, 4, 5, 6, 7] rfl (by decide) (q0 := 0) (ci := 6) rfl rfl) rfl rfl hl.1 rfl (lv_room (Nat.le_of_ble_eq_true rfl)) dX6_digest_60 ⟨Nat.zero_le _, Nat.zero_le _⟩) hP hD hS hA [0, 1, 2, 3, 4, 5, 6, 7] [] rfl rfl (by decide) (by decide) (fun w63 H locs h hP hD hS => ?_)
      obtain ⟨u24, rfl⟩ : ∃ z, z = w63 := ⟨_, rfl⟩
      have hP : va_P G.1 vwCl (wM G ad nw ps er u20 u21 u22 li st lm u24) H := hP
      have hD : va_D A (wM G ad nw ps er u20 u21 u22 li st lm u24) := hD
      try dsimp only at h
      refine lv_aload_n hx hb dX6_digest_63 rfl (lv_at hl 0 rfl) ?_
      refine lv_aload_n hx hb dX6_digest_64 rfl (lv_at hl 0 rfl) ?_
      refine kc_i (wr := ([] : va_W)) (va_runV (As := []) (rest := [.ref (ad 0)]) ⟨hx, hb, hml, hown, hts⟩ (c_X6_areaNow l G ad _ nw ps er u20 u21 u22 li st lm u24  h) (cwV 0 hts gX6_digest_X6_areaNow rfl rfl rfl (by decide +kernel) ⟨Nat.le_of_ble_eq_true rfl, Nat.le_of_ble_eq_true rfl⟩) (kpV hK hP hD hZ hS hA [0, 1, 2, 3, 4, 5, 6, 7] rfl (by decide) (q0 := 0) (ci := 6) rfl rfl) rfl rfl hl.1 rfl (lv_room (Nat.le_of_ble_eq_true rfl)) dX6_digest_65 ⟨Nat.zero_le _, Nat.zero_le _⟩) hP hD hS hA [0, 1, 2, 3, 4, 5, 6, 7] [] rfl rfl (by decide) (by decide) (fun r25 w62 H locs h hP hD hS => ?_)
      have hP : va_P G.1 vwCl (wM G ad nw ps er u20 u21 u22 li st lm u24) H := hP
      have hD : va_D A (wM G ad nw ps er u20 u21 u22 li st lm u24) := hD
      try dsimp only at h
      refine lv_i2l (v := r25.toInt64) hx hb dX6_digest_68 rfl ?_
      refine kc_v (wr := ([] : va_W)) (va_runV (As := [.long r25.toInt64]) (rest := []) ⟨hx, hb, hml, hown, hts⟩ (c_X6_mix l G ad _ nw ps er u20 u21 u22 li st lm u24 r25.toInt64 h) (cwV 1 hts gX6_digest_X6_mix rfl rfl rfl (by decide +kernel) ⟨Nat.le_of_ble_eq_true rfl, Nat.le_of_ble_eq_true rfl⟩) (kpV hK hP hD hZ hS hA [0, 1, 2, 3, 4, 5, 6, 7] rfl (by decide) (q0 := 0) (ci := 6) rfl rfl) rfl rfl hl.1 rfl (lv_room (Nat.le_of_ble_eq_true rfl)) dX6_digest_69 ⟨Nat.zero_le _, Nat.zero_le _⟩) hP hD hS hA [0, 1, 2, 3, 4, 5, 6, 7] [] rfl rfl (by decide) (by decide) (fun w61 H locs h hP hD hS => ?_)
      obtain ⟨u27, rfl⟩ : ∃ z, z = w61 := ⟨_, rfl⟩
      have hP : va_P G.1 vwCl (wM G ad nw ps er u20 u21 u22 li st lm u27) H := hP
      have hD : va_D A (wM G ad nw ps er u20 u21 u22 li st lm u27) := hD
      try dsimp only at h
      refine lv_aload_n hx hb dX6_digest_72 rfl (lv_at hl 0 rfl) ?_
      refine kc_v (wr := ([] : va_W)) (va_runV (As := []) (rest := []) ⟨hx, hb, hml, hown, hts⟩ (c_X6_findBest l G ad _ nw ps er u20 u21 u22 li st lm u27  h) (cwV 0 hts gX6_digest_X6_findBest rfl rfl rfl (by decide +kernel) ⟨Nat.le_of_ble_eq_true rfl, Nat.le_of_ble_eq_true rfl⟩) (kpV hK hP hD hZ hS hA [0, 1, 2, 3, 4, 5, 6, 7] rfl (by decide) (q0 := 0) (ci := 6) rfl rfl) rfl rfl hl.1 rfl (lv_room (Nat.le_of_ble_eq_true rfl)) dX6_digest_73 ⟨Nat.zero_le _, Nat.zero_le _⟩) hP hD hS hA [0, 1, 2, 3, 4, 5, 6, 7] [] rfl rfl (by decide) (by decide) (fun w60 H locs h hP hD hS => ?_)
      obtain ⟨u29, u30, u31, u32, u33⟩ := w60
      have hP : va_P G.1 vwCl (wM G ad nw ps er u29 u30 u31 u32 st u33 u27) H := hP
      have hD : va_D A (wM G ad nw ps er u29 u30 u31 u32 st u33 u27) := hD
      try dsimp only at h
      refine lv_aload_n hx hb dX6_digest_76 rfl (lv_at hl 0 rfl) ?_
      refine lv_aload_n hx hb dX6_digest_77 rfl (lv_at hl 0 rfl) ?_
      refine va_get (D := G.1) (ci := 6) (v := .int u33) (C := RX6) (T := TX6) (N := 10) hx hb hts hinX6 hown hK.1 hP 0 rfl rfl 8 (by decide) (hts (.fieldLink RX6 131 "PlaFolderModel" "listMany" "I") (by decide +kernel)) (fun _ h9 => h9) rfl dX6_digest_78 ?_
      refine lv_i2l (v := u33.toInt64) hx hb dX6_digest_81 rfl ?_
      refine kc_v (wr := ([] : va_W)) (va_runV (As := [.long u33.toInt64]) (rest := []) ⟨hx, hb, hml, hown, hts⟩ (c_X6_mix l G ad _ nw ps er u29 u30 u31 u32 st u33 u27 u33.toInt64 h) (cwV 1 hts gX6_digest_X6_mix rfl rfl rfl (by decide +kernel) ⟨Nat.le_of_ble_eq_true rfl, Nat.le_of_ble_eq_true rfl⟩) (kpV hK hP hD hZ hS hA [0, 1, 2, 3, 4, 5, 6, 7] rfl (by decide) (q0 := 0) (ci := 6) rfl rfl) rfl rfl hl.1 rfl (lv_room (Nat.le_of_ble_eq_true rfl)) dX6_digest_82 ⟨Nat.zero_le _, Nat.zero_le _⟩) hP hD hS hA [0, 1, 2, 3, 4, 5, 6, 7] [] rfl rfl (by decide) (by decide) (fun w59 H locs h hP hD hS => ?_)
      obtain ⟨u35, rfl⟩ : ∃ z, z = w59 := ⟨_, rfl⟩
      have hP : va_P G.1 vwCl (wM G ad nw ps er u29 u30 u31 u32 st u33 u35) H := hP
      have hD : va_D A (wM G ad nw ps er u29 u30 u31 u32 st u33 u35) := hD
      try dsimp only at h
      refine lv_iconst (v := (0 : Int32)) hx hb dX6_digest_85 (by decide) ?_
      refine lv_istore_n (lv' := [(1, .int (0 : Int32)), (0, .ref (ad 0))]) hx hb dX6_digest_86 rfl hl (by decide) rfl (fun ls hl => ?_)
      obtain ⟨I38, n39, h0, hst40⟩ := h
      refine loopW (σ := Int32 × Int64) (P := fun q H locs ls => va_P G.1 vwCl (wM G ad nw ps er u29 u30 u31 u32 st u33 q.2) H ∧ va_D A (wM G ad nw ps er u29 u30 u31 u32 st u33 q.2) ∧ va_S A s.heap H locs ∧ lv_has ls 2 [(0, .ref (ad 0)), (1, .int q.1)]) (I := fun n q => I38 n q.1 q.2) n39 ((0 : Int32), u35) h0 _ _ _ ⟨hP, hD, hS, lv_sub hl [1, 0] rfl⟩ ?_
      rintro n43 ⟨x36, z37⟩ hI ih42 H locs ls ⟨hP, hD, hS, hl⟩
      have hP : va_P G.1 vwCl (wM G ad nw ps er u29 u30 u31 u32 st u33 z37) H := hP
      have hD : va_D A (wM G ad nw ps er u29 u30 u31 u32 st u33 z37) := hD
      have hl : lv_has ls 2 [(0, .ref (ad 0)), (1, .int x36)] := hl
      have h := hst40 n43 x36 z37 hI
      refine lv_iload_n hx hb dX6_digest_87 rfl (lv_at hl 1 rfl) ?_
      refine lv_aload_n hx hb dX6_digest_88 rfl (lv_at hl 0 rfl) ?_
      refine va_get (D := G.1) (ci := 6) (v := .int u33) (C := RX6) (T := TX6) (N := 10) hx hb hts hinX6 hown hK.1 hP 0 rfl rfl 8 (by decide) (hts (.fieldLink RX6 131 "PlaFolderModel" "listMany" "I") (by decide +kernel)) (fun _ h9 => h9) rfl dX6_digest_89 ?_
      refine lv_icmp_ge (tgt := 129) hx hb dX6_digest_92 (by decide) (fun c_44 => ?_) (fun c_44 => ?_)
      · have h := h.1 c_44
        refine lv_aload_n hx hb dX6_digest_129 rfl (lv_at hl 0 rfl) ?_
        refine lv_aload_n hx hb dX6_digest_130 rfl (lv_at hl 0 rfl) ?_
        refine va_get (D := G.1) (ci := 6) (v := .int st) (C := RX6) (T := TX6) (N := 10) hx hb hts hinX6 hown hK.1 hP 0 rfl rfl 2 (by decide) (hts (.fieldLink RX6 38 "PlaFolderModel" "states" "I") (by decide +kernel)) (fun _ h9 => h9) rfl dX6_digest_131 ?_
        refine lv_i2l (v := st.toInt64) hx hb dX6_digest_134 rfl ?_
        refine kc_v (wr := ([] : va_W)) (va_runV (As := [.long st.toInt64]) (rest := []) ⟨hx, hb, hml, hown, hts⟩ (c_X6_mix l G ad _ nw ps er u29 u30 u31 u32 st u33 z37 st.toInt64 h) (cwV 1 hts gX6_digest_X6_mix rfl rfl rfl (by decide +kernel) ⟨Nat.le_of_ble_eq_true rfl, Nat.le_of_ble_eq_true rfl⟩) (kpV hK hP hD hZ hS hA [0, 1, 2, 3, 4, 5, 6, 7] rfl (by decide) (q0 := 0) (ci := 6) rfl rfl) rfl rfl hl.1 rfl (lv_room (Nat.le_of_ble_eq_true rfl)) dX6_digest_135 ⟨Nat.zero_le _, Nat.zero_le _⟩) hP hD hS hA [0, 1, 2, 3, 4, 5, 6, 7] [] rfl rfl (by decide) (by decide) (fun w47 H locs h hP hD hS => ?_)
        obtain ⟨u46, rfl⟩ : ∃ z, z = w47 := ⟨_, rfl⟩
        have hP : va_P G.1 vwCl (wM G ad nw ps er u29 u30 u31 u32 st u33 u46) H := hP
        have hD : va_D A (wM G ad nw ps er u29 u30 u31 u32 st u33 u46) := hD
        try dsimp only at h
        refine lv_aload_n hx hb dX6_digest_138 rfl (lv_at hl 0 rfl) ?_
        refine va_get (D := G.1) (ci := 6) (v := .long u46) (C := RX6) (T := TX6) (N := 10) hx hb hts hinX6 hown hK.1 hP 0 rfl rfl 9 (by decide) (hts (.fieldLink RX6 142 "PlaFolderModel" "hash" "J") (by decide +kernel)) (fun _ h9 => h9) rfl dX6_digest_139 ?_
        exact W.lret hx hb hr (fun t ht hW => ⟨⟨_, (u29, u30, u31, u32, u33, u46), rfl, h, by rw [ht]; exact hP, hD⟩, hS.F ht⟩) hS.2.2 dX6_digest_142
      · have h := h.2 c_44
        refine lv_aload_n hx hb dX6_digest_95 rfl (lv_at hl 0 rfl) ?_
        refine lv_aload_n hx hb dX6_digest_96 rfl (lv_at hl 0 rfl) ?_
        refine va_get (D := G.1) (ci := 6) (v := .ref (ad 7)) (C := RX6) (T := TX6) (N := 10) hx hb hts hinX6 hown hK.1 hP 0 rfl rfl 7 (by decide) (hts (.fieldLink RX6 28 "PlaFolderModel" "list" "[I") (by decide +kernel)) (fun _ h9 => h9) rfl dX6_digest_97 ?_
        refine lv_iload_n hx hb dX6_digest_100 rfl (lv_at hl 1 rfl) ?_
        obtain ⟨hi48, h⟩ := h
        refine x_iald hx hb hK hP 7 rfl hi48 rfl dX6_digest_101 ?_
        refine lv_bipush (v := (nI 10)) hx hb dX6_digest_102 (by decide) ?_
        refine lv_idiv hx hb dX6_digest_104 (by decide) ?_
        refine lv_i2l (v := ((u32 x36.toNatClampNeg) / (nI 10)).toInt64) hx hb dX6_digest_105 rfl ?_
        refine kc_v (wr := ([] : va_W)) (va_runV (As := [.long (((u32 x36.toNatClampNeg) / (nI 10)).toInt64)]) (rest := []) ⟨hx, hb, hml, hown, hts⟩ (c_X6_mix l G ad _ nw ps er u29 u30 u31 u32 st u33 z37 (((u32 x36.toNatClampNeg) / (nI 10)).toInt64) h) (cwV 1 hts gX6_digest_X6_mix rfl rfl rfl (by decide +kernel) ⟨Nat.le_of_ble_eq_true rfl, Nat.le_of_ble_eq_true rfl⟩) (kpV hK hP hD hZ hS hA [0, 1, 2, 3, 4, 5, 6, 7] rfl (by decide) (q0 := 0) (ci := 6) rfl rfl) rfl rfl hl.1 rfl (lv_room (Nat.le_of_ble_eq_true rfl)) dX6_digest_106 ⟨Nat.zero_le _, Nat.zero_le _⟩) hP hD hS hA [0, 1, 2, 3, 4, 5, 6, 7] [] rfl rfl (by decide) (by decide) (fun w58 H locs h hP hD hS => ?_)
        obtain ⟨u50, rfl⟩ : ∃ z, z = w58 := ⟨_, rfl⟩
        have hP : va_P G.1 vwCl (wM G ad nw ps er u29 u30 u31 u32 st u33 u50) H := hP
        have hD : va_D A (wM G ad nw ps er u29 u30 u31 u32 st u33 u50) := hD
        try dsimp only at h
        refine lv_aload_n hx hb dX6_digest_109 rfl (lv_at hl 0 rfl) ?_
        refine lv_aload_n hx hb dX6_digest_110 rfl (lv_at hl 0 rfl) ?_
        refine va_get (D := G.1) (ci := 6) (v := .ref (ad 7)) (C := RX6) (T := TX6) (N := 10) hx hb hts hinX6 hown hK.1 hP 0 rfl rfl 7 (by decide) (hts (.fieldLink RX6 28 "PlaFolderModel" "list" "[I") (by decide +kernel)) (fun _ h9 => h9) rfl dX6_digest_111 ?_
        refine lv_iload_n hx hb dX6_digest_114 rfl (lv_at hl 1 rfl) ?_
        obtain ⟨hi51, h⟩ := h
        refine x_iald hx hb hK hP 7 rfl hi51 rfl dX6_digest_115 ?_
        refine lv_bipush (v := (nI 10)) hx hb dX6_digest_116 (by decide) ?_
        refine lv_irem hx hb dX6_digest_118 (by decide) ?_
        refine lv_i2l (v := (jrem (u32 x36.toNatClampNeg) (nI 10)).toInt64) hx hb dX6_digest_119 rfl ?_
        refine kc_v (wr := ([] : va_W)) (va_runV (As := [.long ((jrem (u32 x36.toNatClampNeg) (nI 10)).toInt64)]) (rest := []) ⟨hx, hb, hml, hown, hts⟩ (c_X6_mix l G ad _ nw ps er u29 u30 u31 u32 st u33 u50 ((jrem (u32 x36.toNatClampNeg) (nI 10)).toInt64) h) (cwV 1 hts gX6_digest_X6_mix rfl rfl rfl (by decide +kernel) ⟨Nat.le_of_ble_eq_true rfl, Nat.le_of_ble_eq_true rfl⟩) (kpV hK hP hD hZ hS hA [0, 1, 2, 3, 4, 5, 6, 7] rfl (by decide) (q0 := 0) (ci := 6) rfl rfl) rfl rfl hl.1 rfl (lv_room (Nat.le_of_ble_eq_true rfl)) dX6_digest_120 ⟨Nat.zero_le _, Nat.zero_le _⟩) hP hD hS hA [0, 1, 2, 3, 4, 5, 6, 7] [] rfl rfl (by decide) (by decide) (fun w57 H locs h hP hD hS => ?_)
        obtain ⟨u53, rfl⟩ : ∃ z, z = w57 := ⟨_, rfl⟩
        have hP : va_P G.1 vwCl (wM G ad nw ps er u29 u30 u31 u32 st u33 u53) H := hP
        have hD : va_D A (wM G ad nw ps er u29 u30 u31 u32 st u33 u53) := hD
        try dsimp only at h
        refine lv_iinc (v := (x36 + (1 : Int32))) (lv' := [(1, .int (x36 + (1 : Int32))), (0, .ref (ad 0))]) hx hb dX6_digest_123 hl (k := 1) rfl rfl (by decide) rfl (fun ls hl => ?_)
        refine lv_goto (tgt := 87) hx hb dX6_digest_126 (by decide) ?_
        obtain ⟨n55, hn54, hI56⟩ := h
        exact ih42 n55 ((x36 + (1 : Int32)), u53) hn54 hI56 _ _ _ ⟨hP, hD, hS, lv_sub hl [1, 0] rfl⟩
    · have h := h.2 c_18
      refine lv_aload_n hx hb dX6_digest_38 rfl (lv_at hl 0 rfl) ?_
      refine lv_aload_n hx hb dX6_digest_39 rfl (lv_at hl 0 rfl) ?_
      refine va_get (D := G.1) (ci := 6) (v := .ref (ad 1)) (C := RX6) (T := TX6) (N := 10) hx hb hts hinX6 hown hK.1 hP 0 rfl rfl 0 (by decide) (hts (.fieldLink RX6 7 "PlaFolderModel" "now" "[I") (by decide +kernel)) (fun _ h9 => h9) rfl dX6_digest_40 ?_
      refine lv_iload_n hx hb dX6_digest_43 rfl (lv_at hl 1 rfl) ?_
      obtain ⟨hi65, h⟩ := h
      refine x_iald hx hb hK hP 1 rfl hi65 rfl dX6_digest_44 ?_
      refine lv_i2l (v := (nw x10.toNatClampNeg).toInt64) hx hb dX6_digest_45 rfl ?_
      refine kc_v (wr := ([] : va_W)) (va_runV (As := [.long ((nw x10.toNatClampNeg).toInt64)]) (rest := []) ⟨hx, hb, hml, hown, hts⟩ (c_X6_mix l G ad _ nw ps er us un od li st lm z11 ((nw x10.toNatClampNeg).toInt64) h) (cwV 1 hts gX6_digest_X6_mix rfl rfl rfl (by decide +kernel) ⟨Nat.le_of_ble_eq_true rfl, Nat.le_of_ble_eq_true rfl⟩) (kpV hK hP hD hZ hS hA [0, 1, 2, 3, 4, 5, 6, 7] rfl (by decide) (q0 := 0) (ci := 6) rfl rfl) rfl rfl hl.1 rfl (lv_room (Nat.le_of_ble_eq_true rfl)) dX6_digest_46 ⟨Nat.zero_le _, Nat.zero_le _⟩) hP hD hS hA [0, 1, 2, 3, 4, 5, 6, 7] [] rfl rfl (by decide) (by decide) (fun w71 H locs h hP hD hS => ?_)
      obtain ⟨u67, rfl⟩ : ∃ z, z = w71 := ⟨_, rfl⟩
      have hP : va_P G.1 vwCl (wM G ad nw ps er us un od li st lm u67) H := hP
      have hD : va_D A (wM G ad nw ps er us un od li st lm u67) := hD
      try dsimp only at h
      refine lv_iinc (v := (x10 + (1 : Int32))) (lv' := [(1, .int (x10 + (1 : Int32))), (0, .ref (ad 0))]) hx hb dX6_digest_49 hl (k := 1) rfl rfl (by decide) rfl (fun ls hl => ?_)
      refine lv_goto (tgt := 33) hx hb dX6_digest_52 (by decide) ?_
      obtain ⟨n69, hn68, hI70⟩ := h
      exact ih16 n69 ((x10 + (1 : Int32)), u67) hn68 hI70 _ _ _ ⟨hP, hD, hS, lv_sub hl [1, 0] rfl⟩
  · have h := h.2 c_9
    refine lv_aload_n hx hb dX6_digest_14 rfl (lv_at hl 0 rfl) ?_
    refine lv_aload_n hx hb dX6_digest_15 rfl (lv_at hl 0 rfl) ?_
    refine va_get (D := G.1) (ci := 6) (v := .ref (ad 3)) (C := RX6) (T := TX6) (N := 10) hx hb hts hinX6 hown hK.1 hP 0 rfl rfl 3 (by decide) (hts (.fieldLink RX6 16 "PlaFolderModel" "errors" "[I") (by decide +kernel)) (fun _ h9 => h9) rfl dX6_digest_16 ?_
    refine lv_iload_n hx hb dX6_digest_19 rfl (lv_at hl 1 rfl) ?_
    obtain ⟨hi72, h⟩ := h
    refine x_iald hx hb hK hP 3 rfl hi72 rfl dX6_digest_20 ?_
    refine lv_i2l (v := (er x1.toNatClampNeg).toInt64) hx hb dX6_digest_21 rfl ?_
    refine kc_v (wr := ([] : va_W)) (va_runV (As := [.long ((er x1.toNatClampNeg).toInt64)]) (rest := []) ⟨hx, hb, hml, hown, hts⟩ (c_X6_mix l G ad _ nw ps er us un od li st lm z2 ((er x1.toNatClampNeg).toInt64) h) (cwV 1 hts gX6_digest_X6_mix rfl rfl rfl (by decide +kernel) ⟨Nat.le_of_ble_eq_true rfl, Nat.le_of_ble_eq_true rfl⟩) (kpV hK hP hD hZ hS hA [0, 1, 2, 3, 4, 5, 6, 7] rfl (by decide) (q0 := 0) (ci := 6) rfl rfl) rfl rfl hl.1 rfl (lv_room (Nat.le_of_ble_eq_true rfl)) dX6_digest_22 ⟨Nat.zero_le _, Nat.zero_le _⟩) hP hD hS hA [0, 1, 2, 3, 4, 5, 6, 7] [] rfl rfl (by decide) (by decide) (fun w78 H locs h hP hD hS => ?_)
    obtain ⟨u74, rfl⟩ : ∃ z, z = w78 := ⟨_, rfl⟩
    have hP : va_P G.1 vwCl (wM G ad nw ps er us un od li st lm u74) H := hP
    have hD : va_D A (wM G ad nw ps er us un od li st lm u74) := hD
    try dsimp only at h
    refine lv_iinc (v := (x1 + (1 : Int32))) (lv' := [(1, .int (x1 + (1 : Int32))), (0, .ref (ad 0))]) hx hb dX6_digest_25 hl (k := 1) rfl rfl (by decide) rfl (fun ls hl => ?_)
    refine lv_goto (tgt := 9) hx hb dX6_digest_28 (by decide) ?_
    obtain ⟨n76, hn75, hI77⟩ := h
    exact ih7 n76 ((x1 + (1 : Int32)), u74) hn75 hI77 _ _ _ ⟨hP, hD, hS, lv_sub hl [1, 0] rfl⟩
