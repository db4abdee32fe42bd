def wp_X6_usedBy (a1 : Int32) (nw : Nat → Int32) (K : Int32 → Prop) : Prop :=
 (Lp2 (0 : Int32) (0 : Int32) (fun (x1 : Int32) (x2 : Int32) (J6 : Int32 → Int32 → Prop) => (((nw 2) ≤ x2 → K x1) ∧
 (¬ ((nw 2) ≤ x2) → (Jn1 (fun (y11 : Int32) => (Jn1 (fun (y15 : Int32) => wp_X6_has y11 y15 (fun (r18 : Int32) => (Jn1 (fun (y20 : Int32) => J6 (x1 ||| y20) (x2 + (1 : Int32)))
 (fun (J21 : Int32 → Prop) => ((r18 = 0 → J21 (0 : Int32)) ∧
 (¬ (r18 = 0) → J21 (jshl (1 : Int32) x2)))))))
 (fun (J16 : Int32 → Prop) => (((nI 6) ≤ a1 → J16 (a1 - (nI 6))) ∧
 (¬ ((nI 6) ≤ a1) → J16 a1)))))
 (fun (J12 : Int32 → Prop) => (((nI 6) ≤ a1 → (vp_in ((nI 23) + x2) 53 ∧ J12 (nw ((nI 23) + x2).toNatClampNeg))) ∧
 (¬ ((nI 6) ≤ a1) → (vp_in ((nI 3) + x2) 53 ∧ (vp_in ((nI 13) + x2) 53 ∧ J12 ((nw ((nI 3) + x2).toNatClampNeg) ||| (nw ((nI 13) + x2).toNatClampNeg))))))))))))
abbrev rm_X6_usedBy : Room := { frames := 1, cells := 0, slots := 0, locals := 21 }
set_option maxHeartbeats 4000000 in
set_option maxRecDepth 100000 in
theorem c_X6_usedBy (l : Launch) (G : GG) (ad : Nat → Nat) (sz : Nat) (nw : Nat → Int32) (ps : Nat → Int32) (er : Nat → Int32) (us : Nat → Int32) (un : Nat → Int32) (od : Nat → Int32) (li : Nat → Int32) (st : Int32) (lm : Int32) (hs : Int64) (a1 : Int32) {K : Int32 → Prop} (h : wp_X6_usedBy a1 nw K) : CI l yX6_usedBy wsX6_usedBy rm_X6_usedBy G [.ref (ad 0), .int a1] (wM G ad nw ps er us un od li st lm hs) sz (fun u : Unit => wM G ad nw ps er us un od li st lm hs) (fun r u => K r ) := by
  refine Met.ofW (cc := cX6_usedBy) (maxL := 5) (ret := (some .int)) (by decide) rfl ?_
  intro p e s m args below meth c s₁ B hml hv
  obtain ⟨rfl, hsz, hP, hK, hD0, hZ⟩ := hv
  have hx := B.exec
  have hb := B.bytes
  have hr := B.returns
  have hts := atoms_spec (ws := wsX6_usedBy) B.pre
  have hown : s.vm.findClass RX6 = some m.cls := findClass_of_methodNamed B.named
  have hlocks := B.notSynchronized
  subst hsz
  have hD := hD0.self (sz := s.heap.size)
  generalize hAe : va_A (wM G ad nw ps er us un od li st lm hs) s.heap.size = A at hD hZ ⊢
  have hA : ∀ q : Nat, s.heap.size ≤ q → A q := fun q h => by rw [← hAe]; exact Or.inr h
  have hS : va_S A s.heap s.heap [] := va_S.rf
  have hl := lv_entry ([.ref (ad 0), .int a1]) (n := 5) (Nat.le_of_ble_eq_true rfl)
  rw [lg_entry_eq]
  generalize (lg_sl ([.ref (ad 0), .int a1]) ++ List.replicate (5 - (lg_sl ([.ref (ad 0), .int a1])).length) Slot.unset).toArray = ls at hl ⊢
  have hl : lv_has ls 5 [(0, .ref (ad 0)), (1, .int a1)] := hl
  unfold wp_X6_usedBy at h
  have hinX6 : ∀ w ∈ wsX60, w ∈ wsX6_usedBy := by decide +kernel
  refine lv_iconst (v := (0 : Int32)) hx hb dX6_usedBy_0 (by decide) ?_
  refine lv_istore_n (lv' := [(2, .int (0 : Int32)), (0, .ref (ad 0)), (1, .int a1)]) hx hb dX6_usedBy_1 rfl hl (by decide) rfl (fun ls hl => ?_)
  refine lv_iconst (v := (0 : Int32)) hx hb dX6_usedBy_2 (by decide) ?_
  refine lv_istore_n (lv' := [(3, .int (0 : Int32)), (2, .int (0 : Int32)), (0, .ref (ad 0)), (1, .int a1)]) hx hb dX6_usedBy_3 rfl hl (by decide) rfl (fun ls hl => ?_)
  obtain ⟨I3, n4, h0, hst5⟩ := h
  refine loopW (σ := Int32 × Int32) (P := fun q H locs ls => va_P G.1 vwCl (wM G ad nw ps er us un od li st lm hs) H ∧ va_D A (wM G ad nw ps er us un od li st lm hs) ∧ va_S A s.heap H locs ∧ lv_has ls 5 [(0, .ref (ad 0)), (1, .int a1), (2, .int q.1), (3, .int q.2)]) (I := fun n q => I3 n q.1 q.2) n4 ((0 : Int32), (0 : Int32)) h0 _ _ _ ⟨hP, hD, hS, lv_sub hl [2, 3, 1, 0] rfl⟩ ?_
  rintro n8 ⟨x1, x2⟩ hI ih7 H locs ls ⟨hP, hD, hS, hl⟩
  have hP : va_P G.1 vwCl (wM G ad nw ps er us un od li st lm hs) H := hP
  have hD : va_D A (wM G ad nw ps er us un od li st lm hs) := hD
  have hl : lv_has ls 5 [(0, .ref (ad 0)), (1, .int a1), (2, .int x1), (3, .int x2)] := hl
  have h := hst5 n8 x1 x2 hI
  refine lv_iload_n hx hb dX6_usedBy_4 rfl (lv_at hl 3 rfl) ?_
  refine lv_aload_n hx hb dX6_usedBy_5 rfl (lv_at hl 0 rfl) ?_
  refine va_get (D := G.1) (ci := 6) (v := .ref (ad 1)) (C := RX6) (T := TX6) (N := 10) hx hb hts hinX6 hown hK.1 hP 0 rfl rfl 0 (by decide) (hts (.fieldLink RX6 7 "PlaFolderModel" "now" "[I") (by decide +kernel)) (fun _ h9 => h9) rfl dX6_usedBy_6 ?_
  refine lv_iconst (v := (nI 2)) hx hb dX6_usedBy_9 (by decide) ?_
  refine x_iald hx hb hK hP 1 rfl (vin_c (by decide)) (k := 2) (by decide) dX6_usedBy_10 ?_
  refine lv_icmp_ge (tgt := 90) hx hb dX6_usedBy_11 (by decide) (fun c_9 => ?_) (fun c_9 => ?_)
  · have h := h.1 c_9
    refine lv_iload_n hx hb dX6_usedBy_90 rfl (lv_at hl 2 rfl) ?_
    exact W.iret hx hb hr (fun t ht hW => ⟨⟨_, (), rfl, h, by rw [ht]; exact hP, hD⟩, hS.F ht⟩) hS.2.2 dX6_usedBy_91
  · have h := h.2 c_9
    refine lv_iload_n hx hb dX6_usedBy_14 rfl (lv_at hl 1 rfl) ?_
    refine lv_bipush (v := (nI 6)) hx hb dX6_usedBy_15 (by decide) ?_
    obtain ⟨J12, hJ32, h⟩ := h
    refine joinW (σ := Int32) (J := fun q => J12 q) (pc := 50) (st := fun q => .int q :: []) (P := fun q H locs ls => va_P G.1 vwCl (wM G ad nw ps er us un od li st lm hs) H ∧ va_D A (wM G ad nw ps er us un od li st lm hs) ∧ va_S A s.heap H locs ∧ lv_has ls 5 [(0, .ref (ad 0)), (1, .int a1), (2, .int x1), (3, .int x2)]) ?_ (fun join13 => ?_)
    · rintro y11 h H locs ls ⟨hP, hD, hS, hl⟩
      have hP : va_P G.1 vwCl (wM G ad nw ps er us un od li st lm hs) H := hP
      have hD : va_D A (wM G ad nw ps er us un od li st lm hs) := hD
      have hl : lv_has ls 5 [(0, .ref (ad 0)), (1, .int a1), (2, .int x1), (3, .int x2)] := hl
      have h := hJ32 y11 h
      refine W.eq (g2 := F0 m 50 ls (.int y11 :: [])) rfl ?_
      refine lv_istore (lv' := [(4, .int y11), (0, .ref (ad 0)), (1, .int a1), (2, .int x1), (3, .int x2)]) hx hb dX6_usedBy_50 hl (by decide) rfl (fun ls hl => ?_)
      refine lv_iload_n hx hb dX6_usedBy_52 rfl (lv_at hl 3 rfl) ?_
      refine lv_iload hx hb dX6_usedBy_53 (lv_at hl 0 rfl) ?_
      refine lv_iload_n hx hb dX6_usedBy_55 rfl (lv_at hl 2 rfl) ?_
      refine lv_bipush (v := (nI 6)) hx hb dX6_usedBy_56 (by decide) ?_
      obtain ⟨J16, hJ28, h⟩ := h
      refine joinW (σ := Int32) (J := fun q => J16 q) (pc := 69) (st := fun q => .int q :: .int y11 :: .int x1 :: []) (P := fun q H locs ls => va_P G.1 vwCl (wM G ad nw ps er us un od li st lm hs) H ∧ va_D A (wM G ad nw ps er us un od li st lm hs) ∧ va_S A s.heap H locs ∧ lv_has ls 5 [(0, .ref (ad 0)), (1, .int a1), (3, .int x2)]) ?_ (fun join17 => ?_)
      · rintro y15 h H locs ls ⟨hP, hD, hS, hl⟩
        have hP : va_P G.1 vwCl (wM G ad nw ps er us un od li st lm hs) H := hP
        have hD : va_D A (wM G ad nw ps er us un od li st lm hs) := hD
        have hl : lv_has ls 5 [(0, .ref (ad 0)), (1, .int a1), (3, .int x2)] := hl
        have h := hJ28 y15 h
        refine W.eq (g2 := F0 m 69 ls (.int y15 :: .int y11 :: .int x1 :: [])) rfl ?_
        refine kc_i (wr := ([0, 1, 2, 3, 4, 5, 6, 7] : List Nat).filterMap (fun i => (wM G ad nw ps er us un od li st lm hs)[i]?)) (va_runS (As := [.int y11, .int y15]) (rest := [.int x1]) ⟨hx, hb, hml, hown, hts⟩ (c_X6_has l G  _  y11 y15 h) (va_cwS 2 hts gX6_usedBy_X6_has rfl rfl rfl (by decide +kernel) ⟨Nat.le_of_ble_eq_true rfl, Nat.le_of_ble_eq_true rfl⟩) (kpS hK hP hD hZ hS hA [] rfl (by decide)) rfl rfl hl.1 rfl (lv_room (Nat.le_of_ble_eq_true rfl)) dX6_usedBy_69 ⟨Nat.zero_le _, Nat.zero_le _⟩) hP hD hS hA [] [0, 1, 2, 3, 4, 5, 6, 7] rfl rfl (by decide) (by decide) (fun r18 w27 H locs h hP hD hS => ?_)
        have hP : va_P G.1 vwCl (wM G ad nw ps er us un od li st lm hs) H := hP
        have hD : va_D A (wM G ad nw ps er us un od li st lm hs) := hD
        try dsimp only at h
        obtain ⟨J21, hJ26, h⟩ := h
        refine joinW (σ := Int32) (J := fun q => J21 q) (pc := 82) (st := fun q => .int q :: .int x1 :: []) (P := fun q H locs ls => va_P G.1 vwCl (wM G ad nw ps er us un od li st lm hs) H ∧ va_D A (wM G ad nw ps er us un od li st lm hs) ∧ va_S A s.heap H locs ∧ lv_has ls 5 [(0, .ref (ad 0)), (1, .int a1), (3, .int x2)]) ?_ (fun join22 => ?_)
        · rintro y20 h H locs ls ⟨hP, hD, hS, hl⟩
          have hP : va_P G.1 vwCl (wM G ad nw ps er us un od li st lm hs) H := hP
          have hD : va_D A (wM G ad nw ps er us un od li st lm hs) := hD
          have hl : lv_has ls 5 [(0, .ref (ad 0)), (1, .int a1), (3, .int x2)] := hl
          have h := hJ26 y20 h
          refine W.eq (g2 := F0 m 82 ls (.int y20 :: .int x1 :: [])) rfl ?_
          refine lv_ior hx hb dX6_usedBy_82 ?_
          refine lv_istore_n (lv' := [(2, .int (x1 ||| y20)), (0, .ref (ad 0)), (1, .int a1), (3, .int x2)]) hx hb dX6_usedBy_83 rfl hl (by decide) rfl (fun ls hl => ?_)
          refine lv_iinc (v := (x2 + (1 : Int32))) (lv' := [(3, .int (x2 + (1 : Int32))), (2, .int (x1 ||| y20)), (0, .ref (ad 0)), (1, .int a1)]) hx hb dX6_usedBy_84 hl (k := 3) rfl rfl (by decide) rfl (fun ls hl => ?_)
          refine lv_goto (tgt := 4) hx hb dX6_usedBy_87 (by decide) ?_
          obtain ⟨n24, hn23, hI25⟩ := h
          exact ih7 n24 ((x1 ||| y20), (x2 + (1 : Int32))) hn23 hI25 _ _ _ ⟨hP, hD, hS, lv_sub hl [2, 3, 1, 0] rfl⟩
        · refine lv_if_eq (tgt := 81) hx hb dX6_usedBy_72 (by decide) (fun c_19 => ?_) (fun c_19 => ?_)
          · have h := h.1 c_19
            refine lv_iconst (v := (0 : Int32)) hx hb dX6_usedBy_81 (by decide) ?_
            exact join22 (0 : Int32) h _ _ _ ⟨hP, hD, hS, lv_sub hl [0, 1, 2] rfl⟩
          · have h := h.2 c_19
            refine lv_iconst (v := (1 : Int32)) hx hb dX6_usedBy_75 (by decide) ?_
            refine lv_iload_n hx hb dX6_usedBy_76 rfl (lv_at hl 2 rfl) ?_
            refine lv_ishl hx hb dX6_usedBy_77 ?_
            refine lv_goto (tgt := 82) hx hb dX6_usedBy_78 (by decide) ?_
            exact join22 (jshl (1 : Int32) x2) h _ _ _ ⟨hP, hD, hS, lv_sub hl [0, 1, 2] rfl⟩
      · refine lv_icmp_ge (tgt := 65) hx hb dX6_usedBy_58 (by decide) (fun c_14 => ?_) (fun c_14 => ?_)
        · have h := h.1 c_14
          refine lv_iload_n hx hb dX6_usedBy_65 rfl (lv_at hl 2 rfl) ?_
          refine lv_bipush (v := (nI 6)) hx hb dX6_usedBy_66 (by decide) ?_
          refine lv_isub hx hb dX6_usedBy_68 ?_
          exact join17 (a1 - (nI 6)) h _ _ _ ⟨hP, hD, hS, lv_sub hl [1, 2, 4] rfl⟩
        · have h := h.2 c_14
          refine lv_iload_n hx hb dX6_usedBy_61 rfl (lv_at hl 2 rfl) ?_
          refine lv_goto (tgt := 69) hx hb dX6_usedBy_62 (by decide) ?_
          exact join17 a1 h _ _ _ ⟨hP, hD, hS, lv_sub hl [1, 2, 4] rfl⟩
    · refine lv_icmp_ge (tgt := 41) hx hb dX6_usedBy_17 (by decide) (fun c_10 => ?_) (fun c_10 => ?_)
      · have h := h.1 c_10
        refine lv_aload_n hx hb dX6_usedBy_41 rfl (lv_at hl 0 rfl) ?_
        refine va_get (D := G.1) (ci := 6) (v := .ref (ad 1)) (C := RX6) (T := TX6) (N := 10) hx hb hts hinX6 hown hK.1 hP 0 rfl rfl 0 (by decide) (hts (.fieldLink RX6 7 "PlaFolderModel" "now" "[I") (by decide +kernel)) (fun _ h9 => h9) rfl dX6_usedBy_42 ?_
        refine lv_bipush (v := (nI 23)) hx hb dX6_usedBy_45 (by decide) ?_
        refine lv_iload_n hx hb dX6_usedBy_47 rfl (lv_at hl 3 rfl) ?_
        refine lv_iadd hx hb dX6_usedBy_48 ?_
        obtain ⟨hi29, h⟩ := h
        refine x_iald hx hb hK hP 1 rfl hi29 rfl dX6_usedBy_49 ?_
        exact join13 (nw ((nI 23) + x2).toNatClampNeg) h _ _ _ ⟨hP, hD, hS, lv_sub hl [0, 1, 2, 3] rfl⟩
      · have h := h.2 c_10
        refine lv_aload_n hx hb dX6_usedBy_20 rfl (lv_at hl 0 rfl) ?_
        refine va_get (D := G.1) (ci := 6) (v := .ref (ad 1)) (C := RX6) (T := TX6) (N := 10) hx hb hts hinX6 hown hK.1 hP 0 rfl rfl 0 (by decide) (hts (.fieldLink RX6 7 "PlaFolderModel" "now" "[I") (by decide +kernel)) (fun _ h9 => h9) rfl dX6_usedBy_21 ?_
        refine lv_iconst (v := (nI 3)) hx hb dX6_usedBy_24 (by decide) ?_
        refine lv_iload_n hx hb dX6_usedBy_25 rfl (lv_at hl 3 rfl) ?_
        refine lv_iadd hx hb dX6_usedBy_26 ?_
        obtain ⟨hi30, h⟩ := h
        refine x_iald hx hb hK hP 1 rfl hi30 rfl dX6_usedBy_27 ?_
        refine lv_aload_n hx hb dX6_usedBy_28 rfl (lv_at hl 0 rfl) ?_
        refine va_get (D := G.1) (ci := 6) (v := .ref (ad 1)) (C := RX6) (T := TX6) (N := 10) hx hb hts hinX6 hown hK.1 hP 0 rfl rfl 0 (by decide) (hts (.fieldLink RX6 7 "PlaFolderModel" "now" "[I") (by decide +kernel)) (fun _ h9 => h9) rfl dX6_usedBy_29 ?_
        refine lv_bipush (v := (nI 13)) hx hb dX6_usedBy_32 (by decide) ?_
        refine lv_iload_n hx hb dX6_usedBy_34 rfl (lv_at hl 3 rfl) ?_
        refine lv_iadd hx hb dX6_usedBy_35 ?_
        obtain ⟨hi31, h⟩ := h
        refine x_iald hx hb hK hP 1 rfl hi31 rfl dX6_usedBy_36 ?_
        refine lv_ior hx hb dX6_usedBy_37 ?_
        refine lv_goto (tgt := 50) hx hb dX6_usedBy_38 (by decide) ?_
        exact join13 ((nw ((nI 3) + x2).toNatClampNeg) ||| (nw ((nI 13) + x2).toNatClampNeg)) h _ _ _ ⟨hP, hD, hS, lv_sub hl [0, 1, 2, 3] rfl⟩
def wp_X6_layUsed (nw : Nat → Int32) (us : Nat → Int32) (K : (Nat → Int32) → Prop) : Prop :=
 (Lp2 (0 : Int32) us (fun (x1 : Int32) (z2 : Nat → Int32) (J6 : Int32 → (Nat → Int32) → Prop) => (((nI 10) ≤ x1 → K z2) ∧
 (¬ ((nI 10) ≤ x1) → wp_X6_usedBy x1 nw (fun (r10 : Int32) => (vp_in x1 10 ∧ J6 (x1 + (1 : Int32)) (upd z2 x1.toNatClampNeg r10)))))))
abbrev rm_X6_layUsed : Room := { frames := 2, cells := 0, slots := 0, locals := 45 }
set_option maxHeartbeats 4000000 in
set_option maxRecDepth 100000 in
theorem c_X6_layUsed (l : Launch) (G : GG) (ad : Nat → Nat) (sz : Nat) (nw : Nat → Int32) (ps : Nat → Int32) (er : Nat → Int32) (us : Nat → Int32) (un : Nat → Int32) (od : Nat → Int32) (li : Nat → Int32) (st : Int32) (lm : Int32) (hs : Int64) {K : (Nat → Int32) → Prop} (h : wp_X6_layUsed nw us K) : CV l yX6_layUsed wsX6_layUsed rm_X6_layUsed G [.ref (ad 0)] (wM G ad nw ps er us un od li st lm hs) sz (fun u : (Nat → Int32) => wM G ad nw ps er u un od li st lm hs) (fun u => K u) := by
  refine Met.ofW (cc := cX6_layUsed) (maxL := 2) (ret := none) (by decide) rfl ?_
  intro p e s m args below meth c s₁ B hml hv
  obtain ⟨rfl, hsz, hP, hK, hD0, hZ⟩ := hv
  have hx := B.exec
  have hb := B.bytes
  have hr := B.returns
  have hts := atoms_spec (ws := wsX6_layUsed) B.pre
  have hown : s.vm.findClass RX6 = some m.cls := findClass_of_methodNamed B.named
  have hlocks := B.notSynchronized
  subst hsz
  have hD := hD0.self (sz := s.heap.size)
  generalize hAe : va_A (wM G ad nw ps er us un od li st lm hs) s.heap.size = A at hD hZ ⊢
  have hA : ∀ q : Nat, s.heap.size ≤ q → A q := fun q h => by rw [← hAe]; exact Or.inr h
  have hS : va_S A s.heap s.heap [] := va_S.rf
  have hl := lv_entry ([.ref (ad 0)]) (n := 2) (Nat.le_of_ble_eq_true rfl)
  rw [lg_entry_eq]
  generalize (lg_sl ([.ref (ad 0)]) ++ List.replicate (2 - (lg_sl ([.ref (ad 0)])).length) Slot.unset).toArray = ls at hl ⊢
  have hl : lv_has ls 2 [(0, .ref (ad 0))] := hl
  unfold wp_X6_layUsed at h
  have hinX6 : ∀ w ∈ wsX60, w ∈ wsX6_layUsed := by decide +kernel
  refine lv_iconst (v := (0 : Int32)) hx hb dX6_layUsed_0 (by decide) ?_
  refine lv_istore_n (lv' := [(1, .int (0 : Int32)), (0, .ref (ad 0))]) hx hb dX6_layUsed_1 rfl hl (by decide) rfl (fun ls hl => ?_)
  obtain ⟨I3, n4, h0, hst5⟩ := h
  refine loopW (σ := Int32 × (Nat → Int32)) (P := fun q H locs ls => va_P G.1 vwCl (wM G ad nw ps er q.2 un od li st lm hs) H ∧ va_D A (wM G ad nw ps er q.2 un od li st lm hs) ∧ va_S A s.heap H locs ∧ lv_has ls 2 [(0, .ref (ad 0)), (1, .int q.1)]) (I := fun n q => I3 n q.1 q.2) n4 ((0 : Int32), us) h0 _ _ _ ⟨hP, hD, hS, lv_sub hl [1, 0] rfl⟩ ?_
  rintro n8 ⟨x1, z2⟩ hI ih7 H locs ls ⟨hP, hD, hS, hl⟩
  have hP : va_P G.1 vwCl (wM G ad nw ps er z2 un od li st lm hs) H := hP
  have hD : va_D A (wM G ad nw ps er z2 un od li st lm hs) := hD
  have hl : lv_has ls 2 [(0, .ref (ad 0)), (1, .int x1)] := hl
  have h := hst5 n8 x1 z2 hI
  refine lv_iload_n hx hb dX6_layUsed_2 rfl (lv_at hl 1 rfl) ?_
  refine lv_bipush (v := (nI 10)) hx hb dX6_layUsed_3 (by decide) ?_
  refine lv_icmp_ge (tgt := 25) hx hb dX6_layUsed_5 (by decide) (fun c_9 => ?_) (fun c_9 => ?_)
  · have h := h.1 c_9
    exact W.vret hx hb hr (fun t ht hW => ⟨⟨z2, rfl, h, by rw [ht]; exact hP, hD⟩, hS.F ht⟩) hS.2.2 dX6_layUsed_25
  · have h := h.2 c_9
    refine lv_aload_n hx hb dX6_layUsed_8 rfl (lv_at hl 0 rfl) ?_
    refine va_get (D := G.1) (ci := 6) (v := .ref (ad 4)) (C := RX6) (T := TX6) (N := 10) hx hb hts hinX6 hown hK.1 hP 0 rfl rfl 4 (by decide) (hts (.fieldLink RX6 19 "PlaFolderModel" "used" "[I") (by decide +kernel)) (fun _ h9 => h9) rfl dX6_layUsed_9 ?_
    refine lv_iload_n hx hb dX6_layUsed_12 rfl (lv_at hl 1 rfl) ?_
    refine lv_aload_n hx hb dX6_layUsed_13 rfl (lv_at hl 0 rfl) ?_
    refine lv_iload_n hx hb dX6_layUsed_14 rfl (lv_at hl 1 rfl) ?_
    refine kc_i (wr := ([] : va_W)) (va_runV (As := [.int x1]) (rest := [.int x1, .ref (ad 4)]) ⟨hx, hb, hml, hown, hts⟩ (c_X6_usedBy l G ad _ nw ps er z2 un od li st lm hs x1 h) (cwV 1 hts gX6_layUsed_X6_usedBy rfl rfl rfl (by decide +kernel) ⟨Nat.le_of_ble_eq_true rfl, Nat.le_of_ble_eq_true rfl⟩) (kpV hK hP hD hZ hS hA [0, 1, 2, 3, 4, 5, 6, 7] rfl (by decide) (q0 := 0) (ci := 6) rfl rfl) rfl rfl hl.1 rfl (lv_room (Nat.le_of_ble_eq_true rfl)) dX6_layUsed_15 ⟨Nat.zero_le _, Nat.zero_le _⟩) hP hD hS hA [0, 1, 2, 3, 4, 5, 6, 7] [] rfl rfl (by decide) (by decide) (fun r10 w15 H locs h hP hD hS => ?_)
    have hP : va_P G.1 vwCl (wM G ad nw ps er z2 un od li st lm hs) H := hP
    have hD : va_D A (wM G ad nw ps er z2 un od li st lm hs) := hD
    try dsimp only at h
    obtain ⟨hi11, h⟩ := h
    refine x_iast hx hb hK hP hD hS 4 rfl hi11 rfl dX6_layUsed_18 (fun H locs hP hD hS => ?_)
    have hP : va_P G.1 vwCl (wM G ad nw ps er (upd z2 x1.toNatClampNeg r10) un od li st lm hs) H := hP
    have hD : va_D A (wM G ad nw ps er (upd z2 x1.toNatClampNeg r10) un od li st lm hs) := hD
    refine lv_iinc (v := (x1 + (1 : Int32))) (lv' := [(1, .int (x1 + (1 : Int32))), (0, .ref (ad 0))]) hx hb dX6_layUsed_19 hl (k := 1) rfl rfl (by decide) rfl (fun ls hl => ?_)
    refine lv_goto (tgt := 2) hx hb dX6_layUsed_22 (by decide) ?_
    obtain ⟨n13, hn12, hI14⟩ := h
    exact ih7 n13 ((x1 + (1 : Int32)), (upd z2 x1.toNatClampNeg r10)) hn12 hI14 _ _ _ ⟨hP, hD, hS, lv_sub hl [1, 0] rfl⟩
def wp_X6_uses (a1 : Int32) (nw : Nat → Int32) (er : Nat → Int32) (K : Int32 → (Nat → Int32) → Prop) : Prop :=
 wp_X6_isColumn a1 nw (fun (r1 : Int32) => ((r1 = 0 → wp_X6_error (-2 : Int32) er (fun (r3 : Int32) (u4 : Nat → Int32) => K r3 u4)) ∧
 (¬ (r1 = 0) → wp_X6_usedBy a1 nw (fun (r6 : Int32) => K r6 er))))
abbrev rm_X6_uses : Room := { frames := 2, cells := 0, slots := 0, locals := 45 }
set_option maxHeartbeats 4000000 in
set_option maxRecDepth 100000 in
theorem c_X6_uses (l : Launch) (G : GG) (ad : Nat → Nat) (sz : Nat) (nw : Nat → Int32) (ps : Nat → Int32) (er : Nat → Int32) (us : Nat → Int32) (un : Nat → Int32) (od : Nat → Int32) (li : Nat → Int32) (st : Int32) (lm : Int32) (hs : Int64) (a1 : Int32) {K : Int32 → (Nat → Int32) → Prop} (h : wp_X6_uses a1 nw er K) : CI l yX6_uses wsX6_uses rm_X6_uses G [.ref (ad 0), .int a1] (wM G ad nw ps er us un od li st lm hs) sz (fun u : (Nat → Int32) => wM G ad nw ps u us un od li st lm hs) (fun r u => K r u) := by
  refine Met.ofW (cc := cX6_uses) (maxL := 2) (ret := (some .int)) (by decide) rfl ?_
  intro p e s m args below meth c s₁ B hml hv
  obtain ⟨rfl, hsz, hP, hK, hD0, hZ⟩ := hv
  have hx := B.exec
  have hb := B.bytes
  have hr := B.returns
  have hts := atoms_spec (ws := wsX6_uses) B.pre
  have hown : s.vm.findClass RX6 = some m.cls := findClass_of_methodNamed B.named
  have hlocks := B.notSynchronized
  subst hsz
  have hD := hD0.self (sz := s.heap.size)
  generalize hAe : va_A (wM G ad nw ps er us un od li st lm hs) s.heap.size = A at hD hZ ⊢
  have hA : ∀ q : Nat, s.heap.size ≤ q → A q := fun q h => by rw [← hAe]; exact Or.inr h
  have hS : va_S A s.heap s.heap [] := va_S.rf
  have hl := lv_entry ([.ref (ad 0), .int a1]) (n := 2) (Nat.le_of_ble_eq_true rfl)
  rw [lg_entry_eq]
  generalize (lg_sl ([.ref (ad 0), .int a1]) ++ List.replicate (2 - (lg_sl ([.ref (ad 0), .int a1])).length) Slot.unset).toArray = ls at hl ⊢
  have hl : lv_has ls 2 [(0, .ref (ad 0)), (1, .int a1)] := hl
  unfold wp_X6_uses at h
  refine lv_aload_n hx hb dX6_uses_0 rfl (lv_at hl 0 rfl) ?_
  refine lv_iload_n hx hb dX6_uses_1 rfl (lv_at hl 1 rfl) ?_
  refine kc_i (wr := ([] : va_W)) (va_runV (As := [.int a1]) (rest := []) ⟨hx, hb, hml, hown, hts⟩ (c_X6_isColumn l G ad _ nw ps er us un od li st lm hs a1 h) (cwV 1 hts gX6_uses_X6_isColumn rfl rfl rfl (by decide +kernel) ⟨Nat.le_of_ble_eq_true rfl, Nat.le_of_ble_eq_true rfl⟩) (kpV hK hP hD hZ hS hA [0, 1, 2, 3, 4, 5, 6, 7] rfl (by decide) (q0 := 0) (ci := 6) rfl rfl) rfl rfl hl.1 rfl (lv_room (Nat.le_of_ble_eq_true rfl)) dX6_uses_2 ⟨Nat.zero_le _, Nat.zero_le _⟩) hP hD hS hA [0, 1, 2, 3, 4, 5, 6, 7] [] rfl rfl (by decide) (by decide) (fun r1 w8 H locs h hP hD hS => ?_)
  have hP : va_P G.1 vwCl (wM G ad nw ps er us un od li st lm hs) H := hP
  have hD : va_D A (wM G ad nw ps er us un od li st lm hs) := hD
  try dsimp only at h
  refine lv_if_eq (tgt := 16) hx hb dX6_uses_5 (by decide) (fun c_2 => ?_) (fun c_2 => ?_)
  · have h := h.1 c_2
    refine lv_aload_n hx hb dX6_uses_16 rfl (lv_at hl 0 rfl) ?_
    refine lv_bipush (v := (-2 : Int32)) hx hb dX6_uses_17 (by decide) ?_
    refine kc_i (wr := ([] : va_W)) (va_runV (As := [.int (-2 : Int32)]) (rest := []) ⟨hx, hb, hml, hown, hts⟩ (c_X6_error l G ad _ nw ps er us un od li st lm hs (-2 : Int32) h) (cwV 1 hts gX6_uses_X6_error rfl rfl rfl (by decide +kernel) ⟨Nat.le_of_ble_eq_true rfl, Nat.le_of_ble_eq_true rfl⟩) (kpV hK hP hD hZ hS hA [0, 1, 2, 3, 4, 5, 6, 7] rfl (by decide) (q0 := 0) (ci := 6) rfl rfl) rfl rfl hl.1 rfl (lv_room (Nat.le_of_ble_eq_true rfl)) dX6_uses_19 ⟨Nat.zero_le _, Nat.zero_le _⟩) hP hD hS hA [0, 1, 2, 3, 4, 5, 6, 7] [] rfl rfl (by decide) (by decide) (fun r3 w5 H locs h hP hD hS => ?_)
    obtain ⟨u4, rfl⟩ : ∃ z, z = w5 := ⟨_, rfl⟩
    have hP : va_P G.1 vwCl (wM G ad nw ps u4 us un od li st lm hs) H := hP
    have hD : va_D A (wM G ad nw ps u4 us un od li st lm hs) := hD
    try dsimp only at h
    exact W.iret hx hb hr (fun t ht hW => ⟨⟨_, u4, rfl, h, by rw [ht]; exact hP, hD⟩, hS.F ht⟩) hS.2.2 dX6_uses_22
  · have h := h.2 c_2
    refine lv_aload_n hx hb dX6_uses_8 rfl (lv_at hl 0 rfl) ?_
    refine lv_iload_n hx hb dX6_uses_9 rfl (lv_at hl 1 rfl) ?_
    refine kc_i (wr := ([] : va_W)) (va_runV (As := [.int a1]) (rest := []) ⟨hx, hb, hml, hown, hts⟩ (c_X6_usedBy l G ad _ nw ps er us un od li st lm hs a1 h) (cwV 1 hts gX6_uses_X6_usedBy rfl rfl rfl (by decide +kernel) ⟨Nat.le_of_ble_eq_true rfl, Nat.le_of_ble_eq_true rfl⟩) (kpV hK hP hD hZ hS hA [0, 1, 2, 3, 4, 5, 6, 7] rfl (by decide) (q0 := 0) (ci := 6) rfl rfl) rfl rfl hl.1 rfl (lv_room (Nat.le_of_ble_eq_true rfl)) dX6_uses_10 ⟨Nat.zero_le _, Nat.zero_le _⟩) hP hD hS hA [0, 1, 2, 3, 4, 5, 6, 7] [] rfl rfl (by decide) (by decide) (fun r6 w7 H locs h hP hD hS => ?_)
    have hP : va_P G.1 vwCl (wM G ad nw ps er us un od li st lm hs) H := hP
    have hD : va_D A (wM G ad nw ps er us un od li st lm hs) := hD
    try dsimp only at h
    refine lv_goto (tgt := 22) hx hb dX6_uses_13 (by decide) ?_
    exact W.iret hx hb hr (fun t ht hW => ⟨⟨_, er, rfl, h, by rw [ht]; exact hP, hD⟩, hS.F ht⟩) hS.2.2 dX6_uses_22
def wp_X6_fits (a1 : Int32) (a2 : Int32) (nw : Nat → Int32) (us : Nat → Int32) (K : Int32 → Prop) : Prop :=
 ((a1 = a2 → K (0 : Int32)) ∧
 (¬ (a1 = a2) → wp_X6_isColumn a1 nw (fun (r2 : Int32) => ((r2 = 0 → K (0 : Int32)) ∧
 (¬ (r2 = 0) → wp_X6_isColumn a2 nw (fun (r4 : Int32) => ((r4 = 0 → K (0 : Int32)) ∧
 (¬ (r4 = 0) → (Jn1 (fun (y7 : Int32) => (Jn1 (fun (y11 : Int32) => ((¬ y7 = y11 → K (0 : Int32)) ∧
 (y7 = y11 → (vp_in a1 10 ∧ (vp_in a2 10 ∧ ((¬ ((us a1.toNatClampNeg) &&& (us a2.toNatClampNeg)) = 0 → K (0 : Int32)) ∧
 (((us a1.toNatClampNeg) &&& (us a2.toNatClampNeg)) = 0 → K (1 : Int32))))))))
 (fun (J12 : Int32 → Prop) => (((nI 6) ≤ a2 → J12 (0 : Int32)) ∧
 (¬ ((nI 6) ≤ a2) → J12 (1 : Int32))))))
 (fun (J8 : Int32 → Prop) => (((nI 6) ≤ a1 → J8 (0 : Int32)) ∧
 (¬ ((nI 6) ≤ a1) → J8 (1 : Int32)))))))))))))
abbrev rm_X6_fits : Room := { frames := 2, cells := 0, slots := 0, locals := 43 }
set_option maxHeartbeats 4000000 in
set_option maxRecDepth 100000 in
theorem c_X6_fits (l : Launch) (G : GG) (ad : Nat → Nat) (sz : Nat) (nw : Nat → Int32) (ps : Nat → Int32) (er : Nat → Int32) (us : Nat → Int32) (un : Nat → Int32) (od : Nat → Int32) (li : Nat → Int32) (st : Int32) (lm : Int32) (hs : Int64) (a1 : Int32) (a2 : Int32) {K : Int32 → Prop} (h : wp_X6_fits a1 a2 nw us K) : CI l yX6_fits wsX6_fits rm_X6_fits G [.ref (ad 0), .int a1, .int a2] (wM G ad nw ps er us un od li st lm hs) sz (fun u : Unit => wM G ad nw ps er us un od li st lm hs) (fun r u => K r ) := by
  refine Met.ofW (cc := cX6_fits) (maxL := 3) (ret := (some .boolean)) (by decide) rfl ?_
  intro p e s m args below meth c s₁ B hml hv
  obtain ⟨rfl, hsz, hP, hK, hD0, hZ⟩ := hv
  have hx := B.exec
  have hb := B.bytes
  have hr := B.returns
  have hts := atoms_spec (ws := wsX6_fits) B.pre
  have hown : s.vm.findClass RX6 = some m.cls := findClass_of_methodNamed B.named
  have hlocks := B.notSynchronized
  subst hsz
  have hD := hD0.self (sz := s.heap.size)
  generalize hAe : va_A (wM G ad nw ps er us un od li st lm hs) s.heap.size = A at hD hZ ⊢
  have hA : ∀ q : Nat, s.heap.size ≤ q → A q := fun q h => by rw [← hAe]; exact Or.inr h
  have hS : va_S A s.heap s.heap [] := va_S.rf
  have hl := lv_entry ([.ref (ad 0), .int a1, .int a2]) (n := 3) (Nat.le_of_ble_eq_true rfl)
  rw [lg_entry_eq]
  generalize (lg_sl ([.ref (ad 0), .int a1, .int a2]) ++ List.replicate (3 - (lg_sl ([.ref (ad 0), .int a1, .int a2])).length) Slot.unset).toArray = ls at hl ⊢
  have hl : lv_has ls 3 [(0, .ref (ad 0)), (1, .int a1), (2, .int a2)] := hl
  unfold wp_X6_fits at h
  have hinX6 : ∀ w ∈ wsX60, w ∈ wsX6_fits := by decide +kernel
  refine lv_iload_n hx hb dX6_fits_0 rfl (lv_at hl 1 rfl) ?_
  refine lv_iload_n hx hb dX6_fits_1 rfl (lv_at hl 2 rfl) ?_
  refine lv_icmp_eq (tgt := 66) hx hb dX6_fits_2 (by decide) (fun c_1 => ?_) (fun c_1 => ?_)
  · have h := h.1 c_1
    refine lv_iconst (v := (0 : Int32)) hx hb dX6_fits_66 (by decide) ?_
    exact W.zret hx hb hr (by decide) (fun t ht hW => ⟨⟨_, (), rfl, h, by rw [ht]; exact hP, hD⟩, hS.F ht⟩) hS.2.2 dX6_fits_67
  · have h := h.2 c_1
    refine lv_aload_n hx hb dX6_fits_5 rfl (lv_at hl 0 rfl) ?_
    refine lv_iload_n hx hb dX6_fits_6 rfl (lv_at hl 1 rfl) ?_
    refine kc_i (wr := ([] : va_W)) (va_runV (As := [.int a1]) (rest := []) ⟨hx, hb, hml, hown, hts⟩ (c_X6_isColumn l G ad _ nw ps er us un od li st lm hs a1 h) (cwV 1 hts gX6_fits_X6_isColumn rfl rfl rfl (by decide +kernel) ⟨Nat.le_of_ble_eq_true rfl, Nat.le_of_ble_eq_true rfl⟩) (kpV hK hP hD hZ hS hA [0, 1, 2, 3, 4, 5, 6, 7] rfl (by decide) (q0 := 0) (ci := 6) rfl rfl) rfl rfl hl.1 rfl (lv_room (Nat.le_of_ble_eq_true rfl)) dX6_fits_7 ⟨Nat.zero_le _, Nat.zero_le _⟩) hP hD hS hA [0, 1, 2, 3, 4, 5, 6, 7] [] rfl rfl (by decide) (by decide) (fun r2 w21 H locs h hP hD hS => ?_)
    have hP : va_P G.1 vwCl (wM G ad nw ps er us un od li st lm hs) H := hP
    have hD : va_D A (wM G ad nw ps er us un od li st lm hs) := hD
    try dsimp only at h
    refine lv_if_eq (tgt := 66) hx hb dX6_fits_10 (by decide) (fun c_3 => ?_) (fun c_3 => ?_)
    · have h := h.1 c_3
      refine lv_iconst (v := (0 : Int32)) hx hb dX6_fits_66 (by decide) ?_
      exact W.zret hx hb hr (by decide) (fun t ht hW => ⟨⟨_, (), rfl, h, by rw [ht]; exact hP, hD⟩, hS.F ht⟩) hS.2.2 dX6_fits_67
    · have h := h.2 c_3
      refine lv_aload_n hx hb dX6_fits_13 rfl (lv_at hl 0 rfl) ?_
      refine lv_iload_n hx hb dX6_fits_14 rfl (lv_at hl 2 rfl) ?_
      refine kc_i (wr := ([] : va_W)) (va_runV (As := [.int a2]) (rest := []) ⟨hx, hb, hml, hown, hts⟩ (c_X6_isColumn l G ad _ nw ps er us un od li st lm hs a2 h) (cwV 1 hts gX6_fits_X6_isColumn rfl rfl rfl (by decide +kernel) ⟨Nat.le_of_ble_eq_true rfl, Nat.le_of_ble_eq_true rfl⟩) (kpV hK hP hD hZ hS hA [0, 1, 2, 3, 4, 5, 6, 7] rfl (by decide) (q0 := 0) (ci := 6) rfl rfl) rfl rfl hl.1 rfl (lv_room (Nat.le_of_ble_eq_true rfl)) dX6_fits_15 ⟨Nat.zero_le _, Nat.zero_le _⟩) hP hD hS hA [0, 1, 2, 3, 4, 5, 6, 7] [] rfl rfl (by decide) (by decide) (fun r4 w20 H locs h hP hD hS => ?_)
      have hP : va_P G.1 vwCl (wM G ad nw ps er us un od li st lm hs) H := hP
      have hD : va_D A (wM G ad nw ps er us un od li st lm hs) := hD
      try dsimp only at h
      refine lv_if_eq (tgt := 66) hx hb dX6_fits_18 (by decide) (fun c_5 => ?_) (fun c_5 => ?_)
      · have h := h.1 c_5
        refine lv_iconst (v := (0 : Int32)) hx hb dX6_fits_66 (by decide) ?_
        exact W.zret hx hb hr (by decide) (fun t ht hW => ⟨⟨_, (), rfl, h, by rw [ht]; exact hP, hD⟩, hS.F ht⟩) hS.2.2 dX6_fits_67
      · have h := h.2 c_5
        refine lv_iload_n hx hb dX6_fits_21 rfl (lv_at hl 1 rfl) ?_
        refine lv_bipush (v := (nI 6)) hx hb dX6_fits_22 (by decide) ?_
        obtain ⟨J8, hJ19, h⟩ := h
        refine joinW (σ := Int32) (J := fun q => J8 q) (pc := 32) (st := fun q => .int q :: []) (P := fun q H locs ls => va_P G.1 vwCl (wM G ad nw ps er us un od li st lm hs) H ∧ va_D A (wM G ad nw ps er us un od li st lm hs) ∧ va_S A s.heap H locs ∧ lv_has ls 3 [(0, .ref (ad 0)), (1, .int a1), (2, .int a2)]) ?_ (fun join9 => ?_)
        · rintro y7 h H locs ls ⟨hP, hD, hS, hl⟩
          have hP : va_P G.1 vwCl (wM G ad nw ps er us un od li st lm hs) H := hP
          have hD : va_D A (wM G ad nw ps er us un od li st lm hs) := hD
          have hl : lv_has ls 3 [(0, .ref (ad 0)), (1, .int a1), (2, .int a2)] := hl
          have h := hJ19 y7 h
          refine W.eq (g2 := F0 m 32 ls (.int y7 :: [])) rfl ?_
          refine lv_iload_n hx hb dX6_fits_32 rfl (lv_at hl 2 rfl) ?_
          refine lv_bipush (v := (nI 6)) hx hb dX6_fits_33 (by decide) ?_
          obtain ⟨J12, hJ18, h⟩ := h
          refine joinW (σ := Int32) (J := fun q => J12 q) (pc := 43) (st := fun q => .int q :: .int y7 :: []) (P := fun q H locs ls => va_P G.1 vwCl (wM G ad nw ps er us un od li st lm hs) H ∧ va_D A (wM G ad nw ps er us un od li st lm hs) ∧ va_S A s.heap H locs ∧ lv_has ls 3 [(0, .ref (ad 0)), (1, .int a1), (2, .int a2)]) ?_ (fun join13 => ?_)
          · rintro y11 h H locs ls ⟨hP, hD, hS, hl⟩
            have hP : va_P G.1 vwCl (wM G ad nw ps er us un od li st lm hs) H := hP
            have hD : va_D A (wM G ad nw ps er us un od li st lm hs) := hD
            have hl : lv_has ls 3 [(0, .ref (ad 0)), (1, .int a1), (2, .int a2)] := hl
            have h := hJ18 y11 h
            refine W.eq (g2 := F0 m 43 ls (.int y11 :: .int y7 :: [])) rfl ?_
            refine lv_icmp_ne (tgt := 66) hx hb dX6_fits_43 (by decide) (fun c_14 => ?_) (fun c_14 => ?_)
            · have h := h.1 c_14
              refine lv_iconst (v := (0 : Int32)) hx hb dX6_fits_66 (by decide) ?_
              exact W.zret hx hb hr (by decide) (fun t ht hW => ⟨⟨_, (), rfl, h, by rw [ht]; exact hP, hD⟩, hS.F ht⟩) hS.2.2 dX6_fits_67
            · have h := h.2 c_14
              refine lv_aload_n hx hb dX6_fits_46 rfl (lv_at hl 0 rfl) ?_
              refine va_get (D := G.1) (ci := 6) (v := .ref (ad 4)) (C := RX6) (T := TX6) (N := 10) hx hb hts hinX6 hown hK.1 hP 0 rfl rfl 4 (by decide) (hts (.fieldLink RX6 19 "PlaFolderModel" "used" "[I") (by decide +kernel)) (fun _ h9 => h9) rfl dX6_fits_47 ?_
              refine lv_iload_n hx hb dX6_fits_50 rfl (lv_at hl 1 rfl) ?_
              obtain ⟨hi15, h⟩ := h
              refine x_iald hx hb hK hP 4 rfl hi15 rfl dX6_fits_51 ?_
              refine lv_aload_n hx hb dX6_fits_52 rfl (lv_at hl 0 rfl) ?_
              refine va_get (D := G.1) (ci := 6) (v := .ref (ad 4)) (C := RX6) (T := TX6) (N := 10) hx hb hts hinX6 hown hK.1 hP 0 rfl rfl 4 (by decide) (hts (.fieldLink RX6 19 "PlaFolderModel" "used" "[I") (by decide +kernel)) (fun _ h9 => h9) rfl dX6_fits_53 ?_
              refine lv_iload_n hx hb dX6_fits_56 rfl (lv_at hl 2 rfl) ?_
              obtain ⟨hi16, h⟩ := h
              refine x_iald hx hb hK hP 4 rfl hi16 rfl dX6_fits_57 ?_
              refine lv_iand hx hb dX6_fits_58 ?_
              refine lv_if_ne (tgt := 66) hx hb dX6_fits_59 (by decide) (fun c_17 => ?_) (fun c_17 => ?_)
              · have h := h.1 c_17
                refine lv_iconst (v := (0 : Int32)) hx hb dX6_fits_66 (by decide) ?_
                exact W.zret hx hb hr (by decide) (fun t ht hW => ⟨⟨_, (), rfl, h, by rw [ht]; exact hP, hD⟩, hS.F ht⟩) hS.2.2 dX6_fits_67
              · have h := h.2 c_17
                refine lv_iconst (v := (1 : Int32)) hx hb dX6_fits_62 (by decide) ?_
                refine lv_goto (tgt := 67) hx hb dX6_fits_63 (by decide) ?_
                exact W.zret hx hb hr (by decide) (fun t ht hW => ⟨⟨_, (), rfl, h, by rw [ht]; exact hP, hD⟩, hS.F ht⟩) hS.2.2 dX6_fits_67
          · refine lv_icmp_ge (tgt := 42) hx hb dX6_fits_35 (by decide) (fun c_10 => ?_) (fun c_10 => ?_)
            · have h := h.1 c_10
              refine lv_iconst (v := (0 : Int32)) hx hb dX6_fits_42 (by decide) ?_
              exact join13 (0 : Int32) h _ _ _ ⟨hP, hD, hS, lv_sub hl [0, 1, 2] rfl⟩
            · have h := h.2 c_10
              refine lv_iconst (v := (1 : Int32)) hx hb dX6_fits_38 (by decide) ?_
              refine lv_goto (tgt := 43) hx hb dX6_fits_39 (by decide) ?_
              exact join13 (1 : Int32) h _ _ _ ⟨hP, hD, hS, lv_sub hl [0, 1, 2] rfl⟩
        · refine lv_icmp_ge (tgt := 31) hx hb dX6_fits_24 (by decide) (fun c_6 => ?_) (fun c_6 => ?_)
          · have h := h.1 c_6
            refine lv_iconst (v := (0 : Int32)) hx hb dX6_fits_31 (by decide) ?_
            exact join9 (0 : Int32) h _ _ _ ⟨hP, hD, hS, lv_sub hl [0, 1, 2] rfl⟩
          · have h := h.2 c_6
            refine lv_iconst (v := (1 : Int32)) hx hb dX6_fits_27 (by decide) ?_
            refine lv_goto (tgt := 32) hx hb dX6_fits_28 (by decide) ?_
            exact join9 (1 : Int32) h _ _ _ ⟨hP, hD, hS, lv_sub hl [0, 1, 2] rfl⟩
def wp_X6_canFold (a1 : Int32) (a2 : Int32) (nw : Nat → Int32) (er : Nat → Int32) (us : Nat → Int32) (K : Int32 → (Nat → Int32) → (Nat → Int32) → Prop) : Prop :=
 wp_X6_isColumn a1 nw (fun (r1 : Int32) => ((r1 = 0 → wp_X6_error (-2 : Int32) er (fun (r3 : Int32) (u4 : Nat → Int32) => K r3 u4 us)) ∧
 (¬ (r1 = 0) → wp_X6_isColumn a2 nw (fun (r6 : Int32) => ((¬ r6 = 0 → wp_X6_layUsed nw us (fun (u9 : Nat → Int32) => wp_X6_fits a1 a2 nw u9 (fun (r10 : Int32) => ((r10 = 0 → K (0 : Int32) er u9) ∧
 (¬ (r10 = 0) → K (1 : Int32) er u9))))) ∧
 (r6 = 0 → wp_X6_error (-2 : Int32) er (fun (r14 : Int32) (u15 : Nat → Int32) => K r14 u15 us)))))))
abbrev rm_X6_canFold : Room := { frames := 3, cells := 0, slots := 0, locals := 66 }
set_option maxHeartbeats 4000000 in
set_option maxRecDepth 100000 in
theorem c_X6_canFold (l : Launch) (G : GG) (ad : Nat → Nat) (sz : Nat) (nw : Nat → Int32) (ps : Nat → Int32) (er : Nat → Int32) (us : Nat → Int32) (un : Nat → Int32) (od : Nat → Int32) (li : Nat → Int32) (st : Int32) (lm : Int32) (hs : Int64) (a1 : Int32) (a2 : Int32) {K : Int32 → (Nat → Int32) → (Nat → Int32) → Prop} (h : wp_X6_canFold a1 a2 nw er us K) : CI l yX6_canFold wsX6_canFold rm_X6_canFold G [.ref (ad 0), .int a1, .int a2] (wM G ad nw ps er us un od li st lm hs) sz (fun u : (Nat → Int32) × (Nat → Int32) => wM G ad nw ps u.1 u.2 un od li st lm hs) (fun r u => K r u.1 u.2) := by
  refine Met.ofW (cc := cX6_canFold) (maxL := 3) (ret := (some .int)) (by decide) rfl ?_
  intro p e s m args below meth c s₁ B hml hv
  obtain ⟨rfl, hsz, hP, hK, hD0, hZ⟩ := hv
  have hx := B.exec
  have hb := B.bytes
  have hr := B.returns
  have hts := atoms_spec (ws := wsX6_canFold) B.pre
  have hown : s.vm.findClass RX6 = some m.cls := findClass_of_methodNamed B.named
  have hlocks := B.notSynchronized
  subst hsz
  have hD := hD0.self (sz := s.heap.size)
  generalize hAe : va_A (wM G ad nw ps er us un od li st lm hs) s.heap.size = A at hD hZ ⊢
  have hA : ∀ q : Nat, s.heap.size ≤ q → A q := fun q h => by rw [← hAe]; exact Or.inr h
  have hS : va_S A s.heap s.heap [] := va_S.rf
  have hl := lv_entry ([.ref (ad 0), .int a1, .int a2]) (n := 3) (Nat.le_of_ble_eq_true rfl)
  rw [lg_entry_eq]
  generalize (lg_sl ([.ref (ad 0), .int a1, .int a2]) ++ List.replicate (3 - (lg_sl ([.ref (ad 0), .int a1, .int a2])).length) Slot.unset).toArray = ls at hl ⊢
  have hl : lv_has ls 3 [(0, .ref (ad 0)), (1, .int a1), (2, .int a2)] := hl
  unfold wp_X6_canFold at h
  refine lv_aload_n hx hb dX6_canFold_0 rfl (lv_at hl 0 rfl) ?_
  refine lv_iload_n hx hb dX6_canFold_1 rfl (lv_at hl 1 rfl) ?_
  refine kc_i (wr := ([] : va_W)) (va_runV (As := [.int a1]) (rest := []) ⟨hx, hb, hml, hown, hts⟩ (c_X6_isColumn l G ad _ nw ps er us un od li st lm hs a1 h) (cwV 1 hts gX6_canFold_X6_isColumn rfl rfl rfl (by decide +kernel) ⟨Nat.le_of_ble_eq_true rfl, Nat.le_of_ble_eq_true rfl⟩) (kpV hK hP hD hZ hS hA [0, 1, 2, 3, 4, 5, 6, 7] rfl (by decide) (q0 := 0) (ci := 6) rfl rfl) rfl rfl hl.1 rfl (lv_room (Nat.le_of_ble_eq_true rfl)) dX6_canFold_2 ⟨Nat.zero_le _, Nat.zero_le _⟩) hP hD hS hA [0, 1, 2, 3, 4, 5, 6, 7] [] rfl rfl (by decide) (by decide) (fun r1 w18 H locs h hP hD hS => ?_)
  have hP : va_P G.1 vwCl (wM G ad nw ps er us un od li st lm hs) H := hP
  have hD : va_D A (wM G ad nw ps er us un od li st lm hs) := hD
  try dsimp only at h
  refine lv_if_eq (tgt := 16) hx hb dX6_canFold_5 (by decide) (fun c_2 => ?_) (fun c_2 => ?_)
  · have h := h.1 c_2
    refine lv_aload_n hx hb dX6_canFold_16 rfl (lv_at hl 0 rfl) ?_
    refine lv_bipush (v := (-2 : Int32)) hx hb dX6_canFold_17 (by decide) ?_
    refine kc_i (wr := ([] : va_W)) (va_runV (As := [.int (-2 : Int32)]) (rest := []) ⟨hx, hb, hml, hown, hts⟩ (c_X6_error l G ad _ nw ps er us un od li st lm hs (-2 : Int32) h) (cwV 1 hts gX6_canFold_X6_error rfl rfl rfl (by decide +kernel) ⟨Nat.le_of_ble_eq_true rfl, Nat.le_of_ble_eq_true rfl⟩) (kpV hK hP hD hZ hS hA [0, 1, 2, 3, 4, 5, 6, 7] rfl (by decide) (q0 := 0) (ci := 6) rfl rfl) rfl rfl hl.1 rfl (lv_room (Nat.le_of_ble_eq_true rfl)) dX6_canFold_19 ⟨Nat.zero_le _, Nat.zero_le _⟩) hP hD hS hA [0, 1, 2, 3, 4, 5, 6, 7] [] rfl rfl (by decide) (by decide) (fun r3 w5 H locs h hP hD hS => ?_)
    obtain ⟨u4, rfl⟩ : ∃ z, z = w5 := ⟨_, rfl⟩
    have hP : va_P G.1 vwCl (wM G ad nw ps u4 us un od li st lm hs) H := hP
    have hD : va_D A (wM G ad nw ps u4 us un od li st lm hs) := hD
    try dsimp only at h
    exact W.iret hx hb hr (fun t ht hW => ⟨⟨_, (u4, us), rfl, h, by rw [ht]; exact hP, hD⟩, hS.F ht⟩) hS.2.2 dX6_canFold_22
  · have h := h.2 c_2
    refine lv_aload_n hx hb dX6_canFold_8 rfl (lv_at hl 0 rfl) ?_
    refine lv_iload_n hx hb dX6_canFold_9 rfl (lv_at hl 2 rfl) ?_
    refine kc_i (wr := ([] : va_W)) (va_runV (As := [.int a2]) (rest := []) ⟨hx, hb, hml, hown, hts⟩ (c_X6_isColumn l G ad _ nw ps er us un od li st lm hs a2 h) (cwV 1 hts gX6_canFold_X6_isColumn rfl rfl rfl (by decide +kernel) ⟨Nat.le_of_ble_eq_true rfl, Nat.le_of_ble_eq_true rfl⟩) (kpV hK hP hD hZ hS hA [0, 1, 2, 3, 4, 5, 6, 7] rfl (by decide) (q0 := 0) (ci := 6) rfl rfl) rfl rfl hl.1 rfl (lv_room (Nat.le_of_ble_eq_true rfl)) dX6_canFold_10 ⟨Nat.zero_le _, Nat.zero_le _⟩) hP hD hS hA [0, 1, 2, 3, 4, 5, 6, 7] [] rfl rfl (by decide) (by decide) (fun r6 w17 H locs h hP hD hS => ?_)
    have hP : va_P G.1 vwCl (wM G ad nw ps er us un od li st lm hs) H := hP
    have hD : va_D A (wM G ad nw ps er us un od li st lm hs) := hD
    try dsimp only at h
    refine lv_if_ne (tgt := 23) hx hb dX6_canFold_13 (by decide) (fun c_7 => ?_) (fun c_7 => ?_)
    · have h := h.1 c_7
      refine lv_aload_n hx hb dX6_canFold_23 rfl (lv_at hl 0 rfl) ?_
      refine kc_v (wr := ([] : va_W)) (va_runV (As := []) (rest := []) ⟨hx, hb, hml, hown, hts⟩ (c_X6_layUsed l G ad _ nw ps er us un od li st lm hs  h) (cwV 0 hts gX6_canFold_X6_layUsed rfl rfl rfl (by decide +kernel) ⟨Nat.le_of_ble_eq_true rfl, Nat.le_of_ble_eq_true rfl⟩) (kpV hK hP hD hZ hS hA [0, 1, 2, 3, 4, 5, 6, 7] rfl (by decide) (q0 := 0) (ci := 6) rfl rfl) rfl rfl hl.1 rfl (lv_room (Nat.le_of_ble_eq_true rfl)) dX6_canFold_24 ⟨Nat.zero_le _, Nat.zero_le _⟩) hP hD hS hA [0, 1, 2, 3, 4, 5, 6, 7] [] rfl rfl (by decide) (by decide) (fun w13 H locs h hP hD hS => ?_)
      obtain ⟨u9, rfl⟩ : ∃ z, z = w13 := ⟨_, rfl⟩
      have hP : va_P G.1 vwCl (wM G ad nw ps er u9 un od li st lm hs) H := hP
      have hD : va_D A (wM G ad nw ps er u9 un od li st lm hs) := hD
      try dsimp only at h
      refine lv_aload_n hx hb dX6_canFold_27 rfl (lv_at hl 0 rfl) ?_
      refine lv_iload_n hx hb dX6_canFold_28 rfl (lv_at hl 1 rfl) ?_
      refine lv_iload_n hx hb dX6_canFold_29 rfl (lv_at hl 2 rfl) ?_
      refine kc_i (wr := ([] : va_W)) (va_runV (As := [.int a1, .int a2]) (rest := []) ⟨hx, hb, hml, hown, hts⟩ (c_X6_fits l G ad _ nw ps er u9 un od li st lm hs a1 a2 h) (cwV 2 hts gX6_canFold_X6_fits rfl rfl rfl (by decide +kernel) ⟨Nat.le_of_ble_eq_true rfl, Nat.le_of_ble_eq_true rfl⟩) (kpV hK hP hD hZ hS hA [0, 1, 2, 3, 4, 5, 6, 7] rfl (by decide) (q0 := 0) (ci := 6) rfl rfl) rfl rfl hl.1 rfl (lv_room (Nat.le_of_ble_eq_true rfl)) dX6_canFold_30 ⟨Nat.zero_le _, Nat.zero_le _⟩) hP hD hS hA [0, 1, 2, 3, 4, 5, 6, 7] [] rfl rfl (by decide) (by decide) (fun r10 w12 H locs h hP hD hS => ?_)
      have hP : va_P G.1 vwCl (wM G ad nw ps er u9 un od li st lm hs) H := hP
      have hD : va_D A (wM G ad nw ps er u9 un od li st lm hs) := hD
      try dsimp only at h
      refine lv_if_eq (tgt := 40) hx hb dX6_canFold_33 (by decide) (fun c_11 => ?_) (fun c_11 => ?_)
      · have h := h.1 c_11
        refine lv_iconst (v := (0 : Int32)) hx hb dX6_canFold_40 (by decide) ?_
        exact W.iret hx hb hr (fun t ht hW => ⟨⟨_, (er, u9), rfl, h, by rw [ht]; exact hP, hD⟩, hS.F ht⟩) hS.2.2 dX6_canFold_41
      · have h := h.2 c_11
        refine lv_iconst (v := (1 : Int32)) hx hb dX6_canFold_36 (by decide) ?_
        refine lv_goto (tgt := 41) hx hb dX6_canFold_37 (by decide) ?_
        exact W.iret hx hb hr (fun t ht hW => ⟨⟨_, (er, u9), rfl, h, by rw [ht]; exact hP, hD⟩, hS.F ht⟩) hS.2.2 dX6_canFold_41
    · have h := h.2 c_7
      refine lv_aload_n hx hb dX6_canFold_16 rfl (lv_at hl 0 rfl) ?_
      refine lv_bipush (v := (-2 : Int32)) hx hb dX6_canFold_17 (by decide) ?_
      refine kc_i (wr := ([] : va_W)) (va_runV (As := [.int (-2 : Int32)]) (rest := []) ⟨hx, hb, hml, hown, hts⟩ (c_X6_error l G ad _ nw ps er us un od li st lm hs (-2 : Int32) h) (cwV 1 hts gX6_canFold_X6_error rfl rfl rfl (by decide +kernel) ⟨Nat.le_of_ble_eq_true rfl, Nat.le_of_ble_eq_true rfl⟩) (kpV hK hP hD hZ hS hA [0, 1, 2, 3, 4, 5, 6, 7] rfl (by decide) (q0 := 0) (ci := 6) rfl rfl) rfl rfl hl.1 rfl (lv_room (Nat.le_of_ble_eq_true rfl)) dX6_canFold_19 ⟨Nat.zero_le _, Nat.zero_le _⟩) hP hD hS hA [0, 1, 2, 3, 4, 5, 6, 7] [] rfl rfl (by decide) (by decide) (fun r14 w16 H locs h hP hD hS => ?_)
      obtain ⟨u15, rfl⟩ : ∃ z, z = w16 := ⟨_, rfl⟩
      have hP : va_P G.1 vwCl (wM G ad nw ps u15 us un od li st lm hs) H := hP
      have hD : va_D A (wM G ad nw ps u15 us un od li st lm hs) := hD
      try dsimp only at h
      exact W.iret hx hb hr (fun t ht hW => ⟨⟨_, (u15, us), rfl, h, by rw [ht]; exact hP, hD⟩, hS.F ht⟩) hS.2.2 dX6_canFold_22
def wp_X6_noDemands (un : Nat → Int32) (K : (Nat → Int32) → Prop) : Prop :=
 (Lp2 (0 : Int32) un (fun (x1 : Int32) (z2 : Nat → Int32) (J6 : Int32 → (Nat → Int32) → Prop) => (((nI 10) ≤ x1 → K z2) ∧
 (¬ ((nI 10) ≤ x1) → (vp_in x1 10 ∧ J6 (x1 + (1 : Int32)) (upd z2 x1.toNatClampNeg (0 : Int32)))))))
abbrev rm_X6_noDemands : Room := { frames := 0, cells := 0, slots := 0, locals := 0 }
set_option maxHeartbeats 4000000 in
set_option maxRecDepth 100000 in
theorem c_X6_noDemands (l : Launch) (G : GG) (ad : Nat → Nat) (sz : Nat) (nw : Nat → Int32) (ps : Nat → Int32) (er : Nat → Int32) (us : Nat → Int32) (un : Nat → Int32) (od : Nat → Int32) (li : Nat → Int32) (st : Int32) (lm : Int32) (hs : Int64) {K : (Nat → Int32) → Prop} (h : wp_X6_noDemands un K) : CV l yX6_noDemands wsX6_noDemands rm_X6_noDemands G [.ref (ad 0)] (wM G ad nw ps er us un od li st lm hs) sz (fun u : (Nat → Int32) => wM G ad nw ps er us u od li st lm hs) (fun u => K u) := by
  refine Met.ofW (cc := cX6_noDemands) (maxL := 2) (ret := none) (by decide) rfl ?_
  intro p e s m args below meth c s₁ B hml hv
  obtain ⟨rfl, hsz, hP, hK, hD0, hZ⟩ := hv
  have hx := B.exec
  have hb := B.bytes
  have hr := B.returns
  have hts := atoms_spec (ws := wsX6_noDemands) B.pre
  have hown : s.vm.findClass RX6 = some m.cls := findClass_of_methodNamed B.named
  have hlocks := B.notSynchronized
  subst hsz
  have hD := hD0.self (sz := s.heap.size)
  generalize hAe : va_A (wM G ad nw ps er us un od li st lm hs) s.heap.size = A at hD hZ ⊢
  have hA : ∀ q : Nat, s.heap.size ≤ q → A q := fun q h => by rw [← hAe]; exact Or.inr h
  have hS : va_S A s.heap s.heap [] := va_S.rf
  have hl := lv_entry ([.ref (ad 0)]) (n := 2) (Nat.le_of_ble_eq_true rfl)
  rw [lg_entry_eq]
  generalize (lg_sl ([.ref (ad 0)]) ++ List.replicate (2 - (lg_sl ([.ref (ad 0)])).length) Slot.unset).toArray = ls at hl ⊢
  have hl : lv_has ls 2 [(0, .ref (ad 0))] := hl
  unfold wp_X6_noDemands at h
  have hinX6 : ∀ w ∈ wsX60, w ∈ wsX6_noDemands := by decide +kernel
  refine lv_iconst (v := (0 : Int32)) hx hb dX6_noDemands_0 (by decide) ?_
  refine lv_istore_n (lv' := [(1, .int (0 : Int32)), (0, .ref (ad 0))]) hx hb dX6_noDemands_1 rfl hl (by decide) rfl (fun ls hl => ?_)
  obtain ⟨I3, n4, h0, hst5⟩ := h
  refine loopW (σ := Int32 × (Nat → Int32)) (P := fun q H locs ls => va_P G.1 vwCl (wM G ad nw ps er us q.2 od li st lm hs) H ∧ va_D A (wM G ad nw ps er us q.2 od li st lm hs) ∧ va_S A s.heap H locs ∧ lv_has ls 2 [(0, .ref (ad 0)), (1, .int q.1)]) (I := fun n q => I3 n q.1 q.2) n4 ((0 : Int32), un) h0 _ _ _ ⟨hP, hD, hS, lv_sub hl [1, 0] rfl⟩ ?_
  rintro n8 ⟨x1, z2⟩ hI ih7 H locs ls ⟨hP, hD, hS, hl⟩
  have hP : va_P G.1 vwCl (wM G ad nw ps er us z2 od li st lm hs) H := hP
  have hD : va_D A (wM G ad nw ps er us z2 od li st lm hs) := hD
  have hl : lv_has ls 2 [(0, .ref (ad 0)), (1, .int x1)] := hl
  have h := hst5 n8 x1 z2 hI
  refine lv_iload_n hx hb dX6_noDemands_2 rfl (lv_at hl 1 rfl) ?_
  refine lv_bipush (v := (nI 10)) hx hb dX6_noDemands_3 (by decide) ?_
  refine lv_icmp_ge (tgt := 21) hx hb dX6_noDemands_5 (by decide) (fun c_9 => ?_) (fun c_9 => ?_)
  · have h := h.1 c_9
    exact W.vret hx hb hr (fun t ht hW => ⟨⟨z2, rfl, h, by rw [ht]; exact hP, hD⟩, hS.F ht⟩) hS.2.2 dX6_noDemands_21
  · have h := h.2 c_9
    refine lv_aload_n hx hb dX6_noDemands_8 rfl (lv_at hl 0 rfl) ?_
    refine va_get (D := G.1) (ci := 6) (v := .ref (ad 5)) (C := RX6) (T := TX6) (N := 10) hx hb hts hinX6 hown hK.1 hP 0 rfl rfl 5 (by decide) (hts (.fieldLink RX6 22 "PlaFolderModel" "under" "[I") (by decide +kernel)) (fun _ h9 => h9) rfl dX6_noDemands_9 ?_
    refine lv_iload_n hx hb dX6_noDemands_12 rfl (lv_at hl 1 rfl) ?_
    refine lv_iconst (v := (0 : Int32)) hx hb dX6_noDemands_13 (by decide) ?_
    obtain ⟨hi10, h⟩ := h
    refine x_iast hx hb hK hP hD hS 5 rfl hi10 rfl dX6_noDemands_14 (fun H locs hP hD hS => ?_)
    have hP : va_P G.1 vwCl (wM G ad nw ps er us (upd z2 x1.toNatClampNeg (0 : Int32)) od li st lm hs) H := hP
    have hD : va_D A (wM G ad nw ps er us (upd z2 x1.toNatClampNeg (0 : Int32)) od li st lm hs) := hD
    refine lv_iinc (v := (x1 + (1 : Int32))) (lv' := [(1, .int (x1 + (1 : Int32))), (0, .ref (ad 0))]) hx hb dX6_noDemands_15 hl (k := 1) rfl rfl (by decide) rfl (fun ls hl => ?_)
    refine lv_goto (tgt := 2) hx hb dX6_noDemands_18 (by decide) ?_
    obtain ⟨n12, hn11, hI13⟩ := h
    exact ih7 n12 ((x1 + (1 : Int32)), (upd z2 x1.toNatClampNeg (0 : Int32))) hn11 hI13 _ _ _ ⟨hP, hD, hS, lv_sub hl [1, 0] rfl⟩
def wp_X6_demand (a1 : Int32) (a2 : Int32) (us : Nat → Int32) (un : Nat → Int32) (K : (Nat → Int32) → Prop) : Prop :=
 (Lp2 (0 : Int32) un (fun (x1 : Int32) (z2 : Nat → Int32) (J6 : Int32 → (Nat → Int32) → Prop) => (((nI 10) ≤ x1 → K z2) ∧
 (¬ ((nI 10) ≤ x1) → (vp_in x1 10 ∧ (vp_in a1 10 ∧ wp_X6_has (us a1.toNatClampNeg) x1 (fun (r12 : Int32) => (Jn1 (fun (y14 : Int32) => (vp_in x1 10 ∧ J6 (x1 + (1 : Int32)) (upd z2 x1.toNatClampNeg ((z2 x1.toNatClampNeg) ||| y14))))
 (fun (J15 : Int32 → Prop) => ((r12 = 0 → J15 (0 : Int32)) ∧
 (¬ (r12 = 0) → (vp_in a2 10 ∧ J15 (us a2.toNatClampNeg)))))))))))))
abbrev rm_X6_demand : Room := { frames := 1, cells := 0, slots := 0, locals := 21 }
set_option maxHeartbeats 4000000 in
set_option maxRecDepth 100000 in
theorem c_X6_demand (l : Launch) (G : GG) (ad : Nat → Nat) (sz : Nat) (nw : Nat → Int32) (ps : Nat → Int32) (er : Nat → Int32) (us : Nat → Int32) (un : Nat → Int32) (od : Nat → Int32) (li : Nat → Int32) (st : Int32) (lm : Int32) (hs : Int64) (a1 : Int32) (a2 : Int32) {K : (Nat → Int32) → Prop} (h : wp_X6_demand a1 a2 us un K) : CV l yX6_demand wsX6_demand rm_X6_demand G [.ref (ad 0), .int a1, .int a2] (wM G ad nw ps er us un od li st lm hs) sz (fun u : (Nat → Int32) => wM G ad nw ps er us u od li st lm hs) (fun u => K u) := by
  refine Met.ofW (cc := cX6_demand) (maxL := 4) (ret := none) (by decide) rfl ?_
  intro p e s m args below meth c s₁ B hml hv
  obtain ⟨rfl, hsz, hP, hK, hD0, hZ⟩ := hv
  have hx := B.exec
  have hb := B.bytes
  have hr := B.returns
  have hts := atoms_spec (ws := wsX6_demand) B.pre
  have hown : s.vm.findClass RX6 = some m.cls := findClass_of_methodNamed B.named
  have hlocks := B.notSynchronized
  subst hsz
  have hD := hD0.self (sz := s.heap.size)
  generalize hAe : va_A (wM G ad nw ps er us un od li st lm hs) s.heap.size = A at hD hZ ⊢
  have hA : ∀ q : Nat, s.heap.size ≤ q → A q := fun q h => by rw [← hAe]; exact Or.inr h
  have hS : va_S A s.heap s.heap [] := va_S.rf
  have hl := lv_entry ([.ref (ad 0), .int a1, .int a2]) (n := 4) (Nat.le_of_ble_eq_true rfl)
  rw [lg_entry_eq]
  generalize (lg_sl ([.ref (ad 0), .int a1, .int a2]) ++ List.replicate (4 - (lg_sl ([.ref (ad 0), .int a1, .int a2])).length) Slot.unset).toArray = ls at hl ⊢
  have hl : lv_has ls 4 [(0, .ref (ad 0)), (1, .int a1), (2, .int a2)] := hl
  unfold wp_X6_demand at h
  have hinX6 : ∀ w ∈ wsX60, w ∈ wsX6_demand := by decide +kernel
  refine lv_iconst (v := (0 : Int32)) hx hb dX6_demand_0 (by decide) ?_
  refine lv_istore_n (lv' := [(3, .int (0 : Int32)), (0, .ref (ad 0)), (1, .int a1), (2, .int a2)]) hx hb dX6_demand_1 rfl hl (by decide) rfl (fun ls hl => ?_)
  obtain ⟨I3, n4, h0, hst5⟩ := h
  refine loopW (σ := Int32 × (Nat → Int32)) (P := fun q H locs ls => va_P G.1 vwCl (wM G ad nw ps er us q.2 od li st lm hs) H ∧ va_D A (wM G ad nw ps er us q.2 od li st lm hs) ∧ va_S A s.heap H locs ∧ lv_has ls 4 [(0, .ref (ad 0)), (1, .int a1), (2, .int a2), (3, .int q.1)]) (I := fun n q => I3 n q.1 q.2) n4 ((0 : Int32), un) h0 _ _ _ ⟨hP, hD, hS, lv_sub hl [1, 2, 3, 0] rfl⟩ ?_
  rintro n8 ⟨x1, z2⟩ hI ih7 H locs ls ⟨hP, hD, hS, hl⟩
  have hP : va_P G.1 vwCl (wM G ad nw ps er us z2 od li st lm hs) H := hP
  have hD : va_D A (wM G ad nw ps er us z2 od li st lm hs) := hD
  have hl : lv_has ls 4 [(0, .ref (ad 0)), (1, .int a1), (2, .int a2), (3, .int x1)] := hl
  have h := hst5 n8 x1 z2 hI
  refine lv_iload_n hx hb dX6_demand_2 rfl (lv_at hl 3 rfl) ?_
  refine lv_bipush (v := (nI 10)) hx hb dX6_demand_3 (by decide) ?_
  refine lv_icmp_ge (tgt := 46) hx hb dX6_demand_5 (by decide) (fun c_9 => ?_) (fun c_9 => ?_)
  · have h := h.1 c_9
    exact W.vret hx hb hr (fun t ht hW => ⟨⟨z2, rfl, h, by rw [ht]; exact hP, hD⟩, hS.F ht⟩) hS.2.2 dX6_demand_46
  · have h := h.2 c_9
    refine lv_aload_n hx hb dX6_demand_8 rfl (lv_at hl 0 rfl) ?_
    refine va_get (D := G.1) (ci := 6) (v := .ref (ad 5)) (C := RX6) (T := TX6) (N := 10) hx hb hts hinX6 hown hK.1 hP 0 rfl rfl 5 (by decide) (hts (.fieldLink RX6 22 "PlaFolderModel" "under" "[I") (by decide +kernel)) (fun _ h9 => h9) rfl dX6_demand_9 ?_
    refine lv_iload_n hx hb dX6_demand_12 rfl (lv_at hl 3 rfl) ?_
    refine lv_dup2_11 hx hb dX6_demand_13 rfl rfl ?_
    obtain ⟨hi10, h⟩ := h
    refine x_iald hx hb hK hP 5 rfl hi10 rfl dX6_demand_14 ?_
    refine lv_aload_n hx hb dX6_demand_15 rfl (lv_at hl 0 rfl) ?_
    refine va_get (D := G.1) (ci := 6) (v := .ref (ad 4)) (C := RX6) (T := TX6) (N := 10) hx hb hts hinX6 hown hK.1 hP 0 rfl rfl 4 (by decide) (hts (.fieldLink RX6 19 "PlaFolderModel" "used" "[I") (by decide +kernel)) (fun _ h9 => h9) rfl dX6_demand_16 ?_
    refine lv_iload_n hx hb dX6_demand_19 rfl (lv_at hl 1 rfl) ?_
    obtain ⟨hi11, h⟩ := h
    refine x_iald hx hb hK hP 4 rfl hi11 rfl dX6_demand_20 ?_
    refine lv_iload_n hx hb dX6_demand_21 rfl (lv_at hl 3 rfl) ?_
    refine kc_i (wr := ([0, 1, 2, 3, 4, 5, 6, 7] : List Nat).filterMap (fun i => (wM G ad nw ps er us z2 od li st lm hs)[i]?)) (va_runS (As := [.int (us a1.toNatClampNeg), .int x1]) (rest := [.int (z2 x1.toNatClampNeg), .int x1, .ref (ad 5)]) ⟨hx, hb, hml, hown, hts⟩ (c_X6_has l G  _  (us a1.toNatClampNeg) x1 h) (va_cwS 2 hts gX6_demand_X6_has rfl rfl rfl (by decide +kernel) ⟨Nat.le_of_ble_eq_true rfl, Nat.le_of_ble_eq_true rfl⟩) (kpS hK hP hD hZ hS hA [] rfl (by decide)) rfl rfl hl.1 rfl (lv_room (Nat.le_of_ble_eq_true rfl)) dX6_demand_22 ⟨Nat.zero_le _, Nat.zero_le _⟩) hP hD hS hA [] [0, 1, 2, 3, 4, 5, 6, 7] rfl rfl (by decide) (by decide) (fun r12 w23 H locs h hP hD hS => ?_)
    have hP : va_P G.1 vwCl (wM G ad nw ps er us z2 od li st lm hs) H := hP
    have hD : va_D A (wM G ad nw ps er us z2 od li st lm hs) := hD
    try dsimp only at h
    obtain ⟨J15, hJ22, h⟩ := h
    refine joinW (σ := Int32) (J := fun q => J15 q) (pc := 38) (st := fun q => .int q :: .int (z2 x1.toNatClampNeg) :: .int x1 :: .ref (ad 5) :: []) (P := fun q H locs ls => va_P G.1 vwCl (wM G ad nw ps er us z2 od li st lm hs) H ∧ va_D A (wM G ad nw ps er us z2 od li st lm hs) ∧ va_S A s.heap H locs ∧ lv_has ls 4 [(0, .ref (ad 0)), (1, .int a1), (2, .int a2), (3, .int x1)]) ?_ (fun join16 => ?_)
    · rintro y14 h H locs ls ⟨hP, hD, hS, hl⟩
      have hP : va_P G.1 vwCl (wM G ad nw ps er us z2 od li st lm hs) H := hP
      have hD : va_D A (wM G ad nw ps er us z2 od li st lm hs) := hD
      have hl : lv_has ls 4 [(0, .ref (ad 0)), (1, .int a1), (2, .int a2), (3, .int x1)] := hl
      have h := hJ22 y14 h
      refine W.eq (g2 := F0 m 38 ls (.int y14 :: .int (z2 x1.toNatClampNeg) :: .int x1 :: .ref (ad 5) :: [])) rfl ?_
      refine lv_ior hx hb dX6_demand_38 ?_
      obtain ⟨hi17, h⟩ := h
      refine x_iast hx hb hK hP hD hS 5 rfl hi17 rfl dX6_demand_39 (fun H locs hP hD hS => ?_)
      have hP : va_P G.1 vwCl (wM G ad nw ps er us (upd z2 x1.toNatClampNeg ((z2 x1.toNatClampNeg) ||| y14)) od li st lm hs) H := hP
      have hD : va_D A (wM G ad nw ps er us (upd z2 x1.toNatClampNeg ((z2 x1.toNatClampNeg) ||| y14)) od li st lm hs) := hD
      refine lv_iinc (v := (x1 + (1 : Int32))) (lv' := [(3, .int (x1 + (1 : Int32))), (0, .ref (ad 0)), (1, .int a1), (2, .int a2)]) hx hb dX6_demand_40 hl (k := 3) rfl rfl (by decide) rfl (fun ls hl => ?_)
      refine lv_goto (tgt := 2) hx hb dX6_demand_43 (by decide) ?_
      obtain ⟨n19, hn18, hI20⟩ := h
      exact ih7 n19 ((x1 + (1 : Int32)), (upd z2 x1.toNatClampNeg ((z2 x1.toNatClampNeg) ||| y14))) hn18 hI20 _ _ _ ⟨hP, hD, hS, lv_sub hl [1, 2, 3, 0] rfl⟩
    · refine lv_if_eq (tgt := 37) hx hb dX6_demand_25 (by decide) (fun c_13 => ?_) (fun c_13 => ?_)
      · have h := h.1 c_13
        refine lv_iconst (v := (0 : Int32)) hx hb dX6_demand_37 (by decide) ?_
        exact join16 (0 : Int32) h _ _ _ ⟨hP, hD, hS, lv_sub hl [0, 1, 2, 3] rfl⟩
      · have h := h.2 c_13
        refine lv_aload_n hx hb dX6_demand_28 rfl (lv_at hl 0 rfl) ?_
        refine va_get (D := G.1) (ci := 6) (v := .ref (ad 4)) (C := RX6) (T := TX6) (N := 10) hx hb hts hinX6 hown hK.1 hP 0 rfl rfl 4 (by decide) (hts (.fieldLink RX6 19 "PlaFolderModel" "used" "[I") (by decide +kernel)) (fun _ h9 => h9) rfl dX6_demand_29 ?_
        refine lv_iload_n hx hb dX6_demand_32 rfl (lv_at hl 2 rfl) ?_
        obtain ⟨hi21, h⟩ := h
        refine x_iald hx hb hK hP 4 rfl hi21 rfl dX6_demand_33 ?_
        refine lv_goto (tgt := 38) hx hb dX6_demand_34 (by decide) ?_
        exact join16 (us a2.toNatClampNeg) h _ _ _ ⟨hP, hD, hS, lv_sub hl [0, 1, 2, 3] rfl⟩
def wp_X6_layDemands (nw : Nat → Int32) (us : Nat → Int32) (un : Nat → Int32) (K : (Nat → Int32) → (Nat → Int32) → Prop) : Prop :=
 wp_X6_layUsed nw us (fun (u2 : Nat → Int32) => wp_X6_noDemands un (fun (u4 : Nat → Int32) => (Lp2 (0 : Int32) u4 (fun (x5 : Int32) (z6 : Nat → Int32) (J10 : Int32 → (Nat → Int32) → Prop) => (((nI 10) ≤ x5 → K u2 z6) ∧
 (¬ ((nI 10) ≤ x5) → (vp_in ((nI 43) + x5) 53 ∧ (((nw ((nI 43) + x5).toNatClampNeg) = (-1 : Int32) → J10 (x5 + (1 : Int32)) z6) ∧
 (¬ ((nw ((nI 43) + x5).toNatClampNeg) = (-1 : Int32)) → (vp_in ((nI 43) + x5) 53 ∧ wp_X6_demand x5 (nw ((nI 43) + x5).toNatClampNeg) u2 z6 (fun (u21 : Nat → Int32) => J10 (x5 + (1 : Int32)) u21)))))))))))
abbrev rm_X6_layDemands : Room := { frames := 3, cells := 0, slots := 0, locals := 66 }
set_option maxHeartbeats 4000000 in
set_option maxRecDepth 100000 in
theorem c_X6_layDemands (l : Launch) (G : GG) (ad : Nat → Nat) (sz : Nat) (nw : Nat → Int32) (ps : Nat → Int32) (er : Nat → Int32) (us : Nat → Int32) (un : Nat → Int32) (od : Nat → Int32) (li : Nat → Int32) (st : Int32) (lm : Int32) (hs : Int64) {K : (Nat → Int32) → (Nat → Int32) → Prop} (h : wp_X6_layDemands nw us un K) : CV l yX6_layDemands wsX6_layDemands rm_X6_layDemands G [.ref (ad 0)] (wM G ad nw ps er us un od li st lm hs) sz (fun u : (Nat → Int32) × (Nat → Int32) => wM G ad nw ps er u.1 u.2 od li st lm hs) (fun u => K u.1 u.2) := by
  refine Met.ofW (cc := cX6_layDemands) (maxL := 2) (ret := none) (by decide) rfl ?_
  intro p e s m args below meth c s₁ B hml hv
  obtain ⟨rfl, hsz, hP, hK, hD0, hZ⟩ := hv
  have hx := B.exec
  have hb := B.bytes
  have hr := B.returns
  have hts := atoms_spec (ws := wsX6_layDemands) B.pre
  have hown : s.vm.findClass RX6 = some m.cls := findClass_of_methodNamed B.named
  have hlocks := B.notSynchronized
  subst hsz
  have hD := hD0.self (sz := s.heap.size)
  generalize hAe : va_A (wM G ad nw ps er us un od li st lm hs) s.heap.size = A at hD hZ ⊢
  have hA : ∀ q : Nat, s.heap.size ≤ q → A q := fun q h => by rw [← hAe]; exact Or.inr h
  have hS : va_S A s.heap s.heap [] := va_S.rf
  have hl := lv_entry ([.ref (ad 0)]) (n := 2) (Nat.le_of_ble_eq_true rfl)
  rw [lg_entry_eq]
  generalize (lg_sl ([.ref (ad 0)]) ++ List.replicate (2 - (lg_sl ([.ref (ad 0)])).length) Slot.unset).toArray = ls at hl ⊢
  have hl : lv_has ls 2 [(0, .ref (ad 0))] := hl
  unfold wp_X6_layDemands at h
  have hinX6 : ∀ w ∈ wsX60, w ∈ wsX6_layDemands := by decide +kernel
  refine lv_aload_n hx hb dX6_layDemands_0 rfl (lv_at hl 0 rfl) ?_
  refine kc_v (wr := ([] : va_W)) (va_runV (As := []) (rest := []) ⟨hx, hb, hml, hown, hts⟩ (c_X6_layUsed l G ad _ nw ps er us un od li st lm hs  h) (cwV 0 hts gX6_layDemands_X6_layUsed rfl rfl rfl (by decide +kernel) ⟨Nat.le_of_ble_eq_true rfl, Nat.le_of_ble_eq_true rfl⟩) (kpV hK hP hD hZ hS hA [0, 1, 2, 3, 4, 5, 6, 7] rfl (by decide) (q0 := 0) (ci := 6) rfl rfl) rfl rfl hl.1 rfl (lv_room (Nat.le_of_ble_eq_true rfl)) dX6_layDemands_1 ⟨Nat.zero_le _, Nat.zero_le _⟩) hP hD hS hA [0, 1, 2, 3, 4, 5, 6, 7] [] rfl rfl (by decide) (by decide) (fun w27 H locs h hP hD hS => ?_)
  obtain ⟨u2, rfl⟩ : ∃ z, z = w27 := ⟨_, rfl⟩
  have hP : va_P G.1 vwCl (wM G ad nw ps er u2 un od li st lm hs) H := hP
  have hD : va_D A (wM G ad nw ps er u2 un od li st lm hs) := hD
  try dsimp only at h
  refine lv_aload_n hx hb dX6_layDemands_4 rfl (lv_at hl 0 rfl) ?_
  refine kc_v (wr := ([] : va_W)) (va_runV (As := []) (rest := []) ⟨hx, hb, hml, hown, hts⟩ (c_X6_noDemands l G ad _ nw ps er u2 un od li st lm hs  h) (cwV 0 hts gX6_layDemands_X6_noDemands rfl rfl rfl (by decide +kernel) ⟨Nat.le_of_ble_eq_true rfl, Nat.le_of_ble_eq_true rfl⟩) (kpV hK hP hD hZ hS hA [0, 1, 2, 3, 4, 5, 6, 7] rfl (by decide) (q0 := 0) (ci := 6) rfl rfl) rfl rfl hl.1 rfl (lv_room (Nat.le_of_ble_eq_true rfl)) dX6_layDemands_5 ⟨Nat.zero_le _, Nat.zero_le _⟩) hP hD hS hA [0, 1, 2, 3, 4, 5, 6, 7] [] rfl rfl (by decide) (by decide) (fun w26 H locs h hP hD hS => ?_)
  obtain ⟨u4, rfl⟩ : ∃ z, z = w26 := ⟨_, rfl⟩
  have hP : va_P G.1 vwCl (wM G ad nw ps er u2 u4 od li st lm hs) H := hP
  have hD : va_D A (wM G ad nw ps er u2 u4 od li st lm hs) := hD
  try dsimp only at h
  refine lv_iconst (v := (0 : Int32)) hx hb dX6_layDemands_8 (by decide) ?_
  refine lv_istore_n (lv' := [(1, .int (0 : Int32)), (0, .ref (ad 0))]) hx hb dX6_layDemands_9 rfl hl (by decide) rfl (fun ls hl => ?_)
  obtain ⟨I7, n8, h0, hst9⟩ := h
  refine loopW (σ := Int32 × (Nat → Int32)) (P := fun q H locs ls => va_P G.1 vwCl (wM G ad nw ps er u2 q.2 od li st lm hs) H ∧ va_D A (wM G ad nw ps er u2 q.2 od li st lm hs) ∧ va_S A s.heap H locs ∧ lv_has ls 2 [(0, .ref (ad 0)), (1, .int q.1)]) (I := fun n q => I7 n q.1 q.2) n8 ((0 : Int32), u4) h0 _ _ _ ⟨hP, hD, hS, lv_sub hl [1, 0] rfl⟩ ?_
  rintro n12 ⟨x5, z6⟩ hI ih11 H locs ls ⟨hP, hD, hS, hl⟩
  have hP : va_P G.1 vwCl (wM G ad nw ps er u2 z6 od li st lm hs) H := hP
  have hD : va_D A (wM G ad nw ps er u2 z6 od li st lm hs) := hD
  have hl : lv_has ls 2 [(0, .ref (ad 0)), (1, .int x5)] := hl
  have h := hst9 n12 x5 z6 hI
  refine lv_iload_n hx hb dX6_layDemands_10 rfl (lv_at hl 1 rfl) ?_
  refine lv_bipush (v := (nI 10)) hx hb dX6_layDemands_11 (by decide) ?_
  refine lv_icmp_ge (tgt := 49) hx hb dX6_layDemands_13 (by decide) (fun c_13 => ?_) (fun c_13 => ?_)
  · have h := h.1 c_13
    exact W.vret hx hb hr (fun t ht hW => ⟨⟨(u2, z6), rfl, h, by rw [ht]; exact hP, hD⟩, hS.F ht⟩) hS.2.2 dX6_layDemands_49
  · have h := h.2 c_13
    refine lv_aload_n hx hb dX6_layDemands_16 rfl (lv_at hl 0 rfl) ?_
    refine va_get (D := G.1) (ci := 6) (v := .ref (ad 1)) (C := RX6) (T := TX6) (N := 10) hx hb hts hinX6 hown hK.1 hP 0 rfl rfl 0 (by decide) (hts (.fieldLink RX6 7 "PlaFolderModel" "now" "[I") (by decide +kernel)) (fun _ h9 => h9) rfl dX6_layDemands_17 ?_
    refine lv_bipush (v := (nI 43)) hx hb dX6_layDemands_20 (by decide) ?_
    refine lv_iload_n hx hb dX6_layDemands_22 rfl (lv_at hl 1 rfl) ?_
    refine lv_iadd hx hb dX6_layDemands_23 ?_
    obtain ⟨hi14, h⟩ := h
    refine x_iald hx hb hK hP 1 rfl hi14 rfl dX6_layDemands_24 ?_
    refine lv_iconst (v := (-1 : Int32)) hx hb dX6_layDemands_25 (by decide) ?_
    refine lv_icmp_eq (tgt := 43) hx hb dX6_layDemands_26 (by decide) (fun c_15 => ?_) (fun c_15 => ?_)
    · have h := h.1 c_15
      refine lv_iinc (v := (x5 + (1 : Int32))) (lv' := [(1, .int (x5 + (1 : Int32))), (0, .ref (ad 0))]) hx hb dX6_layDemands_43 hl (k := 1) rfl rfl (by decide) rfl (fun ls hl => ?_)
      refine lv_goto (tgt := 10) hx hb dX6_layDemands_46 (by decide) ?_
      obtain ⟨n17, hn16, hI18⟩ := h
      exact ih11 n17 ((x5 + (1 : Int32)), z6) hn16 hI18 _ _ _ ⟨hP, hD, hS, lv_sub hl [1, 0] rfl⟩
    · have h := h.2 c_15
      refine lv_aload_n hx hb dX6_layDemands_29 rfl (lv_at hl 0 rfl) ?_
      refine lv_iload_n hx hb dX6_layDemands_30 rfl (lv_at hl 1 rfl) ?_
      refine lv_aload_n hx hb dX6_layDemands_31 rfl (lv_at hl 0 rfl) ?_
      refine va_get (D := G.1) (ci := 6) (v := .ref (ad 1)) (C := RX6) (T := TX6) (N := 10) hx hb hts hinX6 hown hK.1 hP 0 rfl rfl 0 (by decide) (hts (.fieldLink RX6 7 "PlaFolderModel" "now" "[I") (by decide +kernel)) (fun _ h9 => h9) rfl dX6_layDemands_32 ?_
      refine lv_bipush (v := (nI 43)) hx hb dX6_layDemands_35 (by decide) ?_
      refine lv_iload_n hx hb dX6_layDemands_37 rfl (lv_at hl 1 rfl) ?_
      refine lv_iadd hx hb dX6_layDemands_38 ?_
      obtain ⟨hi19, h⟩ := h
      refine x_iald hx hb hK hP 1 rfl hi19 rfl dX6_layDemands_39 ?_
      refine kc_v (wr := ([] : va_W)) (va_runV (As := [.int x5, .int (nw ((nI 43) + x5).toNatClampNeg)]) (rest := []) ⟨hx, hb, hml, hown, hts⟩ (c_X6_demand l G ad _ nw ps er u2 z6 od li st lm hs x5 (nw ((nI 43) + x5).toNatClampNeg) h) (cwV 2 hts gX6_layDemands_X6_demand rfl rfl rfl (by decide +kernel) ⟨Nat.le_of_ble_eq_true rfl, Nat.le_of_ble_eq_true rfl⟩) (kpV hK hP hD hZ hS hA [0, 1, 2, 3, 4, 5, 6, 7] rfl (by decide) (q0 := 0) (ci := 6) rfl rfl) rfl rfl hl.1 rfl (lv_room (Nat.le_of_ble_eq_true rfl)) dX6_layDemands_40 ⟨Nat.zero_le _, Nat.zero_le _⟩) hP hD hS hA [0, 1, 2, 3, 4, 5, 6, 7] [] rfl rfl (by decide) (by decide) (fun w25 H locs h hP hD hS => ?_)
      obtain ⟨u21, rfl⟩ : ∃ z, z = w25 := ⟨_, rfl⟩
      have hP : va_P G.1 vwCl (wM G ad nw ps er u2 u21 od li st lm hs) H := hP
      have hD : va_D A (wM G ad nw ps er u2 u21 od li st lm hs) := hD
      try dsimp only at h
      refine lv_iinc (v := (x5 + (1 : Int32))) (lv' := [(1, .int (x5 + (1 : Int32))), (0, .ref (ad 0))]) hx hb dX6_layDemands_43 hl (k := 1) rfl rfl (by decide) rfl (fun ls hl => ?_)
      refine lv_goto (tgt := 10) hx hb dX6_layDemands_46 (by decide) ?_
      obtain ⟨n23, hn22, hI24⟩ := h
      exact ih11 n23 ((x5 + (1 : Int32)), u21) hn22 hI24 _ _ _ ⟨hP, hD, hS, lv_sub hl [1, 0] rfl⟩
def wp_X6_layRows (nw : Nat → Int32) (un : Nat → Int32) (od : Nat → Int32) (K : Int32 → (Nat → Int32) → Prop) : Prop :=
 (Lp4 ((jshl (1 : Int32) (nw 2)) - (1 : Int32)) (0 : Int32) (1 : Int32) od (fun (x1 : Int32) (x2 : Int32) (x3 : Int32) (z4 : Nat → Int32) (J8 : Int32 → Int32 → Int32 → (Nat → Int32) → Prop) => ((x1 = 0 → ((x3 = 0 ∨ x3 = 1) ∧ K x3 z4)) ∧
 (¬ (x1 = 0) → ((x3 = 0 → ((x3 = 0 ∨ x3 = 1) ∧ K x3 z4)) ∧
 (¬ (x3 = 0) → (Lp2 (0 : Int32) (0 : Int32) (fun (x15 : Int32) (x16 : Int32) (J20 : Int32 → Int32 → Prop) => (((nw 2) ≤ x16 → (Jn1 (fun (y25 : Int32) => ((y25 = 0 → J8 x1 x2 y25 z4) ∧
 (¬ (y25 = 0) → (Lp1 (0 : Int32) (fun (x32 : Int32) (J36 : Int32 → Prop) => wp_X6_has (x1 &&& (x15 ^^^ (-1 : Int32))) x32 (fun (r39 : Int32) => ((¬ r39 = 0 → (vp_in x2 10 ∧ J8 (x1 &&& ((jshl (1 : Int32) x32) ^^^ (-1 : Int32))) (x2 + (1 : Int32)) y25 (upd z4 x2.toNatClampNeg x32))) ∧
 (r39 = 0 → J36 (x32 + (1 : Int32))))))))))
 (fun (J26 : Int32 → Prop) => (((x1 &&& (x15 ^^^ (-1 : Int32))) = 0 → J26 (0 : Int32)) ∧
 (¬ ((x1 &&& (x15 ^^^ (-1 : Int32))) = 0) → J26 (1 : Int32)))))) ∧
 (¬ ((nw 2) ≤ x16) → wp_X6_has x1 x16 (fun (r50 : Int32) => (Jn1 (fun (y52 : Int32) => J20 (x15 ||| y52) (x16 + (1 : Int32)))
 (fun (J53 : Int32 → Prop) => ((r50 = 0 → J53 (0 : Int32)) ∧
 (¬ (r50 = 0) → (vp_in x16 10 ∧ J53 (un x16.toNatClampNeg)))))))))))))))))
abbrev rm_X6_layRows : Room := { frames := 1, cells := 0, slots := 0, locals := 21 }
set_option maxHeartbeats 4000000 in
set_option maxRecDepth 100000 in
theorem c_X6_layRows (l : Launch) (G : GG) (ad : Nat → Nat) (sz : Nat) (nw : Nat → Int32) (ps : Nat → Int32) (er : Nat → Int32) (us : Nat → Int32) (un : Nat → Int32) (od : Nat → Int32) (li : Nat → Int32) (st : Int32) (lm : Int32) (hs : Int64) {K : Int32 → (Nat → Int32) → Prop} (h : wp_X6_layRows nw un od K) : CI l yX6_layRows wsX6_layRows rm_X6_layRows G [.ref (ad 0)] (wM G ad nw ps er us un od li st lm hs) sz (fun u : (Nat → Int32) => wM G ad nw ps er us un u li st lm hs) (fun r u => K r u) := by
  refine Met.ofW (cc := cX6_layRows) (maxL := 7) (ret := (some .boolean)) (by decide) rfl ?_
  intro p e s m args below meth c s₁ B hml hv
  obtain ⟨rfl, hsz, hP, hK, hD0, hZ⟩ := hv
  have hx := B.exec
  have hb := B.bytes
  have hr := B.returns
  have hts := atoms_spec (ws := wsX6_layRows) B.pre
  have hown : s.vm.findClass RX6 = some m.cls := findClass_of_methodNamed B.named
  have hlocks := B.notSynchronized
  subst hsz
  have hD := hD0.self (sz := s.heap.size)
  generalize hAe : va_A (wM G ad nw ps er us un od li st lm hs) s.heap.size = A at hD hZ ⊢
  have hA : ∀ q : Nat, s.heap.size ≤ q → A q := fun q h => by rw [← hAe]; exact Or.inr h
  have hS : va_S A s.heap s.heap [] := va_S.rf
  have hl := lv_entry ([.ref (ad 0)]) (n := 7) (Nat.le_of_ble_eq_true rfl)
  rw [lg_entry_eq]
  generalize (lg_sl ([.ref (ad 0)]) ++ List.replicate (7 - (lg_sl ([.ref (ad 0)])).length) Slot.unset).toArray = ls at hl ⊢
  have hl : lv_has ls 7 [(0, .ref (ad 0))] := hl
  unfold wp_X6_layRows at h
  have hinX6 : ∀ w ∈ wsX60, w ∈ wsX6_layRows := by decide +kernel
  refine lv_iconst (v := (1 : Int32)) hx hb dX6_layRows_0 (by decide) ?_
  refine lv_aload_n hx hb dX6_layRows_1 rfl (lv_at hl 0 rfl) ?_
  refine va_get (D := G.1) (ci := 6) (v := .ref (ad 1)) (C := RX6) (T := TX6) (N := 10) hx hb hts hinX6 hown hK.1 hP 0 rfl rfl 0 (by decide) (hts (.fieldLink RX6 7 "PlaFolderModel" "now" "[I") (by decide +kernel)) (fun _ h9 => h9) rfl dX6_layRows_2 ?_
  refine lv_iconst (v := (nI 2)) hx hb dX6_layRows_5 (by decide) ?_
  refine x_iald hx hb hK hP 1 rfl (vin_c (by decide)) (k := 2) (by decide) dX6_layRows_6 ?_
  refine lv_ishl hx hb dX6_layRows_7 ?_
  refine lv_iconst (v := (1 : Int32)) hx hb dX6_layRows_8 (by decide) ?_
  refine lv_isub hx hb dX6_layRows_9 ?_
  refine lv_istore_n (lv' := [(1, .int ((jshl (1 : Int32) (nw 2)) - (1 : Int32))), (0, .ref (ad 0))]) hx hb dX6_layRows_10 rfl hl (by decide) rfl (fun ls hl => ?_)
  refine lv_iconst (v := (0 : Int32)) hx hb dX6_layRows_11 (by decide) ?_
  refine lv_istore_n (lv' := [(2, .int (0 : Int32)), (1, .int ((jshl (1 : Int32) (nw 2)) - (1 : Int32))), (0, .ref (ad 0))]) hx hb dX6_layRows_12 rfl hl (by decide) rfl (fun ls hl => ?_)
  refine lv_iconst (v := (1 : Int32)) hx hb dX6_layRows_13 (by decide) ?_
  refine lv_istore_n (lv' := [(3, .int (1 : Int32)), (2, .int (0 : Int32)), (1, .int ((jshl (1 : Int32) (nw 2)) - (1 : Int32))), (0, .ref (ad 0))]) hx hb dX6_layRows_14 rfl hl (by decide) rfl (fun ls hl => ?_)
  obtain ⟨I5, n6, h0, hst7⟩ := h
  refine loopW (σ := Int32 × Int32 × Int32 × (Nat → Int32)) (P := fun q H locs ls => va_P G.1 vwCl (wM G ad nw ps er us un q.2.2.2 li st lm hs) H ∧ va_D A (wM G ad nw ps er us un q.2.2.2 li st lm hs) ∧ va_S A s.heap H locs ∧ lv_has ls 7 [(0, .ref (ad 0)), (1, .int q.1), (2, .int q.2.1), (3, .int q.2.2.1)]) (I := fun n q => I5 n q.1 q.2.1 q.2.2.1 q.2.2.2) n6 (((jshl (1 : Int32) (nw 2)) - (1 : Int32)), (0 : Int32), (1 : Int32), od) h0 _ _ _ ⟨hP, hD, hS, lv_sub hl [3, 2, 1, 0] rfl⟩ ?_
  rintro n10 ⟨x1, x2, x3, z4⟩ hI ih9 H locs ls ⟨hP, hD, hS, hl⟩
  have hP : va_P G.1 vwCl (wM G ad nw ps er us un z4 li st lm hs) H := hP
  have hD : va_D A (wM G ad nw ps er us un z4 li st lm hs) := hD
  have hl : lv_has ls 7 [(0, .ref (ad 0)), (1, .int x1), (2, .int x2), (3, .int x3)] := hl
  have h := hst7 n10 x1 x2 x3 z4 hI
  refine lv_iload_n hx hb dX6_layRows_15 rfl (lv_at hl 1 rfl) ?_
  refine lv_if_eq (tgt := 136) hx hb dX6_layRows_16 (by decide) (fun c_11 => ?_) (fun c_11 => ?_)
  · have h := h.1 c_11
    refine lv_iload_n hx hb dX6_layRows_136 rfl (lv_at hl 3 rfl) ?_
    obtain ⟨hz12, h⟩ := h
    exact W.zret hx hb hr (nar_b hz12) (fun t ht hW => ⟨⟨_, z4, rfl, h, by rw [ht]; exact hP, hD⟩, hS.F ht⟩) hS.2.2 dX6_layRows_137
  · have h := h.2 c_11
    refine lv_iload_n hx hb dX6_layRows_19 rfl (lv_at hl 3 rfl) ?_
    refine lv_if_eq (tgt := 136) hx hb dX6_layRows_20 (by decide) (fun c_13 => ?_) (fun c_13 => ?_)
    · have h := h.1 c_13
      refine lv_iload_n hx hb dX6_layRows_136 rfl (lv_at hl 3 rfl) ?_
      obtain ⟨hz14, h⟩ := h
      exact W.zret hx hb hr (nar_b hz14) (fun t ht hW => ⟨⟨_, z4, rfl, h, by rw [ht]; exact hP, hD⟩, hS.F ht⟩) hS.2.2 dX6_layRows_137
    · have h := h.2 c_13
      refine lv_iconst (v := (0 : Int32)) hx hb dX6_layRows_23 (by decide) ?_
      refine lv_istore (lv' := [(4, .int (0 : Int32)), (0, .ref (ad 0)), (1, .int x1), (2, .int x2), (3, .int x3)]) hx hb dX6_layRows_24 hl (by decide) rfl (fun ls hl => ?_)
      refine lv_iconst (v := (0 : Int32)) hx hb dX6_layRows_26 (by decide) ?_
      refine lv_istore (lv' := [(5, .int (0 : Int32)), (4, .int (0 : Int32)), (0, .ref (ad 0)), (1, .int x1), (2, .int x2), (3, .int x3)]) hx hb dX6_layRows_27 hl (by decide) rfl (fun ls hl => ?_)
      obtain ⟨I17, n18, h0, hst19⟩ := h
      refine loopW (σ := Int32 × Int32) (P := fun q H locs ls => va_P G.1 vwCl (wM G ad nw ps er us un z4 li st lm hs) H ∧ va_D A (wM G ad nw ps er us un z4 li st lm hs) ∧ va_S A s.heap H locs ∧ lv_has ls 7 [(0, .ref (ad 0)), (1, .int x1), (2, .int x2), (4, .int q.1), (5, .int q.2)]) (I := fun n q => I17 n q.1 q.2) n18 ((0 : Int32), (0 : Int32)) h0 _ _ _ ⟨hP, hD, hS, lv_sub hl [2, 3, 4, 1, 0] rfl⟩ ?_
      rintro n22 ⟨x15, x16⟩ hI ih21 H locs ls ⟨hP, hD, hS, hl⟩
      have hP : va_P G.1 vwCl (wM G ad nw ps er us un z4 li st lm hs) H := hP
      have hD : va_D A (wM G ad nw ps er us un z4 li st lm hs) := hD
      have hl : lv_has ls 7 [(0, .ref (ad 0)), (1, .int x1), (2, .int x2), (4, .int x15), (5, .int x16)] := hl
      have h := hst19 n22 x15 x16 hI
      refine lv_iload hx hb dX6_layRows_29 (lv_at hl 4 rfl) ?_
      refine lv_aload_n hx hb dX6_layRows_31 rfl (lv_at hl 0 rfl) ?_
      refine va_get (D := G.1) (ci := 6) (v := .ref (ad 1)) (C := RX6) (T := TX6) (N := 10) hx hb hts hinX6 hown hK.1 hP 0 rfl rfl 0 (by decide) (hts (.fieldLink RX6 7 "PlaFolderModel" "now" "[I") (by decide +kernel)) (fun _ h9 => h9) rfl dX6_layRows_32 ?_
      refine lv_iconst (v := (nI 2)) hx hb dX6_layRows_35 (by decide) ?_
      refine x_iald hx hb hK hP 1 rfl (vin_c (by decide)) (k := 2) (by decide) dX6_layRows_36 ?_
      refine lv_icmp_ge (tgt := 71) hx hb dX6_layRows_37 (by decide) (fun c_23 => ?_) (fun c_23 => ?_)
      · have h := h.1 c_23
        refine lv_iload_n hx hb dX6_layRows_71 rfl (lv_at hl 1 rfl) ?_
        refine lv_iload hx hb dX6_layRows_72 (lv_at hl 3 rfl) ?_
        refine lv_iconst (v := (-1 : Int32)) hx hb dX6_layRows_74 (by decide) ?_
        refine lv_ixor hx hb dX6_layRows_75 ?_
        refine lv_iand hx hb dX6_layRows_76 ?_
        refine lv_istore (lv' := [(5, .int (x1 &&& (x15 ^^^ (-1 : Int32)))), (0, .ref (ad 0)), (1, .int x1), (2, .int x2), (4, .int x15)]) hx hb dX6_layRows_77 hl (by decide) rfl (fun ls hl => ?_)
        refine lv_iload hx hb dX6_layRows_79 (lv_at hl 0 rfl) ?_
        obtain ⟨J26, hJ49, h⟩ := h
        refine joinW (σ := Int32) (J := fun q => J26 q) (pc := 89) (st := fun q => .int q :: []) (P := fun q H locs ls => va_P G.1 vwCl (wM G ad nw ps er us un z4 li st lm hs) H ∧ va_D A (wM G ad nw ps er us un z4 li st lm hs) ∧ va_S A s.heap H locs ∧ lv_has ls 7 [(0, .ref (ad 0)), (1, .int x1), (2, .int x2), (5, .int (x1 &&& (x15 ^^^ (-1 : Int32))))]) ?_ (fun join27 => ?_)
        · rintro y25 h H locs ls ⟨hP, hD, hS, hl⟩
          have hP : va_P G.1 vwCl (wM G ad nw ps er us un z4 li st lm hs) H := hP
          have hD : va_D A (wM G ad nw ps er us un z4 li st lm hs) := hD
          have hl : lv_has ls 7 [(0, .ref (ad 0)), (1, .int x1), (2, .int x2), (5, .int (x1 &&& (x15 ^^^ (-1 : Int32))))] := hl
          have h := hJ49 y25 h
          refine W.eq (g2 := F0 m 89 ls (.int y25 :: [])) rfl ?_
          refine lv_istore_n (lv' := [(3, .int y25), (0, .ref (ad 0)), (1, .int x1), (2, .int x2), (5, .int (x1 &&& (x15 ^^^ (-1 : Int32))))]) hx hb dX6_layRows_89 rfl hl (by decide) rfl (fun ls hl => ?_)
          refine lv_iload_n hx hb dX6_layRows_90 rfl (lv_at hl 0 rfl) ?_
          refine lv_if_eq (tgt := 133) hx hb dX6_layRows_91 (by decide) (fun c_28 => ?_) (fun c_28 => ?_)
          · have h := h.1 c_28
            refine lv_goto (tgt := 15) hx hb dX6_layRows_133 (by decide) ?_
            obtain ⟨n30, hn29, hI31⟩ := h
            exact ih9 n30 (x1, x2, y25, z4) hn29 hI31 _ _ _ ⟨hP, hD, hS, lv_sub hl [1, 2, 3, 0] rfl⟩
          · have h := h.2 c_28
            refine lv_iconst (v := (0 : Int32)) hx hb dX6_layRows_94 (by decide) ?_
            refine lv_istore (lv' := [(6, .int (0 : Int32)), (3, .int y25), (0, .ref (ad 0)), (1, .int x1), (2, .int x2), (5, .int (x1 &&& (x15 ^^^ (-1 : Int32))))]) hx hb dX6_layRows_95 hl (by decide) rfl (fun ls hl => ?_)
            obtain ⟨I33, n34, h0, hst35⟩ := h
            refine loopW (σ := Int32) (P := fun q H locs ls => va_P G.1 vwCl (wM G ad nw ps er us un z4 li st lm hs) H ∧ va_D A (wM G ad nw ps er us un z4 li st lm hs) ∧ va_S A s.heap H locs ∧ lv_has ls 7 [(0, .ref (ad 0)), (1, .int x1), (2, .int x2), (3, .int y25), (5, .int (x1 &&& (x15 ^^^ (-1 : Int32)))), (6, .int q)]) (I := fun n q => I33 n q) n34 (0 : Int32) h0 _ _ _ ⟨hP, hD, hS, lv_sub hl [2, 3, 4, 1, 5, 0] rfl⟩ ?_
            rintro n38 x32 hI ih37 H locs ls ⟨hP, hD, hS, hl⟩
            have hP : va_P G.1 vwCl (wM G ad nw ps er us un z4 li st lm hs) H := hP
            have hD : va_D A (wM G ad nw ps er us un z4 li st lm hs) := hD
            have hl : lv_has ls 7 [(0, .ref (ad 0)), (1, .int x1), (2, .int x2), (3, .int y25), (5, .int (x1 &&& (x15 ^^^ (-1 : Int32)))), (6, .int x32)] := hl
            have h := hst35 n38 x32 hI
            refine lv_iload hx hb dX6_layRows_97 (lv_at hl 4 rfl) ?_
            refine lv_iload hx hb dX6_layRows_99 (lv_at hl 5 rfl) ?_
            refine kc_i (wr := ([0, 1, 2, 3, 4, 5, 6, 7] : List Nat).filterMap (fun i => (wM G ad nw ps er us un z4 li st lm hs)[i]?)) (va_runS (As := [.int (x1 &&& (x15 ^^^ (-1 : Int32))), .int x32]) (rest := []) ⟨hx, hb, hml, hown, hts⟩ (c_X6_has l G  _  (x1 &&& (x15 ^^^ (-1 : Int32))) x32 h) (va_cwS 2 hts gX6_layRows_X6_has rfl rfl rfl (by decide +kernel) ⟨Nat.le_of_ble_eq_true rfl, Nat.le_of_ble_eq_true rfl⟩) (kpS hK hP hD hZ hS hA [] rfl (by decide)) rfl rfl hl.1 rfl (lv_room (Nat.le_of_ble_eq_true rfl)) dX6_layRows_101 ⟨Nat.zero_le _, Nat.zero_le _⟩) hP hD hS hA [] [0, 1, 2, 3, 4, 5, 6, 7] rfl rfl (by decide) (by decide) (fun r39 w48 H locs h hP hD hS => ?_)
            have hP : va_P G.1 vwCl (wM G ad nw ps er us un z4 li st lm hs) H := hP
            have hD : va_D A (wM G ad nw ps er us un z4 li st lm hs) := hD
            try dsimp only at h
            refine lv_if_ne (tgt := 113) hx hb dX6_layRows_104 (by decide) (fun c_40 => ?_) (fun c_40 => ?_)
            · have h := h.1 c_40
              refine lv_aload_n hx hb dX6_layRows_113 rfl (lv_at hl 0 rfl) ?_
              refine va_get (D := G.1) (ci := 6) (v := .ref (ad 6)) (C := RX6) (T := TX6) (N := 10) hx hb hts hinX6 hown hK.1 hP 0 rfl rfl 6 (by decide) (hts (.fieldLink RX6 25 "PlaFolderModel" "order" "[I") (by decide +kernel)) (fun _ h9 => h9) rfl dX6_layRows_114 ?_
              refine lv_iload_n hx hb dX6_layRows_117 rfl (lv_at hl 2 rfl) ?_
              refine lv_iload hx hb dX6_layRows_118 (lv_at hl 5 rfl) ?_
              obtain ⟨hi41, h⟩ := h
              refine x_iast hx hb hK hP hD hS 6 rfl hi41 rfl dX6_layRows_120 (fun H locs hP hD hS => ?_)
              have hP : va_P G.1 vwCl (wM G ad nw ps er us un (upd z4 x2.toNatClampNeg x32) li st lm hs) H := hP
              have hD : va_D A (wM G ad nw ps er us un (upd z4 x2.toNatClampNeg x32) li st lm hs) := hD
              refine lv_iinc (v := (x2 + (1 : Int32))) (lv' := [(2, .int (x2 + (1 : Int32))), (0, .ref (ad 0)), (1, .int x1), (3, .int y25), (5, .int (x1 &&& (x15 ^^^ (-1 : Int32)))), (6, .int x32)]) hx hb dX6_layRows_121 hl (k := 2) rfl rfl (by decide) rfl (fun ls hl => ?_)
              refine lv_iload_n hx hb dX6_layRows_124 rfl (lv_at hl 2 rfl) ?_
              refine lv_iconst (v := (1 : Int32)) hx hb dX6_layRows_125 (by decide) ?_
              refine lv_iload hx hb dX6_layRows_126 (lv_at hl 5 rfl) ?_
              refine lv_ishl hx hb dX6_layRows_128 ?_
              refine lv_iconst (v := (-1 : Int32)) hx hb dX6_layRows_129 (by decide) ?_
              refine lv_ixor hx hb dX6_layRows_130 ?_
              refine lv_iand hx hb dX6_layRows_131 ?_
              refine lv_istore_n (lv' := [(1, .int (x1 &&& ((jshl (1 : Int32) x32) ^^^ (-1 : Int32)))), (2, .int (x2 + (1 : Int32))), (0, .ref (ad 0)), (3, .int y25), (5, .int (x1 &&& (x15 ^^^ (-1 : Int32)))), (6, .int x32)]) hx hb dX6_layRows_132 rfl hl (by decide) rfl (fun ls hl => ?_)
              refine lv_goto (tgt := 15) hx hb dX6_layRows_133 (by decide) ?_
              obtain ⟨n43, hn42, hI44⟩ := h
              exact ih9 n43 ((x1 &&& ((jshl (1 : Int32) x32) ^^^ (-1 : Int32))), (x2 + (1 : Int32)), y25, (upd z4 x2.toNatClampNeg x32)) hn42 hI44 _ _ _ ⟨hP, hD, hS, lv_sub hl [2, 0, 1, 3] rfl⟩
            · have h := h.2 c_40
              refine lv_iinc (v := (x32 + (1 : Int32))) (lv' := [(6, .int (x32 + (1 : Int32))), (0, .ref (ad 0)), (1, .int x1), (2, .int x2), (3, .int y25), (5, .int (x1 &&& (x15 ^^^ (-1 : Int32))))]) hx hb dX6_layRows_107 hl (k := 5) rfl rfl (by decide) rfl (fun ls hl => ?_)
              refine lv_goto (tgt := 97) hx hb dX6_layRows_110 (by decide) ?_
              obtain ⟨n46, hn45, hI47⟩ := h
              exact ih37 n46 (x32 + (1 : Int32)) hn45 hI47 _ _ _ ⟨hP, hD, hS, lv_sub hl [1, 2, 3, 4, 5, 0] rfl⟩
        · refine lv_if_eq (tgt := 88) hx hb dX6_layRows_81 (by decide) (fun c_24 => ?_) (fun c_24 => ?_)
          · have h := h.1 c_24
            refine lv_iconst (v := (0 : Int32)) hx hb dX6_layRows_88 (by decide) ?_
            exact join27 (0 : Int32) h _ _ _ ⟨hP, hD, hS, lv_sub hl [1, 2, 3, 0] rfl⟩
          · have h := h.2 c_24
            refine lv_iconst (v := (1 : Int32)) hx hb dX6_layRows_84 (by decide) ?_
            refine lv_goto (tgt := 89) hx hb dX6_layRows_85 (by decide) ?_
            exact join27 (1 : Int32) h _ _ _ ⟨hP, hD, hS, lv_sub hl [1, 2, 3, 0] rfl⟩
      · have h := h.2 c_23
        refine lv_iload hx hb dX6_layRows_40 (lv_at hl 3 rfl) ?_
        refine lv_iload_n hx hb dX6_layRows_42 rfl (lv_at hl 1 rfl) ?_
        refine lv_iload hx hb dX6_layRows_43 (lv_at hl 4 rfl) ?_
        refine kc_i (wr := ([0, 1, 2, 3, 4, 5, 6, 7] : List Nat).filterMap (fun i => (wM G ad nw ps er us un z4 li st lm hs)[i]?)) (va_runS (As := [.int x1, .int x16]) (rest := [.int x15]) ⟨hx, hb, hml, hown, hts⟩ (c_X6_has l G  _  x1 x16 h) (va_cwS 2 hts gX6_layRows_X6_has rfl rfl rfl (by decide +kernel) ⟨Nat.le_of_ble_eq_true rfl, Nat.le_of_ble_eq_true rfl⟩) (kpS hK hP hD hZ hS hA [] rfl (by decide)) rfl rfl hl.1 rfl (lv_room (Nat.le_of_ble_eq_true rfl)) dX6_layRows_45 ⟨Nat.zero_le _, Nat.zero_le _⟩) hP hD hS hA [] [0, 1, 2, 3, 4, 5, 6, 7] rfl rfl (by decide) (by decide) (fun r50 w60 H locs h hP hD hS => ?_)
        have hP : va_P G.1 vwCl (wM G ad nw ps er us un z4 li st lm hs) H := hP
        have hD : va_D A (wM G ad nw ps er us un z4 li st lm hs) := hD
        try dsimp only at h
        obtain ⟨J53, hJ59, h⟩ := h
        refine joinW (σ := Int32) (J := fun q => J53 q) (pc := 62) (st := fun q => .int q :: .int x15 :: []) (P := fun q H locs ls => va_P G.1 vwCl (wM G ad nw ps er us un z4 li st lm hs) H ∧ va_D A (wM G ad nw ps er us un z4 li st lm hs) ∧ va_S A s.heap H locs ∧ lv_has ls 7 [(0, .ref (ad 0)), (1, .int x1), (2, .int x2), (5, .int x16)]) ?_ (fun join54 => ?_)
        · rintro y52 h H locs ls ⟨hP, hD, hS, hl⟩
          have hP : va_P G.1 vwCl (wM G ad nw ps er us un z4 li st lm hs) H := hP
          have hD : va_D A (wM G ad nw ps er us un z4 li st lm hs) := hD
          have hl : lv_has ls 7 [(0, .ref (ad 0)), (1, .int x1), (2, .int x2), (5, .int x16)] := hl
          have h := hJ59 y52 h
          refine W.eq (g2 := F0 m 62 ls (.int y52 :: .int x15 :: [])) rfl ?_
          refine lv_ior hx hb dX6_layRows_62 ?_
          refine lv_istore (lv' := [(4, .int (x15 ||| y52)), (0, .ref (ad 0)), (1, .int x1), (2, .int x2), (5, .int x16)]) hx hb dX6_layRows_63 hl (by decide) rfl (fun ls hl => ?_)
          refine lv_iinc (v := (x16 + (1 : Int32))) (lv' := [(5, .int (x16 + (1 : Int32))), (4, .int (x15 ||| y52)), (0, .ref (ad 0)), (1, .int x1), (2, .int x2)]) hx hb dX6_layRows_65 hl (k := 4) rfl rfl (by decide) rfl (fun ls hl => ?_)
          refine lv_goto (tgt := 29) hx hb dX6_layRows_68 (by decide) ?_
          obtain ⟨n56, hn55, hI57⟩ := h
          exact ih21 n56 ((x15 ||| y52), (x16 + (1 : Int32))) hn55 hI57 _ _ _ ⟨hP, hD, hS, lv_sub hl [2, 3, 4, 1, 0] rfl⟩
        · refine lv_if_eq (tgt := 61) hx hb dX6_layRows_48 (by decide) (fun c_51 => ?_) (fun c_51 => ?_)
          · have h := h.1 c_51
            refine lv_iconst (v := (0 : Int32)) hx hb dX6_layRows_61 (by decide) ?_
            exact join54 (0 : Int32) h _ _ _ ⟨hP, hD, hS, lv_sub hl [0, 1, 2, 4] rfl⟩
          · have h := h.2 c_51
            refine lv_aload_n hx hb dX6_layRows_51 rfl (lv_at hl 0 rfl) ?_
            refine va_get (D := G.1) (ci := 6) (v := .ref (ad 5)) (C := RX6) (T := TX6) (N := 10) hx hb hts hinX6 hown hK.1 hP 0 rfl rfl 5 (by decide) (hts (.fieldLink RX6 22 "PlaFolderModel" "under" "[I") (by decide +kernel)) (fun _ h9 => h9) rfl dX6_layRows_52 ?_
            refine lv_iload hx hb dX6_layRows_55 (lv_at hl 4 rfl) ?_
            obtain ⟨hi58, h⟩ := h
            refine x_iald hx hb hK hP 5 rfl hi58 rfl dX6_layRows_57 ?_
            refine lv_goto (tgt := 62) hx hb dX6_layRows_58 (by decide) ?_
            exact join54 (un x16.toNatClampNeg) h _ _ _ ⟨hP, hD, hS, lv_sub hl [0, 1, 2, 4] rfl⟩
def wp_X6_isFolded (a1 : Int32) (nw : Nat → Int32) (K : Int32 → Prop) : Prop :=
 (vp_in ((nI 33) + a1) 53 ∧ ((¬ (nw ((nI 33) + a1).toNatClampNeg) = (-1 : Int32) → K (1 : Int32)) ∧
 ((nw ((nI 33) + a1).toNatClampNeg) = (-1 : Int32) → (vp_in ((nI 43) + a1) 53 ∧ (((nw ((nI 43) + a1).toNatClampNeg) = (-1 : Int32) → K (0 : Int32)) ∧
 (¬ ((nw ((nI 43) + a1).toNatClampNeg) = (-1 : Int32)) → K (1 : Int32)))))))
abbrev rm_X6_isFolded : Room := { frames := 0, cells := 0, slots := 0, locals := 0 }
set_option maxHeartbeats 4000000 in
set_option maxRecDepth 100000 in
theorem c_X6_isFolded (l : Launch) (G : GG) (ad : Nat → Nat) (sz : Nat) (nw : Nat → Int32) (ps : Nat → Int32) (er : Nat → Int32) (us : Nat → Int32) (un : Nat → Int32) (od : Nat → Int32) (li : Nat → Int32) (st : Int32) (lm : Int32) (hs : Int64) (a1 : Int32) {K : Int32 → Prop} (h : wp_X6_isFolded a1 nw K) : CI l yX6_isFolded wsX6_isFolded rm_X6_isFolded G [.ref (ad 0), .int a1] (wM G ad nw ps er us un od li st lm hs) sz (fun u : Unit => wM G ad nw ps er us un od li st lm hs) (fun r u => K r ) := by
  refine Met.ofW (cc := cX6_isFolded) (maxL := 2) (ret := (some .boolean)) (by decide) rfl ?_
  intro p e s m args below meth c s₁ B hml hv
  obtain ⟨rfl, hsz, hP, hK, hD0, hZ⟩ := hv
  have hx := B.exec
  have hb := B.bytes
  have hr := B.returns
  have hts := atoms_spec (ws := wsX6_isFolded) B.pre
  have hown : s.vm.findClass RX6 = some m.cls := findClass_of_methodNamed B.named
  have hlocks := B.notSynchronized
  subst hsz
  have hD := hD0.self (sz := s.heap.size)
  generalize hAe : va_A (wM G ad nw ps er us un od li st lm hs) s.heap.size = A at hD hZ ⊢
  have hA : ∀ q : Nat, s.heap.size ≤ q → A q := fun q h => by rw [← hAe]; exact Or.inr h
  have hS : va_S A s.heap s.heap [] := va_S.rf
  have hl := lv_entry ([.ref (ad 0), .int a1]) (n := 2) (Nat.le_of_ble_eq_true rfl)
  rw [lg_entry_eq]
  generalize (lg_sl ([.ref (ad 0), .int a1]) ++ List.replicate (2 - (lg_sl ([.ref (ad 0), .int a1])).length) Slot.unset).toArray = ls at hl ⊢
  have hl : lv_has ls 2 [(0, .ref (ad 0)), (1, .int a1)] := hl
  unfold wp_X6_isFolded at h
  have hinX6 : ∀ w ∈ wsX60, w ∈ wsX6_isFolded := by decide +kernel
  refine lv_aload_n hx hb dX6_isFolded_0 rfl (lv_at hl 0 rfl) ?_
  refine va_get (D := G.1) (ci := 6) (v := .ref (ad 1)) (C := RX6) (T := TX6) (N := 10) hx hb hts hinX6 hown hK.1 hP 0 rfl rfl 0 (by decide) (hts (.fieldLink RX6 7 "PlaFolderModel" "now" "[I") (by decide +kernel)) (fun _ h9 => h9) rfl dX6_isFolded_1 ?_
  refine lv_bipush (v := (nI 33)) hx hb dX6_isFolded_4 (by decide) ?_
  refine lv_iload_n hx hb dX6_isFolded_6 rfl (lv_at hl 1 rfl) ?_
  refine lv_iadd hx hb dX6_isFolded_7 ?_
  obtain ⟨hi1, h⟩ := h
  refine x_iald hx hb hK hP 1 rfl hi1 rfl dX6_isFolded_8 ?_
  refine lv_iconst (v := (-1 : Int32)) hx hb dX6_isFolded_9 (by decide) ?_
  refine lv_icmp_ne (tgt := 26) hx hb dX6_isFolded_10 (by decide) (fun c_2 => ?_) (fun c_2 => ?_)
  · have h := h.1 c_2
    refine lv_iconst (v := (1 : Int32)) hx hb dX6_isFolded_26 (by decide) ?_
    refine lv_goto (tgt := 31) hx hb dX6_isFolded_27 (by decide) ?_
    exact W.zret hx hb hr (by decide) (fun t ht hW => ⟨⟨_, (), rfl, h, by rw [ht]; exact hP, hD⟩, hS.F ht⟩) hS.2.2 dX6_isFolded_31
  · have h := h.2 c_2
    refine lv_aload_n hx hb dX6_isFolded_13 rfl (lv_at hl 0 rfl) ?_
    refine va_get (D := G.1) (ci := 6) (v := .ref (ad 1)) (C := RX6) (T := TX6) (N := 10) hx hb hts hinX6 hown hK.1 hP 0 rfl rfl 0 (by decide) (hts (.fieldLink RX6 7 "PlaFolderModel" "now" "[I") (by decide +kernel)) (fun _ h9 => h9) rfl dX6_isFolded_14 ?_
    refine lv_bipush (v := (nI 43)) hx hb dX6_isFolded_17 (by decide) ?_
    refine lv_iload_n hx hb dX6_isFolded_19 rfl (lv_at hl 1 rfl) ?_
    refine lv_iadd hx hb dX6_isFolded_20 ?_
    obtain ⟨hi3, h⟩ := h
    refine x_iald hx hb hK hP 1 rfl hi3 rfl dX6_isFolded_21 ?_
    refine lv_iconst (v := (-1 : Int32)) hx hb dX6_isFolded_22 (by decide) ?_
    refine lv_icmp_eq (tgt := 30) hx hb dX6_isFolded_23 (by decide) (fun c_4 => ?_) (fun c_4 => ?_)
    · have h := h.1 c_4
      refine lv_iconst (v := (0 : Int32)) hx hb dX6_isFolded_30 (by decide) ?_
      exact W.zret hx hb hr (by decide) (fun t ht hW => ⟨⟨_, (), rfl, h, by rw [ht]; exact hP, hD⟩, hS.F ht⟩) hS.2.2 dX6_isFolded_31
    · have h := h.2 c_4
      refine lv_iconst (v := (1 : Int32)) hx hb dX6_isFolded_26 (by decide) ?_
      refine lv_goto (tgt := 31) hx hb dX6_isFolded_27 (by decide) ?_
      exact W.zret hx hb hr (by decide) (fun t ht hW => ⟨⟨_, (), rfl, h, by rw [ht]; exact hP, hD⟩, hS.F ht⟩) hS.2.2 dX6_isFolded_31
def wp_X6_foldMany (nw : Nat → Int32) (K : Int32 → Prop) : Prop :=
 (Lp2 (0 : Int32) (0 : Int32) (fun (x1 : Int32) (x2 : Int32) (J6 : Int32 → Int32 → Prop) => (((nI 10) ≤ x2 → K x1) ∧
 (¬ ((nI 10) ≤ x2) → (vp_in ((nI 43) + x2) 53 ∧ (Jn1 (fun (y12 : Int32) => J6 (x1 + y12) (x2 + (1 : Int32)))
 (fun (J13 : Int32 → Prop) => (((nw ((nI 43) + x2).toNatClampNeg) = (-1 : Int32) → J13 (0 : Int32)) ∧
 (¬ ((nw ((nI 43) + x2).toNatClampNeg) = (-1 : Int32)) → J13 (1 : Int32))))))))))
abbrev rm_X6_foldMany : Room := { frames := 0, cells := 0, slots := 0, locals := 0 }
set_option maxHeartbeats 4000000 in
set_option maxRecDepth 100000 in
theorem c_X6_foldMany (l : Launch) (G : GG) (ad : Nat → Nat) (sz : Nat) (nw : Nat → Int32) (ps : Nat → Int32) (er : Nat → Int32) (us : Nat → Int32) (un : Nat → Int32) (od : Nat → Int32) (li : Nat → Int32) (st : Int32) (lm : Int32) (hs : Int64) {K : Int32 → Prop} (h : wp_X6_foldMany nw K) : CI l yX6_foldMany wsX6_foldMany rm_X6_foldMany G [.ref (ad 0)] (wM G ad nw ps er us un od li st lm hs) sz (fun u : Unit => wM G ad nw ps er us un od li st lm hs) (fun r u => K r ) := by
  refine Met.ofW (cc := cX6_foldMany) (maxL := 3) (ret := (some .int)) (by decide) rfl ?_
  intro p e s m args below meth c s₁ B hml hv
  obtain ⟨rfl, hsz, hP, hK, hD0, hZ⟩ := hv
  have hx := B.exec
  have hb := B.bytes
  have hr := B.returns
  have hts := atoms_spec (ws := wsX6_foldMany) B.pre
  have hown : s.vm.findClass RX6 = some m.cls := findClass_of_methodNamed B.named
  have hlocks := B.notSynchronized
  subst hsz
  have hD := hD0.self (sz := s.heap.size)
  generalize hAe : va_A (wM G ad nw ps er us un od li st lm hs) s.heap.size = A at hD hZ ⊢
  have hA : ∀ q : Nat, s.heap.size ≤ q → A q := fun q h => by rw [← hAe]; exact Or.inr h
  have hS : va_S A s.heap s.heap [] := va_S.rf
  have hl := lv_entry ([.ref (ad 0)]) (n := 3) (Nat.le_of_ble_eq_true rfl)
  rw [lg_entry_eq]
  generalize (lg_sl ([.ref (ad 0)]) ++ List.replicate (3 - (lg_sl ([.ref (ad 0)])).length) Slot.unset).toArray = ls at hl ⊢
  have hl : lv_has ls 3 [(0, .ref (ad 0))] := hl
  unfold wp_X6_foldMany at h
  have hinX6 : ∀ w ∈ wsX60, w ∈ wsX6_foldMany := by decide +kernel
  refine lv_iconst (v := (0 : Int32)) hx hb dX6_foldMany_0 (by decide) ?_
  refine lv_istore_n (lv' := [(1, .int (0 : Int32)), (0, .ref (ad 0))]) hx hb dX6_foldMany_1 rfl hl (by decide) rfl (fun ls hl => ?_)
  refine lv_iconst (v := (0 : Int32)) hx hb dX6_foldMany_2 (by decide) ?_
  refine lv_istore_n (lv' := [(2, .int (0 : Int32)), (1, .int (0 : Int32)), (0, .ref (ad 0))]) hx hb dX6_foldMany_3 rfl hl (by decide) rfl (fun ls hl => ?_)
  obtain ⟨I3, n4, h0, hst5⟩ := h
  refine loopW (σ := Int32 × Int32) (P := fun q H locs ls => va_P G.1 vwCl (wM G ad nw ps er us un od li st lm hs) H ∧ va_D A (wM G ad nw ps er us un od li st lm hs) ∧ va_S A s.heap H locs ∧ lv_has ls 3 [(0, .ref (ad 0)), (1, .int q.1), (2, .int q.2)]) (I := fun n q => I3 n q.1 q.2) n4 ((0 : Int32), (0 : Int32)) h0 _ _ _ ⟨hP, hD, hS, lv_sub hl [2, 1, 0] rfl⟩ ?_
  rintro n8 ⟨x1, x2⟩ hI ih7 H locs ls ⟨hP, hD, hS, hl⟩
  have hP : va_P G.1 vwCl (wM G ad nw ps er us un od li st lm hs) H := hP
  have hD : va_D A (wM G ad nw ps er us un od li st lm hs) := hD
  have hl : lv_has ls 3 [(0, .ref (ad 0)), (1, .int x1), (2, .int x2)] := hl
  have h := hst5 n8 x1 x2 hI
  refine lv_iload_n hx hb dX6_foldMany_4 rfl (lv_at hl 2 rfl) ?_
  refine lv_bipush (v := (nI 10)) hx hb dX6_foldMany_5 (by decide) ?_
  refine lv_icmp_ge (tgt := 37) hx hb dX6_foldMany_7 (by decide) (fun c_9 => ?_) (fun c_9 => ?_)
  · have h := h.1 c_9
    refine lv_iload_n hx hb dX6_foldMany_37 rfl (lv_at hl 1 rfl) ?_
    exact W.iret hx hb hr (fun t ht hW => ⟨⟨_, (), rfl, h, by rw [ht]; exact hP, hD⟩, hS.F ht⟩) hS.2.2 dX6_foldMany_38
  · have h := h.2 c_9
    refine lv_iload_n hx hb dX6_foldMany_10 rfl (lv_at hl 1 rfl) ?_
    refine lv_aload_n hx hb dX6_foldMany_11 rfl (lv_at hl 0 rfl) ?_
    refine va_get (D := G.1) (ci := 6) (v := .ref (ad 1)) (C := RX6) (T := TX6) (N := 10) hx hb hts hinX6 hown hK.1 hP 0 rfl rfl 0 (by decide) (hts (.fieldLink RX6 7 "PlaFolderModel" "now" "[I") (by decide +kernel)) (fun _ h9 => h9) rfl dX6_foldMany_12 ?_
    refine lv_bipush (v := (nI 43)) hx hb dX6_foldMany_15 (by decide) ?_
    refine lv_iload_n hx hb dX6_foldMany_17 rfl (lv_at hl 2 rfl) ?_
    refine lv_iadd hx hb dX6_foldMany_18 ?_
    obtain ⟨hi10, h⟩ := h
    refine x_iald hx hb hK hP 1 rfl hi10 rfl dX6_foldMany_19 ?_
    refine lv_iconst (v := (-1 : Int32)) hx hb dX6_foldMany_20 (by decide) ?_
    obtain ⟨J13, hJ18, h⟩ := h
    refine joinW (σ := Int32) (J := fun q => J13 q) (pc := 29) (st := fun q => .int q :: .int x1 :: []) (P := fun q H locs ls => va_P G.1 vwCl (wM G ad nw ps er us un od li st lm hs) H ∧ va_D A (wM G ad nw ps er us un od li st lm hs) ∧ va_S A s.heap H locs ∧ lv_has ls 3 [(0, .ref (ad 0)), (2, .int x2)]) ?_ (fun join14 => ?_)
    · rintro y12 h H locs ls ⟨hP, hD, hS, hl⟩
      have hP : va_P G.1 vwCl (wM G ad nw ps er us un od li st lm hs) H := hP
      have hD : va_D A (wM G ad nw ps er us un od li st lm hs) := hD
      have hl : lv_has ls 3 [(0, .ref (ad 0)), (2, .int x2)] := hl
      have h := hJ18 y12 h
      refine W.eq (g2 := F0 m 29 ls (.int y12 :: .int x1 :: [])) rfl ?_
      refine lv_iadd hx hb dX6_foldMany_29 ?_
      refine lv_istore_n (lv' := [(1, .int (x1 + y12)), (0, .ref (ad 0)), (2, .int x2)]) hx hb dX6_foldMany_30 rfl hl (by decide) rfl (fun ls hl => ?_)
      refine lv_iinc (v := (x2 + (1 : Int32))) (lv' := [(2, .int (x2 + (1 : Int32))), (1, .int (x1 + y12)), (0, .ref (ad 0))]) hx hb dX6_foldMany_31 hl (k := 2) rfl rfl (by decide) rfl (fun ls hl => ?_)
      refine lv_goto (tgt := 4) hx hb dX6_foldMany_34 (by decide) ?_
      obtain ⟨n16, hn15, hI17⟩ := h
      exact ih7 n16 ((x1 + y12), (x2 + (1 : Int32))) hn15 hI17 _ _ _ ⟨hP, hD, hS, lv_sub hl [2, 1, 0] rfl⟩
    · refine lv_icmp_eq (tgt := 28) hx hb dX6_foldMany_21 (by decide) (fun c_11 => ?_) (fun c_11 => ?_)
      · have h := h.1 c_11
        refine lv_iconst (v := (0 : Int32)) hx hb dX6_foldMany_28 (by decide) ?_
        exact join14 (0 : Int32) h _ _ _ ⟨hP, hD, hS, lv_sub hl [0, 2] rfl⟩
      · have h := h.2 c_11
        refine lv_iconst (v := (1 : Int32)) hx hb dX6_foldMany_24 (by decide) ?_
        refine lv_goto (tgt := 29) hx hb dX6_foldMany_25 (by decide) ?_
        exact join14 (1 : Int32) h _ _ _ ⟨hP, hD, hS, lv_sub hl [0, 2] rfl⟩
def wp_X6_fold (a1 : Int32) (a2 : Int32) (nw : Nat → Int32) (ps : Nat → Int32) (er : Nat → Int32) (us : Nat → Int32) (un : Nat → Int32) (od : Nat → Int32) (st : Int32) (K : Int32 → (Nat → Int32) → (Nat → Int32) → (Nat → Int32) → (Nat → Int32) → (Nat → Int32) → (Nat → Int32) → Int32 → Prop) : Prop :=
 wp_X6_isColumn a1 nw (fun (r1 : Int32) => ((r1 = 0 → wp_X6_error (-2 : Int32) er (fun (r3 : Int32) (u4 : Nat → Int32) => K r3 nw ps u4 us un od st)) ∧
 (¬ (r1 = 0) → wp_X6_isColumn a2 nw (fun (r6 : Int32) => ((¬ r6 = 0 → wp_X6_layDemands nw us un (fun (u9 : Nat → Int32) (u10 : Nat → Int32) => wp_X6_fits a1 a2 nw u9 (fun (r11 : Int32) => ((r11 = 0 → wp_X6_error (-3 : Int32) er (fun (r13 : Int32) (u14 : Nat → Int32) => K r13 nw ps u14 u9 u10 od st)) ∧
 (¬ (r11 = 0) → wp_X6_isFolded a1 nw (fun (r16 : Int32) => ((¬ r16 = 0 → wp_X6_error (-3 : Int32) er (fun (r18 : Int32) (u19 : Nat → Int32) => K r18 nw ps u19 u9 u10 od st)) ∧
 (r16 = 0 → wp_X6_isFolded a2 nw (fun (r21 : Int32) => ((r21 = 0 → wp_X6_demand a1 a2 u9 u10 (fun (u24 : Nat → Int32) => wp_X6_layRows nw u24 od (fun (r25 : Int32) (u26 : Nat → Int32) => ((¬ r25 = 0 → wp_X6_save nw ps st (fun (u29 : Nat → Int32) (u30 : Int32) => (vp_in ((nI 43) + a1) 53 ∧ (vp_in ((nI 33) + a2) 53 ∧ wp_X6_foldMany (upd (upd nw (((nI 43) + a1).toNatClampNeg) a2) (((nI 33) + a2).toNatClampNeg) a1) (fun (r33 : Int32) => K r33 (upd (upd nw (((nI 43) + a1).toNatClampNeg) a2) (((nI 33) + a2).toNatClampNeg) a1) u29 er u9 u24 u26 u30))))) ∧
 (r25 = 0 → wp_X6_error (-4 : Int32) er (fun (r36 : Int32) (u37 : Nat → Int32) => K r36 nw ps u37 u9 u24 u26 st)))))) ∧
 (¬ (r21 = 0) → wp_X6_error (-3 : Int32) er (fun (r41 : Int32) (u42 : Nat → Int32) => K r41 nw ps u42 u9 u10 od st)))))))))))) ∧
 (r6 = 0 → wp_X6_error (-2 : Int32) er (fun (r48 : Int32) (u49 : Nat → Int32) => K r48 nw ps u49 us un od st)))))))
abbrev rm_X6_fold : Room := { frames := 4, cells := 0, slots := 0, locals := 87 }
set_option maxHeartbeats 4000000 in
set_option maxRecDepth 100000 in
theorem c_X6_fold (l : Launch) (G : GG) (ad : Nat → Nat) (sz : Nat) (nw : Nat → Int32) (ps : Nat → Int32) (er : Nat → Int32) (us : Nat → Int32) (un : Nat → Int32) (od : Nat → Int32) (li : Nat → Int32) (st : Int32) (lm : Int32) (hs : Int64) (a1 : Int32) (a2 : Int32) {K : Int32 → (Nat → Int32) → (Nat → Int32) → (Nat → Int32) → (Nat → Int32) → (Nat → Int32) → (Nat → Int32) → Int32 → Prop} (h : wp_X6_fold a1 a2 nw ps er us un od st K) : CI l yX6_fold wsX6_fold rm_X6_fold G [.ref (ad 0), .int a1, .int a2] (wM G ad nw ps er us un od li st lm hs) sz (fun u : (Nat → Int32) × (Nat → Int32) × (Nat → Int32) × (Nat → Int32) × (Nat → Int32) × (Nat → Int32) × Int32 => wM G ad u.1 u.2.1 u.2.2.1 u.2.2.2.1 u.2.2.2.2.1 u.2.2.2.2.2.1 li u.2.2.2.2.2.2 lm hs) (fun r u => K r u.1 u.2.1 u.2.2.1 u.2.2.2.1 u.2.2.2.2.1 u.2.2.2.2.2.1 u.2.2.2.2.2.2) := by
  refine Met.ofW (cc := cX6_fold) (maxL := 3) (ret := (some .int)) (by decide) rfl ?_
  intro p e s m args below meth c s₁ B hml hv
  obtain ⟨rfl, hsz, hP, hK, hD0, hZ⟩ := hv
  have hx := B.exec
  have hb := B.bytes
  have hr := B.returns
  have hts := atoms_spec (ws := wsX6_fold) B.pre
  have hown : s.vm.findClass RX6 = some m.cls := findClass_of_methodNamed B.named
  have hlocks := B.notSynchronized
  subst hsz
  have hD := hD0.self (sz := s.heap.size)
  generalize hAe : va_A (wM G ad nw ps er us un od li st lm hs) s.heap.size = A at hD hZ ⊢
  have hA : ∀ q : Nat, s.heap.size ≤ q → A q := fun q h => by rw [← hAe]; exact Or.inr h
  have hS : va_S A s.heap s.heap [] := va_S.rf
  have hl := lv_entry ([.ref (ad 0), .int a1, .int a2]) (n := 3) (Nat.le_of_ble_eq_true rfl)
  rw [lg_entry_eq]
  generalize (lg_sl ([.ref (ad 0), .int a1, .int a2]) ++ List.replicate (3 - (lg_sl ([.ref (ad 0), .int a1, .int a2])).length) Slot.unset).toArray = ls at hl ⊢
  have hl : lv_has ls 3 [(0, .ref (ad 0)), (1, .int a1), (2, .int a2)] := hl
  unfold wp_X6_fold at h
  have hinX6 : ∀ w ∈ wsX60, w ∈ wsX6_fold := by decide +kernel
  refine lv_aload_n hx hb dX6_fold_0 rfl (lv_at hl 0 rfl) ?_
  refine lv_iload_n hx hb dX6_fold_1 rfl (lv_at hl 1 rfl) ?_
  refine kc_i (wr := ([] : va_W)) (va_runV (As := [.int a1]) (rest := []) ⟨hx, hb, hml, hown, hts⟩ (c_X6_isColumn l G ad _ nw ps er us un od li st lm hs a1 h) (cwV 1 hts gX6_fold_X6_isColumn rfl rfl rfl (by decide +kernel) ⟨Nat.le_of_ble_eq_true rfl, Nat.le_of_ble_eq_true rfl⟩) (kpV hK hP hD hZ hS hA [0, 1, 2, 3, 4, 5, 6, 7] rfl (by decide) (q0 := 0) (ci := 6) rfl rfl) rfl rfl hl.1 rfl (lv_room (Nat.le_of_ble_eq_true rfl)) dX6_fold_2 ⟨Nat.zero_le _, Nat.zero_le _⟩) hP hD hS hA [0, 1, 2, 3, 4, 5, 6, 7] [] rfl rfl (by decide) (by decide) (fun r1 w52 H locs h hP hD hS => ?_)
  have hP : va_P G.1 vwCl (wM G ad nw ps er us un od li st lm hs) H := hP
  have hD : va_D A (wM G ad nw ps er us un od li st lm hs) := hD
  try dsimp only at h
  refine lv_if_eq (tgt := 16) hx hb dX6_fold_5 (by decide) (fun c_2 => ?_) (fun c_2 => ?_)
  · have h := h.1 c_2
    refine lv_aload_n hx hb dX6_fold_16 rfl (lv_at hl 0 rfl) ?_
    refine lv_bipush (v := (-2 : Int32)) hx hb dX6_fold_17 (by decide) ?_
    refine kc_i (wr := ([] : va_W)) (va_runV (As := [.int (-2 : Int32)]) (rest := []) ⟨hx, hb, hml, hown, hts⟩ (c_X6_error l G ad _ nw ps er us un od li st lm hs (-2 : Int32) h) (cwV 1 hts gX6_fold_X6_error rfl rfl rfl (by decide +kernel) ⟨Nat.le_of_ble_eq_true rfl, Nat.le_of_ble_eq_true rfl⟩) (kpV hK hP hD hZ hS hA [0, 1, 2, 3, 4, 5, 6, 7] rfl (by decide) (q0 := 0) (ci := 6) rfl rfl) rfl rfl hl.1 rfl (lv_room (Nat.le_of_ble_eq_true rfl)) dX6_fold_19 ⟨Nat.zero_le _, Nat.zero_le _⟩) hP hD hS hA [0, 1, 2, 3, 4, 5, 6, 7] [] rfl rfl (by decide) (by decide) (fun r3 w5 H locs h hP hD hS => ?_)
    obtain ⟨u4, rfl⟩ : ∃ z, z = w5 := ⟨_, rfl⟩
    have hP : va_P G.1 vwCl (wM G ad nw ps u4 us un od li st lm hs) H := hP
    have hD : va_D A (wM G ad nw ps u4 us un od li st lm hs) := hD
    try dsimp only at h
    exact W.iret hx hb hr (fun t ht hW => ⟨⟨_, (nw, ps, u4, us, un, od, st), rfl, h, by rw [ht]; exact hP, hD⟩, hS.F ht⟩) hS.2.2 dX6_fold_22
  · have h := h.2 c_2
    refine lv_aload_n hx hb dX6_fold_8 rfl (lv_at hl 0 rfl) ?_
    refine lv_iload_n hx hb dX6_fold_9 rfl (lv_at hl 2 rfl) ?_
    refine kc_i (wr := ([] : va_W)) (va_runV (As := [.int a2]) (rest := []) ⟨hx, hb, hml, hown, hts⟩ (c_X6_isColumn l G ad _ nw ps er us un od li st lm hs a2 h) (cwV 1 hts gX6_fold_X6_isColumn rfl rfl rfl (by decide +kernel) ⟨Nat.le_of_ble_eq_true rfl, Nat.le_of_ble_eq_true rfl⟩) (kpV hK hP hD hZ hS hA [0, 1, 2, 3, 4, 5, 6, 7] rfl (by decide) (q0 := 0) (ci := 6) rfl rfl) rfl rfl hl.1 rfl (lv_room (Nat.le_of_ble_eq_true rfl)) dX6_fold_10 ⟨Nat.zero_le _, Nat.zero_le _⟩) hP hD hS hA [0, 1, 2, 3, 4, 5, 6, 7] [] rfl rfl (by decide) (by decide) (fun r6 w51 H locs h hP hD hS => ?_)
    have hP : va_P G.1 vwCl (wM G ad nw ps er us un od li st lm hs) H := hP
    have hD : va_D A (wM G ad nw ps er us un od li st lm hs) := hD
    try dsimp only at h
    refine lv_if_ne (tgt := 23) hx hb dX6_fold_13 (by decide) (fun c_7 => ?_) (fun c_7 => ?_)
    · have h := h.1 c_7
      refine lv_aload_n hx hb dX6_fold_23 rfl (lv_at hl 0 rfl) ?_
      refine kc_v (wr := ([] : va_W)) (va_runV (As := []) (rest := []) ⟨hx, hb, hml, hown, hts⟩ (c_X6_layDemands l G ad _ nw ps er us un od li st lm hs  h) (cwV 0 hts gX6_fold_X6_layDemands rfl rfl rfl (by decide +kernel) ⟨Nat.le_of_ble_eq_true rfl, Nat.le_of_ble_eq_true rfl⟩) (kpV hK hP hD hZ hS hA [0, 1, 2, 3, 4, 5, 6, 7] rfl (by decide) (q0 := 0) (ci := 6) rfl rfl) rfl rfl hl.1 rfl (lv_room (Nat.le_of_ble_eq_true rfl)) dX6_fold_24 ⟨Nat.zero_le _, Nat.zero_le _⟩) hP hD hS hA [0, 1, 2, 3, 4, 5, 6, 7] [] rfl rfl (by decide) (by decide) (fun w47 H locs h hP hD hS => ?_)
      obtain ⟨u9, u10⟩ := w47
      have hP : va_P G.1 vwCl (wM G ad nw ps er u9 u10 od li st lm hs) H := hP
      have hD : va_D A (wM G ad nw ps er u9 u10 od li st lm hs) := hD
      try dsimp only at h
      refine lv_aload_n hx hb dX6_fold_27 rfl (lv_at hl 0 rfl) ?_
      refine lv_iload_n hx hb dX6_fold_28 rfl (lv_at hl 1 rfl) ?_
      refine lv_iload_n hx hb dX6_fold_29 rfl (lv_at hl 2 rfl) ?_
      refine kc_i (wr := ([] : va_W)) (va_runV (As := [.int a1, .int a2]) (rest := []) ⟨hx, hb, hml, hown, hts⟩ (c_X6_fits l G ad _ nw ps er u9 u10 od li st lm hs a1 a2 h) (cwV 2 hts gX6_fold_X6_fits rfl rfl rfl (by decide +kernel) ⟨Nat.le_of_ble_eq_true rfl, Nat.le_of_ble_eq_true rfl⟩) (kpV hK hP hD hZ hS hA [0, 1, 2, 3, 4, 5, 6, 7] rfl (by decide) (q0 := 0) (ci := 6) rfl rfl) rfl rfl hl.1 rfl (lv_room (Nat.le_of_ble_eq_true rfl)) dX6_fold_30 ⟨Nat.zero_le _, Nat.zero_le _⟩) hP hD hS hA [0, 1, 2, 3, 4, 5, 6, 7] [] rfl rfl (by decide) (by decide) (fun r11 w46 H locs h hP hD hS => ?_)
      have hP : va_P G.1 vwCl (wM G ad nw ps er u9 u10 od li st lm hs) H := hP
      have hD : va_D A (wM G ad nw ps er u9 u10 od li st lm hs) := hD
      try dsimp only at h
      refine lv_if_eq (tgt := 52) hx hb dX6_fold_33 (by decide) (fun c_12 => ?_) (fun c_12 => ?_)
      · have h := h.1 c_12
        refine lv_aload_n hx hb dX6_fold_52 rfl (lv_at hl 0 rfl) ?_
        refine lv_bipush (v := (-3 : Int32)) hx hb dX6_fold_53 (by decide) ?_
        refine kc_i (wr := ([] : va_W)) (va_runV (As := [.int (-3 : Int32)]) (rest := []) ⟨hx, hb, hml, hown, hts⟩ (c_X6_error l G ad _ nw ps er u9 u10 od li st lm hs (-3 : Int32) h) (cwV 1 hts gX6_fold_X6_error rfl rfl rfl (by decide +kernel) ⟨Nat.le_of_ble_eq_true rfl, Nat.le_of_ble_eq_true rfl⟩) (kpV hK hP hD hZ hS hA [0, 1, 2, 3, 4, 5, 6, 7] rfl (by decide) (q0 := 0) (ci := 6) rfl rfl) rfl rfl hl.1 rfl (lv_room (Nat.le_of_ble_eq_true rfl)) dX6_fold_55 ⟨Nat.zero_le _, Nat.zero_le _⟩) hP hD hS hA [0, 1, 2, 3, 4, 5, 6, 7] [] rfl rfl (by decide) (by decide) (fun r13 w15 H locs h hP hD hS => ?_)
        obtain ⟨u14, rfl⟩ : ∃ z, z = w15 := ⟨_, rfl⟩
        have hP : va_P G.1 vwCl (wM G ad nw ps u14 u9 u10 od li st lm hs) H := hP
        have hD : va_D A (wM G ad nw ps u14 u9 u10 od li st lm hs) := hD
        try dsimp only at h
        exact W.iret hx hb hr (fun t ht hW => ⟨⟨_, (nw, ps, u14, u9, u10, od, st), rfl, h, by rw [ht]; exact hP, hD⟩, hS.F ht⟩) hS.2.2 dX6_fold_58
      · have h := h.2 c_12
        refine lv_aload_n hx hb dX6_fold_36 rfl (lv_at hl 0 rfl) ?_
        refine lv_iload_n hx hb dX6_fold_37 rfl (lv_at hl 1 rfl) ?_
        refine kc_i (wr := ([] : va_W)) (va_runV (As := [.int a1]) (rest := []) ⟨hx, hb, hml, hown, hts⟩ (c_X6_isFolded l G ad _ nw ps er u9 u10 od li st lm hs a1 h) (cwV 1 hts gX6_fold_X6_isFolded rfl rfl rfl (by decide +kernel) ⟨Nat.le_of_ble_eq_true rfl, Nat.le_of_ble_eq_true rfl⟩) (kpV hK hP hD hZ hS hA [0, 1, 2, 3, 4, 5, 6, 7] rfl (by decide) (q0 := 0) (ci := 6) rfl rfl) rfl rfl hl.1 rfl (lv_room (Nat.le_of_ble_eq_true rfl)) dX6_fold_38 ⟨Nat.zero_le _, Nat.zero_le _⟩) hP hD hS hA [0, 1, 2, 3, 4, 5, 6, 7] [] rfl rfl (by decide) (by decide) (fun r16 w45 H locs h hP hD hS => ?_)
        have hP : va_P G.1 vwCl (wM G ad nw ps er u9 u10 od li st lm hs) H := hP
        have hD : va_D A (wM G ad nw ps er u9 u10 od li st lm hs) := hD
        try dsimp only at h
        refine lv_if_ne (tgt := 52) hx hb dX6_fold_41 (by decide) (fun c_17 => ?_) (fun c_17 => ?_)
        · have h := h.1 c_17
          refine lv_aload_n hx hb dX6_fold_52 rfl (lv_at hl 0 rfl) ?_
          refine lv_bipush (v := (-3 : Int32)) hx hb dX6_fold_53 (by decide) ?_
          refine kc_i (wr := ([] : va_W)) (va_runV (As := [.int (-3 : Int32)]) (rest := []) ⟨hx, hb, hml, hown, hts⟩ (c_X6_error l G ad _ nw ps er u9 u10 od li st lm hs (-3 : Int32) h) (cwV 1 hts gX6_fold_X6_error rfl rfl rfl (by decide +kernel) ⟨Nat.le_of_ble_eq_true rfl, Nat.le_of_ble_eq_true rfl⟩) (kpV hK hP hD hZ hS hA [0, 1, 2, 3, 4, 5, 6, 7] rfl (by decide) (q0 := 0) (ci := 6) rfl rfl) rfl rfl hl.1 rfl (lv_room (Nat.le_of_ble_eq_true rfl)) dX6_fold_55 ⟨Nat.zero_le _, Nat.zero_le _⟩) hP hD hS hA [0, 1, 2, 3, 4, 5, 6, 7] [] rfl rfl (by decide) (by decide) (fun r18 w20 H locs h hP hD hS => ?_)
          obtain ⟨u19, rfl⟩ : ∃ z, z = w20 := ⟨_, rfl⟩
          have hP : va_P G.1 vwCl (wM G ad nw ps u19 u9 u10 od li st lm hs) H := hP
          have hD : va_D A (wM G ad nw ps u19 u9 u10 od li st lm hs) := hD
          try dsimp only at h
          exact W.iret hx hb hr (fun t ht hW => ⟨⟨_, (nw, ps, u19, u9, u10, od, st), rfl, h, by rw [ht]; exact hP, hD⟩, hS.F ht⟩) hS.2.2 dX6_fold_58
        · have h := h.2 c_17
          refine lv_aload_n hx hb dX6_fold_44 rfl (lv_at hl 0 rfl) ?_
          refine lv_iload_n hx hb dX6_fold_45 rfl (lv_at hl 2 rfl) ?_
          refine kc_i (wr := ([] : va_W)) (va_runV (As := [.int a2]) (rest := []) ⟨hx, hb, hml, hown, hts⟩ (c_X6_isFolded l G ad _ nw ps er u9 u10 od li st lm hs a2 h) (cwV 1 hts gX6_fold_X6_isFolded rfl rfl rfl (by decide +kernel) ⟨Nat.le_of_ble_eq_true rfl, Nat.le_of_ble_eq_true rfl⟩) (kpV hK hP hD hZ hS hA [0, 1, 2, 3, 4, 5, 6, 7] rfl (by decide) (q0 := 0) (ci := 6) rfl rfl) rfl rfl hl.1 rfl (lv_room (Nat.le_of_ble_eq_true rfl)) dX6_fold_46 ⟨Nat.zero_le _, Nat.zero_le _⟩) hP hD hS hA [0, 1, 2, 3, 4, 5, 6, 7] [] rfl rfl (by decide) (by decide) (fun r21 w44 H locs h hP hD hS => ?_)
          have hP : va_P G.1 vwCl (wM G ad nw ps er u9 u10 od li st lm hs) H := hP
          have hD : va_D A (wM G ad nw ps er u9 u10 od li st lm hs) := hD
          try dsimp only at h
          refine lv_if_eq (tgt := 59) hx hb dX6_fold_49 (by decide) (fun c_22 => ?_) (fun c_22 => ?_)
          · have h := h.1 c_22
            refine lv_aload_n hx hb dX6_fold_59 rfl (lv_at hl 0 rfl) ?_
            refine lv_iload_n hx hb dX6_fold_60 rfl (lv_at hl 1 rfl) ?_
            refine lv_iload_n hx hb dX6_fold_61 rfl (lv_at hl 2 rfl) ?_
            refine kc_v (wr := ([] : va_W)) (va_runV (As := [.int a1, .int a2]) (rest := []) ⟨hx, hb, hml, hown, hts⟩ (c_X6_demand l G ad _ nw ps er u9 u10 od li st lm hs a1 a2 h) (cwV 2 hts gX6_fold_X6_demand rfl rfl rfl (by decide +kernel) ⟨Nat.le_of_ble_eq_true rfl, Nat.le_of_ble_eq_true rfl⟩) (kpV hK hP hD hZ hS hA [0, 1, 2, 3, 4, 5, 6, 7] rfl (by decide) (q0 := 0) (ci := 6) rfl rfl) rfl rfl hl.1 rfl (lv_room (Nat.le_of_ble_eq_true rfl)) dX6_fold_62 ⟨Nat.zero_le _, Nat.zero_le _⟩) hP hD hS hA [0, 1, 2, 3, 4, 5, 6, 7] [] rfl rfl (by decide) (by decide) (fun w40 H locs h hP hD hS => ?_)
            obtain ⟨u24, rfl⟩ : ∃ z, z = w40 := ⟨_, rfl⟩
            have hP : va_P G.1 vwCl (wM G ad nw ps er u9 u24 od li st lm hs) H := hP
            have hD : va_D A (wM G ad nw ps er u9 u24 od li st lm hs) := hD
            try dsimp only at h
            refine lv_aload_n hx hb dX6_fold_65 rfl (lv_at hl 0 rfl) ?_
            refine kc_i (wr := ([] : va_W)) (va_runV (As := []) (rest := []) ⟨hx, hb, hml, hown, hts⟩ (c_X6_layRows l G ad _ nw ps er u9 u24 od li st lm hs  h) (cwV 0 hts gX6_fold_X6_layRows rfl rfl rfl (by decide +kernel) ⟨Nat.le_of_ble_eq_true rfl, Nat.le_of_ble_eq_true rfl⟩) (kpV hK hP hD hZ hS hA [0, 1, 2, 3, 4, 5, 6, 7] rfl (by decide) (q0 := 0) (ci := 6) rfl rfl) rfl rfl hl.1 rfl (lv_room (Nat.le_of_ble_eq_true rfl)) dX6_fold_66 ⟨Nat.zero_le _, Nat.zero_le _⟩) hP hD hS hA [0, 1, 2, 3, 4, 5, 6, 7] [] rfl rfl (by decide) (by decide) (fun r25 w39 H locs h hP hD hS => ?_)
            obtain ⟨u26, rfl⟩ : ∃ z, z = w39 := ⟨_, rfl⟩
            have hP : va_P G.1 vwCl (wM G ad nw ps er u9 u24 u26 li st lm hs) H := hP
            have hD : va_D A (wM G ad nw ps er u9 u24 u26 li st lm hs) := hD
            try dsimp only at h
            refine lv_if_ne (tgt := 79) hx hb dX6_fold_69 (by decide) (fun c_27 => ?_) (fun c_27 => ?_)
            · have h := h.1 c_27
              refine lv_aload_n hx hb dX6_fold_79 rfl (lv_at hl 0 rfl) ?_
              refine kc_v (wr := ([] : va_W)) (va_runV (As := []) (rest := []) ⟨hx, hb, hml, hown, hts⟩ (c_X6_save l G ad _ nw ps er u9 u24 u26 li st lm hs  h) (cwV 0 hts gX6_fold_X6_save rfl rfl rfl (by decide +kernel) ⟨Nat.le_of_ble_eq_true rfl, Nat.le_of_ble_eq_true rfl⟩) (kpV hK hP hD hZ hS hA [0, 1, 2, 3, 4, 5, 6, 7] rfl (by decide) (q0 := 0) (ci := 6) rfl rfl) rfl rfl hl.1 rfl (lv_room (Nat.le_of_ble_eq_true rfl)) dX6_fold_80 ⟨Nat.zero_le _, Nat.zero_le _⟩) hP hD hS hA [0, 1, 2, 3, 4, 5, 6, 7] [] rfl rfl (by decide) (by decide) (fun w35 H locs h hP hD hS => ?_)
              obtain ⟨u29, u30⟩ := w35
              have hP : va_P G.1 vwCl (wM G ad nw u29 er u9 u24 u26 li u30 lm hs) H := hP
              have hD : va_D A (wM G ad nw u29 er u9 u24 u26 li u30 lm hs) := hD
              try dsimp only at h
              refine lv_aload_n hx hb dX6_fold_83 rfl (lv_at hl 0 rfl) ?_
              refine va_get (D := G.1) (ci := 6) (v := .ref (ad 1)) (C := RX6) (T := TX6) (N := 10) hx hb hts hinX6 hown hK.1 hP 0 rfl rfl 0 (by decide) (hts (.fieldLink RX6 7 "PlaFolderModel" "now" "[I") (by decide +kernel)) (fun _ h9 => h9) rfl dX6_fold_84 ?_
              refine lv_bipush (v := (nI 43)) hx hb dX6_fold_87 (by decide) ?_
              refine lv_iload_n hx hb dX6_fold_89 rfl (lv_at hl 1 rfl) ?_
              refine lv_iadd hx hb dX6_fold_90 ?_
              refine lv_iload_n hx hb dX6_fold_91 rfl (lv_at hl 2 rfl) ?_
              obtain ⟨hi31, h⟩ := h
              refine x_iast hx hb hK hP hD hS 1 rfl hi31 rfl dX6_fold_92 (fun H locs hP hD hS => ?_)
              have hP : va_P G.1 vwCl (wM G ad (upd nw (((nI 43) + a1).toNatClampNeg) a2) u29 er u9 u24 u26 li u30 lm hs) H := hP
              have hD : va_D A (wM G ad (upd nw (((nI 43) + a1).toNatClampNeg) a2) u29 er u9 u24 u26 li u30 lm hs) := hD
              refine lv_aload_n hx hb dX6_fold_93 rfl (lv_at hl 0 rfl) ?_
              refine va_get (D := G.1) (ci := 6) (v := .ref (ad 1)) (C := RX6) (T := TX6) (N := 10) hx hb hts hinX6 hown hK.1 hP 0 rfl rfl 0 (by decide) (hts (.fieldLink RX6 7 "PlaFolderModel" "now" "[I") (by decide +kernel)) (fun _ h9 => h9) rfl dX6_fold_94 ?_
              refine lv_bipush (v := (nI 33)) hx hb dX6_fold_97 (by decide) ?_
              refine lv_iload_n hx hb dX6_fold_99 rfl (lv_at hl 2 rfl) ?_
              refine lv_iadd hx hb dX6_fold_100 ?_
              refine lv_iload_n hx hb dX6_fold_101 rfl (lv_at hl 1 rfl) ?_
              obtain ⟨hi32, h⟩ := h
              refine x_iast hx hb hK hP hD hS 1 rfl hi32 rfl dX6_fold_102 (fun H locs hP hD hS => ?_)
              have hP : va_P G.1 vwCl (wM G ad (upd (upd nw (((nI 43) + a1).toNatClampNeg) a2) (((nI 33) + a2).toNatClampNeg) a1) u29 er u9 u24 u26 li u30 lm hs) H := hP
              have hD : va_D A (wM G ad (upd (upd nw (((nI 43) + a1).toNatClampNeg) a2) (((nI 33) + a2).toNatClampNeg) a1) u29 er u9 u24 u26 li u30 lm hs) := hD
              refine lv_aload_n hx hb dX6_fold_103 rfl (lv_at hl 0 rfl) ?_
              refine kc_i (wr := ([] : va_W)) (va_runV (As := []) (rest := []) ⟨hx, hb, hml, hown, hts⟩ (c_X6_foldMany l G ad _ (upd (upd nw (((nI 43) + a1).toNatClampNeg) a2) (((nI 33) + a2).toNatClampNeg) a1) u29 er u9 u24 u26 li u30 lm hs  h) (cwV 0 hts gX6_fold_X6_foldMany rfl rfl rfl (by decide +kernel) ⟨Nat.le_of_ble_eq_true rfl, Nat.le_of_ble_eq_true rfl⟩) (kpV hK hP hD hZ hS hA [0, 1, 2, 3, 4, 5, 6, 7] rfl (by decide) (q0 := 0) (ci := 6) rfl rfl) rfl rfl hl.1 rfl (lv_room (Nat.le_of_ble_eq_true rfl)) dX6_fold_104 ⟨Nat.zero_le _, Nat.zero_le _⟩) hP hD hS hA [0, 1, 2, 3, 4, 5, 6, 7] [] rfl rfl (by decide) (by decide) (fun r33 w34 H locs h hP hD hS => ?_)
              have hP : va_P G.1 vwCl (wM G ad (upd (upd nw (((nI 43) + a1).toNatClampNeg) a2) (((nI 33) + a2).toNatClampNeg) a1) u29 er u9 u24 u26 li u30 lm hs) H := hP
              have hD : va_D A (wM G ad (upd (upd nw (((nI 43) + a1).toNatClampNeg) a2) (((nI 33) + a2).toNatClampNeg) a1) u29 er u9 u24 u26 li u30 lm hs) := hD
              try dsimp only at h
              exact W.iret hx hb hr (fun t ht hW => ⟨⟨_, ((upd (upd nw (((nI 43) + a1).toNatClampNeg) a2) (((nI 33) + a2).toNatClampNeg) a1), u29, er, u9, u24, u26, u30), rfl, h, by rw [ht]; exact hP, hD⟩, hS.F ht⟩) hS.2.2 dX6_fold_107
            · have h := h.2 c_27
              refine lv_aload_n hx hb dX6_fold_72 rfl (lv_at hl 0 rfl) ?_
              refine lv_bipush (v := (-4 : Int32)) hx hb dX6_fold_73 (by decide) ?_
              refine kc_i (wr := ([] : va_W)) (va_runV (As := [.int (-4 : Int32)]) (rest := []) ⟨hx, hb, hml, hown, hts⟩ (c_X6_error l G ad _ nw ps er u9 u24 u26 li st lm hs (-4 : Int32) h) (cwV 1 hts gX6_fold_X6_error rfl rfl rfl (by decide +kernel) ⟨Nat.le_of_ble_eq_true rfl, Nat.le_of_ble_eq_true rfl⟩) (kpV hK hP hD hZ hS hA [0, 1, 2, 3, 4, 5, 6, 7] rfl (by decide) (q0 := 0) (ci := 6) rfl rfl) rfl rfl hl.1 rfl (lv_room (Nat.le_of_ble_eq_true rfl)) dX6_fold_75 ⟨Nat.zero_le _, Nat.zero_le _⟩) hP hD hS hA [0, 1, 2, 3, 4, 5, 6, 7] [] rfl rfl (by decide) (by decide) (fun r36 w38 H locs h hP hD hS => ?_)
              obtain ⟨u37, rfl⟩ : ∃ z, z = w38 := ⟨_, rfl⟩
              have hP : va_P G.1 vwCl (wM G ad nw ps u37 u9 u24 u26 li st lm hs) H := hP
              have hD : va_D A (wM G ad nw ps u37 u9 u24 u26 li st lm hs) := hD
              try dsimp only at h
              exact W.iret hx hb hr (fun t ht hW => ⟨⟨_, (nw, ps, u37, u9, u24, u26, st), rfl, h, by rw [ht]; exact hP, hD⟩, hS.F ht⟩) hS.2.2 dX6_fold_78
          · have h := h.2 c_22
            refine lv_aload_n hx hb dX6_fold_52 rfl (lv_at hl 0 rfl) ?_
            refine lv_bipush (v := (-3 : Int32)) hx hb dX6_fold_53 (by decide) ?_
            refine kc_i (wr := ([] : va_W)) (va_runV (As := [.int (-3 : Int32)]) (rest := []) ⟨hx, hb, hml, hown, hts⟩ (c_X6_error l G ad _ nw ps er u9 u10 od li st lm hs (-3 : Int32) h) (cwV 1 hts gX6_fold_X6_error rfl rfl rfl (by decide +kernel) ⟨Nat.le_of_ble_eq_true rfl, Nat.le_of_ble_eq_true rfl⟩) (kpV hK hP hD hZ hS hA [0, 1, 2, 3, 4, 5, 6, 7] rfl (by decide) (q0 := 0) (ci := 6) rfl rfl) rfl rfl hl.1 rfl (lv_room (Nat.le_of_ble_eq_true rfl)) dX6_fold_55 ⟨Nat.zero_le _, Nat.zero_le _⟩) hP hD hS hA [0, 1, 2, 3, 4, 5, 6, 7] [] rfl rfl (by decide) (by decide) (fun r41 w43 H locs h hP hD hS => ?_)
            obtain ⟨u42, rfl⟩ : ∃ z, z = w43 := ⟨_, rfl⟩
            have hP : va_P G.1 vwCl (wM G ad nw ps u42 u9 u10 od li st lm hs) H := hP
            have hD : va_D A (wM G ad nw ps u42 u9 u10 od li st lm hs) := hD
            try dsimp only at h
            exact W.iret hx hb hr (fun t ht hW => ⟨⟨_, (nw, ps, u42, u9, u10, od, st), rfl, h, by rw [ht]; exact hP, hD⟩, hS.F ht⟩) hS.2.2 dX6_fold_58
    · have h := h.2 c_7
      refine lv_aload_n hx hb dX6_fold_16 rfl (lv_at hl 0 rfl) ?_
      refine lv_bipush (v := (-2 : Int32)) hx hb dX6_fold_17 (by decide) ?_
      refine kc_i (wr := ([] : va_W)) (va_runV (As := [.int (-2 : Int32)]) (rest := []) ⟨hx, hb, hml, hown, hts⟩ (c_X6_error l G ad _ nw ps er us un od li st lm hs (-2 : Int32) h) (cwV 1 hts gX6_fold_X6_error rfl rfl rfl (by decide +kernel) ⟨Nat.le_of_ble_eq_true rfl, Nat.le_of_ble_eq_true rfl⟩) (kpV hK hP hD hZ hS hA [0, 1, 2, 3, 4, 5, 6, 7] rfl (by decide) (q0 := 0) (ci := 6) rfl rfl) rfl rfl hl.1 rfl (lv_room (Nat.le_of_ble_eq_true rfl)) dX6_fold_19 ⟨Nat.zero_le _, Nat.zero_le _⟩) hP hD hS hA [0, 1, 2, 3, 4, 5, 6, 7] [] rfl rfl (by decide) (by decide) (fun r48 w50 H locs h hP hD hS => ?_)
      obtain ⟨u49, rfl⟩ : ∃ z, z = w50 := ⟨_, rfl⟩
      have hP : va_P G.1 vwCl (wM G ad nw ps u49 us un od li st lm hs) H := hP
      have hD : va_D A (wM G ad nw ps u49 us un od li st lm hs) := hD
      try dsimp only at h
      exact W.iret hx hb hr (fun t ht hW => ⟨⟨_, (nw, ps, u49, us, un, od, st), rfl, h, by rw [ht]; exact hP, hD⟩, hS.F ht⟩) hS.2.2 dX6_fold_22
def wp_X6_partnerOf (a1 : Int32) (nw : Nat → Int32) (K : Int32 → Prop) : Prop :=
 (vp_in ((nI 43) + a1) 53 ∧ (((nw ((nI 43) + a1).toNatClampNeg) = (-1 : Int32) → (vp_in ((nI 33) + a1) 53 ∧ K (nw ((nI 33) + a1).toNatClampNeg))) ∧
 (¬ ((nw ((nI 43) + a1).toNatClampNeg) = (-1 : Int32)) → (vp_in ((nI 43) + a1) 53 ∧ K (nw ((nI 43) + a1).toNatClampNeg)))))
abbrev rm_X6_partnerOf : Room := { frames := 0, cells := 0, slots := 0, locals := 0 }
set_option maxHeartbeats 4000000 in
set_option maxRecDepth 100000 in
theorem c_X6_partnerOf (l : Launch) (G : GG) (ad : Nat → Nat) (sz : Nat) (nw : Nat → Int32) (ps : Nat → Int32) (er : Nat → Int32) (us : Nat → Int32) (un : Nat → Int32) (od : Nat → Int32) (li : Nat → Int32) (st : Int32) (lm : Int32) (hs : Int64) (a1 : Int32) {K : Int32 → Prop} (h : wp_X6_partnerOf a1 nw K) : CI l yX6_partnerOf wsX6_partnerOf rm_X6_partnerOf G [.ref (ad 0), .int a1] (wM G ad nw ps er us un od li st lm hs) sz (fun u : Unit => wM G ad nw ps er us un od li st lm hs) (fun r u => K r ) := by
  refine Met.ofW (cc := cX6_partnerOf) (maxL := 2) (ret := (some .int)) (by decide) rfl ?_
  intro p e s m args below meth c s₁ B hml hv
  obtain ⟨rfl, hsz, hP, hK, hD0, hZ⟩ := hv
  have hx := B.exec
  have hb := B.bytes
  have hr := B.returns
  have hts := atoms_spec (ws := wsX6_partnerOf) B.pre
  have hown : s.vm.findClass RX6 = some m.cls := findClass_of_methodNamed B.named
  have hlocks := B.notSynchronized
  subst hsz
  have hD := hD0.self (sz := s.heap.size)
  generalize hAe : va_A (wM G ad nw ps er us un od li st lm hs) s.heap.size = A at hD hZ ⊢
  have hA : ∀ q : Nat, s.heap.size ≤ q → A q := fun q h => by rw [← hAe]; exact Or.inr h
  have hS : va_S A s.heap s.heap [] := va_S.rf
  have hl := lv_entry ([.ref (ad 0), .int a1]) (n := 2) (Nat.le_of_ble_eq_true rfl)
  rw [lg_entry_eq]
  generalize (lg_sl ([.ref (ad 0), .int a1]) ++ List.replicate (2 - (lg_sl ([.ref (ad 0), .int a1])).length) Slot.unset).toArray = ls at hl ⊢
  have hl : lv_has ls 2 [(0, .ref (ad 0)), (1, .int a1)] := hl
  unfold wp_X6_partnerOf at h
  have hinX6 : ∀ w ∈ wsX60, w ∈ wsX6_partnerOf := by decide +kernel
  refine lv_aload_n hx hb dX6_partnerOf_0 rfl (lv_at hl 0 rfl) ?_
  refine va_get (D := G.1) (ci := 6) (v := .ref (ad 1)) (C := RX6) (T := TX6) (N := 10) hx hb hts hinX6 hown hK.1 hP 0 rfl rfl 0 (by decide) (hts (.fieldLink RX6 7 "PlaFolderModel" "now" "[I") (by decide +kernel)) (fun _ h9 => h9) rfl dX6_partnerOf_1 ?_
  refine lv_bipush (v := (nI 43)) hx hb dX6_partnerOf_4 (by decide) ?_
  refine lv_iload_n hx hb dX6_partnerOf_6 rfl (lv_at hl 1 rfl) ?_
  refine lv_iadd hx hb dX6_partnerOf_7 ?_
  obtain ⟨hi1, h⟩ := h
  refine x_iald hx hb hK hP 1 rfl hi1 rfl dX6_partnerOf_8 ?_
  refine lv_iconst (v := (-1 : Int32)) hx hb dX6_partnerOf_9 (by decide) ?_
  refine lv_icmp_eq (tgt := 25) hx hb dX6_partnerOf_10 (by decide) (fun c_2 => ?_) (fun c_2 => ?_)
  · have h := h.1 c_2
    refine lv_aload_n hx hb dX6_partnerOf_25 rfl (lv_at hl 0 rfl) ?_
    refine va_get (D := G.1) (ci := 6) (v := .ref (ad 1)) (C := RX6) (T := TX6) (N := 10) hx hb hts hinX6 hown hK.1 hP 0 rfl rfl 0 (by decide) (hts (.fieldLink RX6 7 "PlaFolderModel" "now" "[I") (by decide +kernel)) (fun _ h9 => h9) rfl dX6_partnerOf_26 ?_
    refine lv_bipush (v := (nI 33)) hx hb dX6_partnerOf_29 (by decide) ?_
    refine lv_iload_n hx hb dX6_partnerOf_31 rfl (lv_at hl 1 rfl) ?_
    refine lv_iadd hx hb dX6_partnerOf_32 ?_
    obtain ⟨hi3, h⟩ := h
    refine x_iald hx hb hK hP 1 rfl hi3 rfl dX6_partnerOf_33 ?_
    exact W.iret hx hb hr (fun t ht hW => ⟨⟨_, (), rfl, h, by rw [ht]; exact hP, hD⟩, hS.F ht⟩) hS.2.2 dX6_partnerOf_34
  · have h := h.2 c_2
    refine lv_aload_n hx hb dX6_partnerOf_13 rfl (lv_at hl 0 rfl) ?_
    refine va_get (D := G.1) (ci := 6) (v := .ref (ad 1)) (C := RX6) (T := TX6) (N := 10) hx hb hts hinX6 hown hK.1 hP 0 rfl rfl 0 (by decide) (hts (.fieldLink RX6 7 "PlaFolderModel" "now" "[I") (by decide +kernel)) (fun _ h9 => h9) rfl dX6_partnerOf_14 ?_
    refine lv_bipush (v := (nI 43)) hx hb dX6_partnerOf_17 (by decide) ?_
    refine lv_iload_n hx hb dX6_partnerOf_19 rfl (lv_at hl 1 rfl) ?_
    refine lv_iadd hx hb dX6_partnerOf_20 ?_
    obtain ⟨hi4, h⟩ := h
    refine x_iald hx hb hK hP 1 rfl hi4 rfl dX6_partnerOf_21 ?_
    refine lv_goto (tgt := 34) hx hb dX6_partnerOf_22 (by decide) ?_
    exact W.iret hx hb hr (fun t ht hW => ⟨⟨_, (), rfl, h, by rw [ht]; exact hP, hD⟩, hS.F ht⟩) hS.2.2 dX6_partnerOf_34
def wp_X6_apart (a1 : Int32) (nw : Nat → Int32) (K : (Nat → Int32) → Prop) : Prop :=
 (vp_in ((nI 43) + a1) 53 ∧ (vp_in ((nI 33) + a1) 53 ∧ K (upd (upd nw (((nI 43) + a1).toNatClampNeg) (-1 : Int32)) (((nI 33) + a1).toNatClampNeg) (-1 : Int32))))
abbrev rm_X6_apart : Room := { frames := 0, cells := 0, slots := 0, locals := 0 }
set_option maxHeartbeats 4000000 in
set_option maxRecDepth 100000 in
theorem c_X6_apart (l : Launch) (G : GG) (ad : Nat → Nat) (sz : Nat) (nw : Nat → Int32) (ps : Nat → Int32) (er : Nat → Int32) (us : Nat → Int32) (un : Nat → Int32) (od : Nat → Int32) (li : Nat → Int32) (st : Int32) (lm : Int32) (hs : Int64) (a1 : Int32) {K : (Nat → Int32) → Prop} (h : wp_X6_apart a1 nw K) : CV l yX6_apart wsX6_apart rm_X6_apart G [.ref (ad 0), .int a1] (wM G ad nw ps er us un od li st lm hs) sz (fun u : (Nat → Int32) => wM G ad u ps er us un od li st lm hs) (fun u => K u) := by
  refine Met.ofW (cc := cX6_apart) (maxL := 2) (ret := none) (by decide) rfl ?_
  intro p e s m args below meth c s₁ B hml hv
  obtain ⟨rfl, hsz, hP, hK, hD0, hZ⟩ := hv
  have hx := B.exec
  have hb := B.bytes
  have hr := B.returns
  have hts := atoms_spec (ws := wsX6_apart) B.pre
  have hown : s.vm.findClass RX6 = some m.cls := findClass_of_methodNamed B.named
  have hlocks := B.notSynchronized
  subst hsz
  have hD := hD0.self (sz := s.heap.size)
  generalize hAe : va_A (wM G ad nw ps er us un od li st lm hs) s.heap.size = A at hD hZ ⊢
  have hA : ∀ q : Nat, s.heap.size ≤ q → A q := fun q h => by rw [← hAe]; exact Or.inr h
  have hS : va_S A s.heap s.heap [] := va_S.rf
  have hl := lv_entry ([.ref (ad 0), .int a1]) (n := 2) (Nat.le_of_ble_eq_true rfl)
  rw [lg_entry_eq]
  generalize (lg_sl ([.ref (ad 0), .int a1]) ++ List.replicate (2 - (lg_sl ([.ref (ad 0), .int a1])).length) Slot.unset).toArray = ls at hl ⊢
  have hl : lv_has ls 2 [(0, .ref (ad 0)), (1, .int a1)] := hl
  unfold wp_X6_apart at h
  have hinX6 : ∀ w ∈ wsX60, w ∈ wsX6_apart := by decide +kernel
  refine lv_aload_n hx hb dX6_apart_0 rfl (lv_at hl 0 rfl) ?_
  refine va_get (D := G.1) (ci := 6) (v := .ref (ad 1)) (C := RX6) (T := TX6) (N := 10) hx hb hts hinX6 hown hK.1 hP 0 rfl rfl 0 (by decide) (hts (.fieldLink RX6 7 "PlaFolderModel" "now" "[I") (by decide +kernel)) (fun _ h9 => h9) rfl dX6_apart_1 ?_
  refine lv_bipush (v := (nI 43)) hx hb dX6_apart_4 (by decide) ?_
  refine lv_iload_n hx hb dX6_apart_6 rfl (lv_at hl 1 rfl) ?_
  refine lv_iadd hx hb dX6_apart_7 ?_
  refine lv_iconst (v := (-1 : Int32)) hx hb dX6_apart_8 (by decide) ?_
  obtain ⟨hi1, h⟩ := h
  refine x_iast hx hb hK hP hD hS 1 rfl hi1 rfl dX6_apart_9 (fun H locs hP hD hS => ?_)
  have hP : va_P G.1 vwCl (wM G ad (upd nw (((nI 43) + a1).toNatClampNeg) (-1 : Int32)) ps er us un od li st lm hs) H := hP
  have hD : va_D A (wM G ad (upd nw (((nI 43) + a1).toNatClampNeg) (-1 : Int32)) ps er us un od li st lm hs) := hD
  refine lv_aload_n hx hb dX6_apart_10 rfl (lv_at hl 0 rfl) ?_
  refine va_get (D := G.1) (ci := 6) (v := .ref (ad 1)) (C := RX6) (T := TX6) (N := 10) hx hb hts hinX6 hown hK.1 hP 0 rfl rfl 0 (by decide) (hts (.fieldLink RX6 7 "PlaFolderModel" "now" "[I") (by decide +kernel)) (fun _ h9 => h9) rfl dX6_apart_11 ?_
  refine lv_bipush (v := (nI 33)) hx hb dX6_apart_14 (by decide) ?_
  refine lv_iload_n hx hb dX6_apart_16 rfl (lv_at hl 1 rfl) ?_
  refine lv_iadd hx hb dX6_apart_17 ?_
  refine lv_iconst (v := (-1 : Int32)) hx hb dX6_apart_18 (by decide) ?_
  obtain ⟨hi2, h⟩ := h
  refine x_iast hx hb hK hP hD hS 1 rfl hi2 rfl dX6_apart_19 (fun H locs hP hD hS => ?_)
  have hP : va_P G.1 vwCl (wM G ad (upd (upd nw (((nI 43) + a1).toNatClampNeg) (-1 : Int32)) (((nI 33) + a1).toNatClampNeg) (-1 : Int32)) ps er us un od li st lm hs) H := hP
  have hD : va_D A (wM G ad (upd (upd nw (((nI 43) + a1).toNatClampNeg) (-1 : Int32)) (((nI 33) + a1).toNatClampNeg) (-1 : Int32)) ps er us un od li st lm hs) := hD
  exact W.vret hx hb hr (fun t ht hW => ⟨⟨(upd (upd nw (((nI 43) + a1).toNatClampNeg) (-1 : Int32)) (((nI 33) + a1).toNatClampNeg) (-1 : Int32)), rfl, h, by rw [ht]; exact hP, hD⟩, hS.F ht⟩) hS.2.2 dX6_apart_20
def wp_X6_unfold (a1 : Int32) (nw : Nat → Int32) (ps : Nat → Int32) (er : Nat → Int32) (st : Int32) (K : Int32 → (Nat → Int32) → (Nat → Int32) → (Nat → Int32) → Int32 → Prop) : Prop :=
 wp_X6_isColumn a1 nw (fun (r1 : Int32) => ((¬ r1 = 0 → wp_X6_isFolded a1 nw (fun (r3 : Int32) => ((¬ r3 = 0 → wp_X6_save nw ps st (fun (u6 : Nat → Int32) (u7 : Int32) => wp_X6_partnerOf a1 nw (fun (r8 : Int32) => wp_X6_apart r8 nw (fun (u10 : Nat → Int32) => wp_X6_apart a1 u10 (fun (u12 : Nat → Int32) => wp_X6_foldMany u12 (fun (r13 : Int32) => K r13 u12 u6 er u7)))))) ∧
 (r3 = 0 → wp_X6_error (-3 : Int32) er (fun (r19 : Int32) (u20 : Nat → Int32) => K r19 nw ps u20 st))))) ∧
 (r1 = 0 → wp_X6_error (-2 : Int32) er (fun (r23 : Int32) (u24 : Nat → Int32) => K r23 nw ps u24 st))))
abbrev rm_X6_unfold : Room := { frames := 2, cells := 0, slots := 0, locals := 43 }
set_option maxHeartbeats 4000000 in
set_option maxRecDepth 100000 in
theorem c_X6_unfold (l : Launch) (G : GG) (ad : Nat → Nat) (sz : Nat) (nw : Nat → Int32) (ps : Nat → Int32) (er : Nat → Int32) (us : Nat → Int32) (un : Nat → Int32) (od : Nat → Int32) (li : Nat → Int32) (st : Int32) (lm : Int32) (hs : Int64) (a1 : Int32) {K : Int32 → (Nat → Int32) → (Nat → Int32) → (Nat → Int32) → Int32 → Prop} (h : wp_X6_unfold a1 nw ps er st K) : CI l yX6_unfold wsX6_unfold rm_X6_unfold G [.ref (ad 0), .int a1] (wM G ad nw ps er us un od li st lm hs) sz (fun u : (Nat → Int32) × (Nat → Int32) × (Nat → Int32) × Int32 => wM G ad u.1 u.2.1 u.2.2.1 us un od li u.2.2.2 lm hs) (fun r u => K r u.1 u.2.1 u.2.2.1 u.2.2.2) := by
  refine Met.ofW (cc := cX6_unfold) (maxL := 2) (ret := (some .int)) (by decide) rfl ?_
  intro p e s m args below meth c s₁ B hml hv
  obtain ⟨rfl, hsz, hP, hK, hD0, hZ⟩ := hv
  have hx := B.exec
  have hb := B.bytes
  have hr := B.returns
  have hts := atoms_spec (ws := wsX6_unfold) B.pre
  have hown : s.vm.findClass RX6 = some m.cls := findClass_of_methodNamed B.named
  have hlocks := B.notSynchronized
  subst hsz
  have hD := hD0.self (sz := s.heap.size)
  generalize hAe : va_A (wM G ad nw ps er us un od li st lm hs) s.heap.size = A at hD hZ ⊢
  have hA : ∀ q : Nat, s.heap.size ≤ q → A q := fun q h => by rw [← hAe]; exact Or.inr h
  have hS : va_S A s.heap s.heap [] := va_S.rf
  have hl := lv_entry ([.ref (ad 0), .int a1]) (n := 2) (Nat.le_of_ble_eq_true rfl)
  rw [lg_entry_eq]
  generalize (lg_sl ([.ref (ad 0), .int a1]) ++ List.replicate (2 - (lg_sl ([.ref (ad 0), .int a1])).length) Slot.unset).toArray = ls at hl ⊢
  have hl : lv_has ls 2 [(0, .ref (ad 0)), (1, .int a1)] := hl
  unfold wp_X6_unfold at h
  refine lv_aload_n hx hb dX6_unfold_0 rfl (lv_at hl 0 rfl) ?_
  refine lv_iload_n hx hb dX6_unfold_1 rfl (lv_at hl 1 rfl) ?_
  refine kc_i (wr := ([] : va_W)) (va_runV (As := [.int a1]) (rest := []) ⟨hx, hb, hml, hown, hts⟩ (c_X6_isColumn l G ad _ nw ps er us un od li st lm hs a1 h) (cwV 1 hts gX6_unfold_X6_isColumn rfl rfl rfl (by decide +kernel) ⟨Nat.le_of_ble_eq_true rfl, Nat.le_of_ble_eq_true rfl⟩) (kpV hK hP hD hZ hS hA [0, 1, 2, 3, 4, 5, 6, 7] rfl (by decide) (q0 := 0) (ci := 6) rfl rfl) rfl rfl hl.1 rfl (lv_room (Nat.le_of_ble_eq_true rfl)) dX6_unfold_2 ⟨Nat.zero_le _, Nat.zero_le _⟩) hP hD hS hA [0, 1, 2, 3, 4, 5, 6, 7] [] rfl rfl (by decide) (by decide) (fun r1 w26 H locs h hP hD hS => ?_)
  have hP : va_P G.1 vwCl (wM G ad nw ps er us un od li st lm hs) H := hP
  have hD : va_D A (wM G ad nw ps er us un od li st lm hs) := hD
  try dsimp only at h
  refine lv_if_ne (tgt := 15) hx hb dX6_unfold_5 (by decide) (fun c_2 => ?_) (fun c_2 => ?_)
  · have h := h.1 c_2
    refine lv_aload_n hx hb dX6_unfold_15 rfl (lv_at hl 0 rfl) ?_
    refine lv_iload_n hx hb dX6_unfold_16 rfl (lv_at hl 1 rfl) ?_
    refine kc_i (wr := ([] : va_W)) (va_runV (As := [.int a1]) (rest := []) ⟨hx, hb, hml, hown, hts⟩ (c_X6_isFolded l G ad _ nw ps er us un od li st lm hs a1 h) (cwV 1 hts gX6_unfold_X6_isFolded rfl rfl rfl (by decide +kernel) ⟨Nat.le_of_ble_eq_true rfl, Nat.le_of_ble_eq_true rfl⟩) (kpV hK hP hD hZ hS hA [0, 1, 2, 3, 4, 5, 6, 7] rfl (by decide) (q0 := 0) (ci := 6) rfl rfl) rfl rfl hl.1 rfl (lv_room (Nat.le_of_ble_eq_true rfl)) dX6_unfold_17 ⟨Nat.zero_le _, Nat.zero_le _⟩) hP hD hS hA [0, 1, 2, 3, 4, 5, 6, 7] [] rfl rfl (by decide) (by decide) (fun r3 w22 H locs h hP hD hS => ?_)
    have hP : va_P G.1 vwCl (wM G ad nw ps er us un od li st lm hs) H := hP
    have hD : va_D A (wM G ad nw ps er us un od li st lm hs) := hD
    try dsimp only at h
    refine lv_if_ne (tgt := 30) hx hb dX6_unfold_20 (by decide) (fun c_4 => ?_) (fun c_4 => ?_)
    · have h := h.1 c_4
      refine lv_aload_n hx hb dX6_unfold_30 rfl (lv_at hl 0 rfl) ?_
      refine kc_v (wr := ([] : va_W)) (va_runV (As := []) (rest := []) ⟨hx, hb, hml, hown, hts⟩ (c_X6_save l G ad _ nw ps er us un od li st lm hs  h) (cwV 0 hts gX6_unfold_X6_save rfl rfl rfl (by decide +kernel) ⟨Nat.le_of_ble_eq_true rfl, Nat.le_of_ble_eq_true rfl⟩) (kpV hK hP hD hZ hS hA [0, 1, 2, 3, 4, 5, 6, 7] rfl (by decide) (q0 := 0) (ci := 6) rfl rfl) rfl rfl hl.1 rfl (lv_room (Nat.le_of_ble_eq_true rfl)) dX6_unfold_31 ⟨Nat.zero_le _, Nat.zero_le _⟩) hP hD hS hA [0, 1, 2, 3, 4, 5, 6, 7] [] rfl rfl (by decide) (by decide) (fun w18 H locs h hP hD hS => ?_)
      obtain ⟨u6, u7⟩ := w18
      have hP : va_P G.1 vwCl (wM G ad nw u6 er us un od li u7 lm hs) H := hP
      have hD : va_D A (wM G ad nw u6 er us un od li u7 lm hs) := hD
      try dsimp only at h
      refine lv_aload_n hx hb dX6_unfold_34 rfl (lv_at hl 0 rfl) ?_
      refine lv_aload_n hx hb dX6_unfold_35 rfl (lv_at hl 0 rfl) ?_
      refine lv_iload_n hx hb dX6_unfold_36 rfl (lv_at hl 1 rfl) ?_
      refine kc_i (wr := ([] : va_W)) (va_runV (As := [.int a1]) (rest := [.ref (ad 0)]) ⟨hx, hb, hml, hown, hts⟩ (c_X6_partnerOf l G ad _ nw u6 er us un od li u7 lm hs a1 h) (cwV 1 hts gX6_unfold_X6_partnerOf rfl rfl rfl (by decide +kernel) ⟨Nat.le_of_ble_eq_true rfl, Nat.le_of_ble_eq_true rfl⟩) (kpV hK hP hD hZ hS hA [0, 1, 2, 3, 4, 5, 6, 7] rfl (by decide) (q0 := 0) (ci := 6) rfl rfl) rfl rfl hl.1 rfl (lv_room (Nat.le_of_ble_eq_true rfl)) dX6_unfold_37 ⟨Nat.zero_le _, Nat.zero_le _⟩) hP hD hS hA [0, 1, 2, 3, 4, 5, 6, 7] [] rfl rfl (by decide) (by decide) (fun r8 w17 H locs h hP hD hS => ?_)
      have hP : va_P G.1 vwCl (wM G ad nw u6 er us un od li u7 lm hs) H := hP
      have hD : va_D A (wM G ad nw u6 er us un od li u7 lm hs) := hD
      try dsimp only at h
      refine kc_v (wr := ([] : va_W)) (va_runV (As := [.int r8]) (rest := []) ⟨hx, hb, hml, hown, hts⟩ (c_X6_apart l G ad _ nw u6 er us un od li u7 lm hs r8 h) (cwV 1 hts gX6_unfold_X6_apart rfl rfl rfl (by decide +kernel) ⟨Nat.le_of_ble_eq_true rfl, Nat.le_of_ble_eq_true rfl⟩) (kpV hK hP hD hZ hS hA [0, 1, 2, 3, 4, 5, 6, 7] rfl (by decide) (q0 := 0) (ci := 6) rfl rfl) rfl rfl hl.1 rfl (lv_room (Nat.le_of_ble_eq_true rfl)) dX6_unfold_40 ⟨Nat.zero_le _, Nat.zero_le _⟩) hP hD hS hA [0, 1, 2, 3, 4, 5, 6, 7] [] rfl rfl (by decide) (by decide) (fun w16 H locs h hP hD hS => ?_)
      obtain ⟨u10, rfl⟩ : ∃ z, z = w16 := ⟨_, rfl⟩
      have hP : va_P G.1 vwCl (wM G ad u10 u6 er us un od li u7 lm hs) H := hP
      have hD : va_D A (wM G ad u10 u6 er us un od li u7 lm hs) := hD
      try dsimp only at h
      refine lv_aload_n hx hb dX6_unfold_43 rfl (lv_at hl 0 rfl) ?_
      refine lv_iload_n hx hb dX6_unfold_44 rfl (lv_at hl 1 rfl) ?_
      refine kc_v (wr := ([] : va_W)) (va_runV (As := [.int a1]) (rest := []) ⟨hx, hb, hml, hown, hts⟩ (c_X6_apart l G ad _ u10 u6 er us un od li u7 lm hs a1 h) (cwV 1 hts gX6_unfold_X6_apart rfl rfl rfl (by decide +kernel) ⟨Nat.le_of_ble_eq_true rfl, Nat.le_of_ble_eq_true rfl⟩) (kpV hK hP hD hZ hS hA [0, 1, 2, 3, 4, 5, 6, 7] rfl (by decide) (q0 := 0) (ci := 6) rfl rfl) rfl rfl hl.1 rfl (lv_room (Nat.le_of_ble_eq_true rfl)) dX6_unfold_45 ⟨Nat.zero_le _, Nat.zero_le _⟩) hP hD hS hA [0, 1, 2, 3, 4, 5, 6, 7] [] rfl rfl (by decide) (by decide) (fun w15 H locs h hP hD hS => ?_)
      obtain ⟨u12, rfl⟩ : ∃ z, z = w15 := ⟨_, rfl⟩
      have hP : va_P G.1 vwCl (wM G ad u12 u6 er us un od li u7 lm hs) H := hP
      have hD : va_D A (wM G ad u12 u6 er us un od li u7 lm hs) := hD
      try dsimp only at h
      refine lv_aload_n hx hb dX6_unfold_48 rfl (lv_at hl 0 rfl) ?_
      refine kc_i (wr := ([] : va_W)) (va_runV (As := []) (rest := []) ⟨hx, hb, hml, hown, hts⟩ (c_X6_foldMany l G ad _ u12 u6 er us un od li u7 lm hs  h) (cwV 0 hts gX6_unfold_X6_foldMany rfl rfl rfl (by decide +kernel) ⟨Nat.le_of_ble_eq_true rfl, Nat.le_of_ble_eq_true rfl⟩) (kpV hK hP hD hZ hS hA [0, 1, 2, 3, 4, 5, 6, 7] rfl (by decide) (q0 := 0) (ci := 6) rfl rfl) rfl rfl hl.1 rfl (lv_room (Nat.le_of_ble_eq_true rfl)) dX6_unfold_49 ⟨Nat.zero_le _, Nat.zero_le _⟩) hP hD hS hA [0, 1, 2, 3, 4, 5, 6, 7] [] rfl rfl (by decide) (by decide) (fun r13 w14 H locs h hP hD hS => ?_)
      have hP : va_P G.1 vwCl (wM G ad u12 u6 er us un od li u7 lm hs) H := hP
      have hD : va_D A (wM G ad u12 u6 er us un od li u7 lm hs) := hD
      try dsimp only at h
      exact W.iret hx hb hr (fun t ht hW => ⟨⟨_, (u12, u6, er, u7), rfl, h, by rw [ht]; exact hP, hD⟩, hS.F ht⟩) hS.2.2 dX6_unfold_52
    · have h := h.2 c_4
      refine lv_aload_n hx hb dX6_unfold_23 rfl (lv_at hl 0 rfl) ?_
      refine lv_bipush (v := (-3 : Int32)) hx hb dX6_unfold_24 (by decide) ?_
      refine kc_i (wr := ([] : va_W)) (va_runV (As := [.int (-3 : Int32)]) (rest := []) ⟨hx, hb, hml, hown, hts⟩ (c_X6_error l G ad _ nw ps er us un od li st lm hs (-3 : Int32) h) (cwV 1 hts gX6_unfold_X6_error rfl rfl rfl (by decide +kernel) ⟨Nat.le_of_ble_eq_true rfl, Nat.le_of_ble_eq_true rfl⟩) (kpV hK hP hD hZ hS hA [0, 1, 2, 3, 4, 5, 6, 7] rfl (by decide) (q0 := 0) (ci := 6) rfl rfl) rfl rfl hl.1 rfl (lv_room (Nat.le_of_ble_eq_true rfl)) dX6_unfold_26 ⟨Nat.zero_le _, Nat.zero_le _⟩) hP hD hS hA [0, 1, 2, 3, 4, 5, 6, 7] [] rfl rfl (by decide) (by decide) (fun r19 w21 H locs h hP hD hS => ?_)
      obtain ⟨u20, rfl⟩ : ∃ z, z = w21 := ⟨_, rfl⟩
      have hP : va_P G.1 vwCl (wM G ad nw ps u20 us un od li st lm hs) H := hP
      have hD : va_D A (wM G ad nw ps u20 us un od li st lm hs) := hD
      try dsimp only at h
      exact W.iret hx hb hr (fun t ht hW => ⟨⟨_, (nw, ps, u20, st), rfl, h, by rw [ht]; exact hP, hD⟩, hS.F ht⟩) hS.2.2 dX6_unfold_29
  · have h := h.2 c_2
    refine lv_aload_n hx hb dX6_unfold_8 rfl (lv_at hl 0 rfl) ?_
    refine lv_bipush (v := (-2 : Int32)) hx hb dX6_unfold_9 (by decide) ?_
    refine kc_i (wr := ([] : va_W)) (va_runV (As := [.int (-2 : Int32)]) (rest := []) ⟨hx, hb, hml, hown, hts⟩ (c_X6_error l G ad _ nw ps er us un od li st lm hs (-2 : Int32) h) (cwV 1 hts gX6_unfold_X6_error rfl rfl rfl (by decide +kernel) ⟨Nat.le_of_ble_eq_true rfl, Nat.le_of_ble_eq_true rfl⟩) (kpV hK hP hD hZ hS hA [0, 1, 2, 3, 4, 5, 6, 7] rfl (by decide) (q0 := 0) (ci := 6) rfl rfl) rfl rfl hl.1 rfl (lv_room (Nat.le_of_ble_eq_true rfl)) dX6_unfold_11 ⟨Nat.zero_le _, Nat.zero_le _⟩) hP hD hS hA [0, 1, 2, 3, 4, 5, 6, 7] [] rfl rfl (by decide) (by decide) (fun r23 w25 H locs h hP hD hS => ?_)
    obtain ⟨u24, rfl⟩ : ∃ z, z = w25 := ⟨_, rfl⟩
    have hP : va_P G.1 vwCl (wM G ad nw ps u24 us un od li st lm hs) H := hP
    have hD : va_D A (wM G ad nw ps u24 us un od li st lm hs) := hD
    try dsimp only at h
    exact W.iret hx hb hr (fun t ht hW => ⟨⟨_, (nw, ps, u24, st), rfl, h, by rw [ht]; exact hP, hD⟩, hS.F ht⟩) hS.2.2 dX6_unfold_14
def wp_X6_partner (a1 : Int32) (nw : Nat → Int32) (er : Nat → Int32) (K : Int32 → (Nat → Int32) → Prop) : Prop :=
 wp_X6_isColumn a1 nw (fun (r1 : Int32) => ((r1 = 0 → wp_X6_error (-2 : Int32) er (fun (r3 : Int32) (u4 : Nat → Int32) => K r3 u4)) ∧
 (¬ (r1 = 0) → wp_X6_partnerOf a1 nw (fun (r6 : Int32) => K r6 er))))
abbrev rm_X6_partner : Room := { frames := 2, cells := 0, slots := 0, locals := 43 }
set_option maxHeartbeats 4000000 in
set_option maxRecDepth 100000 in
theorem c_X6_partner (l : Launch) (G : GG) (ad : Nat → Nat) (sz : Nat) (nw : Nat → Int32) (ps : Nat → Int32) (er : Nat → Int32) (us : Nat → Int32) (un : Nat → Int32) (od : Nat → Int32) (li : Nat → Int32) (st : Int32) (lm : Int32) (hs : Int64) (a1 : Int32) {K : Int32 → (Nat → Int32) → Prop} (h : wp_X6_partner a1 nw er K) : CI l yX6_partner wsX6_partner rm_X6_partner G [.ref (ad 0), .int a1] (wM G ad nw ps er us un od li st lm hs) sz (fun u : (Nat → Int32) => wM G ad nw ps u us un od li st lm hs) (fun r u => K r u) := by
  refine Met.ofW (cc := cX6_partner) (maxL := 2) (ret := (some .int)) (by decide) rfl ?_
  intro p e s m args below meth c s₁ B hml hv
  obtain ⟨rfl, hsz, hP, hK, hD0, hZ⟩ := hv
  have hx := B.exec
  have hb := B.bytes
  have hr := B.returns
  have hts := atoms_spec (ws := wsX6_partner) B.pre
  have hown : s.vm.findClass RX6 = some m.cls := findClass_of_methodNamed B.named
  have hlocks := B.notSynchronized
  subst hsz
  have hD := hD0.self (sz := s.heap.size)
  generalize hAe : va_A (wM G ad nw ps er us un od li st lm hs) s.heap.size = A at hD hZ ⊢
  have hA : ∀ q : Nat, s.heap.size ≤ q → A q := fun q h => by rw [← hAe]; exact Or.inr h
  have hS : va_S A s.heap s.heap [] := va_S.rf
  have hl := lv_entry ([.ref (ad 0), .int a1]) (n := 2) (Nat.le_of_ble_eq_true rfl)
  rw [lg_entry_eq]
  generalize (lg_sl ([.ref (ad 0), .int a1]) ++ List.replicate (2 - (lg_sl ([.ref (ad 0), .int a1])).length) Slot.unset).toArray = ls at hl ⊢
  have hl : lv_has ls 2 [(0, .ref (ad 0)), (1, .int a1)] := hl
  unfold wp_X6_partner at h
  refine lv_aload_n hx hb dX6_partner_0 rfl (lv_at hl 0 rfl) ?_
  refine lv_iload_n hx hb dX6_partner_1 rfl (lv_at hl 1 rfl) ?_
  refine kc_i (wr := ([] : va_W)) (va_runV (As := [.int a1]) (rest := []) ⟨hx, hb, hml, hown, hts⟩ (c_X6_isColumn l G ad _ nw ps er us un od li st lm hs a1 h) (cwV 1 hts gX6_partner_X6_isColumn rfl rfl rfl (by decide +kernel) ⟨Nat.le_of_ble_eq_true rfl, Nat.le_of_ble_eq_true rfl⟩) (kpV hK hP hD hZ hS hA [0, 1, 2, 3, 4, 5, 6, 7] rfl (by decide) (q0 := 0) (ci := 6) rfl rfl) rfl rfl hl.1 rfl (lv_room (Nat.le_of_ble_eq_true rfl)) dX6_partner_2 ⟨Nat.zero_le _, Nat.zero_le _⟩) hP hD hS hA [0, 1, 2, 3, 4, 5, 6, 7] [] rfl rfl (by decide) (by decide) (fun r1 w8 H locs h hP hD hS => ?_)
  have hP : va_P G.1 vwCl (wM G ad nw ps er us un od li st lm hs) H := hP
  have hD : va_D A (wM G ad nw ps er us un od li st lm hs) := hD
  try dsimp only at h
  refine lv_if_eq (tgt := 16) hx hb dX6_partner_5 (by decide) (fun c_2 => ?_) (fun c_2 => ?_)
  · have h := h.1 c_2
    refine lv_aload_n hx hb dX6_partner_16 rfl (lv_at hl 0 rfl) ?_
    refine lv_bipush (v := (-2 : Int32)) hx hb dX6_partner_17 (by decide) ?_
    refine kc_i (wr := ([] : va_W)) (va_runV (As := [.int (-2 : Int32)]) (rest := []) ⟨hx, hb, hml, hown, hts⟩ (c_X6_error l G ad _ nw ps er us un od li st lm hs (-2 : Int32) h) (cwV 1 hts gX6_partner_X6_error rfl rfl rfl (by decide +kernel) ⟨Nat.le_of_ble_eq_true rfl, Nat.le_of_ble_eq_true rfl⟩) (kpV hK hP hD hZ hS hA [0, 1, 2, 3, 4, 5, 6, 7] rfl (by decide) (q0 := 0) (ci := 6) rfl rfl) rfl rfl hl.1 rfl (lv_room (Nat.le_of_ble_eq_true rfl)) dX6_partner_19 ⟨Nat.zero_le _, Nat.zero_le _⟩) hP hD hS hA [0, 1, 2, 3, 4, 5, 6, 7] [] rfl rfl (by decide) (by decide) (fun r3 w5 H locs h hP hD hS => ?_)
    obtain ⟨u4, rfl⟩ : ∃ z, z = w5 := ⟨_, rfl⟩
    have hP : va_P G.1 vwCl (wM G ad nw ps u4 us un od li st lm hs) H := hP
    have hD : va_D A (wM G ad nw ps u4 us un od li st lm hs) := hD
    try dsimp only at h
    exact W.iret hx hb hr (fun t ht hW => ⟨⟨_, u4, rfl, h, by rw [ht]; exact hP, hD⟩, hS.F ht⟩) hS.2.2 dX6_partner_22
  · have h := h.2 c_2
    refine lv_aload_n hx hb dX6_partner_8 rfl (lv_at hl 0 rfl) ?_
    refine lv_iload_n hx hb dX6_partner_9 rfl (lv_at hl 1 rfl) ?_
    refine kc_i (wr := ([] : va_W)) (va_runV (As := [.int a1]) (rest := []) ⟨hx, hb, hml, hown, hts⟩ (c_X6_partnerOf l G ad _ nw ps er us un od li st lm hs a1 h) (cwV 1 hts gX6_partner_X6_partnerOf rfl rfl rfl (by decide +kernel) ⟨Nat.le_of_ble_eq_true rfl, Nat.le_of_ble_eq_true rfl⟩) (kpV hK hP hD hZ hS hA [0, 1, 2, 3, 4, 5, 6, 7] rfl (by decide) (q0 := 0) (ci := 6) rfl rfl) rfl rfl hl.1 rfl (lv_room (Nat.le_of_ble_eq_true rfl)) dX6_partner_10 ⟨Nat.zero_le _, Nat.zero_le _⟩) hP hD hS hA [0, 1, 2, 3, 4, 5, 6, 7] [] rfl rfl (by decide) (by decide) (fun r6 w7 H locs h hP hD hS => ?_)
    have hP : va_P G.1 vwCl (wM G ad nw ps er us un od li st lm hs) H := hP
    have hD : va_D A (wM G ad nw ps er us un od li st lm hs) := hD
    try dsimp only at h
    refine lv_goto (tgt := 22) hx hb dX6_partner_13 (by decide) ?_
    exact W.iret hx hb hr (fun t ht hW => ⟨⟨_, er, rfl, h, by rw [ht]; exact hP, hD⟩, hS.F ht⟩) hS.2.2 dX6_partner_22
def wp_X6_folds (nw : Nat → Int32) (K : Int32 → Prop) : Prop :=
 wp_X6_foldMany nw (fun (r1 : Int32) => K r1)
abbrev rm_X6_folds : Room := { frames := 1, cells := 0, slots := 0, locals := 22 }
set_option maxHeartbeats 4000000 in
set_option maxRecDepth 100000 in
theorem c_X6_folds (l : Launch) (G : GG) (ad : Nat → Nat) (sz : Nat) (nw : Nat → Int32) (ps : Nat → Int32) (er : Nat → Int32) (us : Nat → Int32) (un : Nat → Int32) (od : Nat → Int32) (li : Nat → Int32) (st : Int32) (lm : Int32) (hs : Int64) {K : Int32 → Prop} (h : wp_X6_folds nw K) : CI l yX6_folds wsX6_folds rm_X6_folds G [.ref (ad 0)] (wM G ad nw ps er us un od li st lm hs) sz (fun u : Unit => wM G ad nw ps er us un od li st lm hs) (fun r u => K r ) := by
  refine Met.ofW (cc := cX6_folds) (maxL := 1) (ret := (some .int)) (by decide) rfl ?_
  intro p e s m args below meth c s₁ B hml hv
  obtain ⟨rfl, hsz, hP, hK, hD0, hZ⟩ := hv
  have hx := B.exec
  have hb := B.bytes
  have hr := B.returns
  have hts := atoms_spec (ws := wsX6_folds) B.pre
  have hown : s.vm.findClass RX6 = some m.cls := findClass_of_methodNamed B.named
  have hlocks := B.notSynchronized
  subst hsz
  have hD := hD0.self (sz := s.heap.size)
  generalize hAe : va_A (wM G ad nw ps er us un od li st lm hs) s.heap.size = A at hD hZ ⊢
  have hA : ∀ q : Nat, s.heap.size ≤ q → A q := fun q h => by rw [← hAe]; exact Or.inr h
  have hS : va_S A s.heap s.heap [] := va_S.rf
  have hl := lv_entry ([.ref (ad 0)]) (n := 1) (Nat.le_of_ble_eq_true rfl)
  rw [lg_entry_eq]
  generalize (lg_sl ([.ref (ad 0)]) ++ List.replicate (1 - (lg_sl ([.ref (ad 0)])).length) Slot.unset).toArray = ls at hl ⊢
  have hl : lv_has ls 1 [(0, .ref (ad 0))] := hl
  unfold wp_X6_folds at h
  refine lv_aload_n hx hb dX6_folds_0 rfl (lv_at hl 0 rfl) ?_
  refine kc_i (wr := ([] : va_W)) (va_runV (As := []) (rest := []) ⟨hx, hb, hml, hown, hts⟩ (c_X6_foldMany l G ad _ nw ps er us un od li st lm hs  h) (cwV 0 hts gX6_folds_X6_foldMany rfl rfl rfl (by decide +kernel) ⟨Nat.le_of_ble_eq_true rfl, Nat.le_of_ble_eq_true rfl⟩) (kpV hK hP hD hZ hS hA [0, 1, 2, 3, 4, 5, 6, 7] rfl (by decide) (q0 := 0) (ci := 6) rfl rfl) rfl rfl hl.1 rfl (lv_room (Nat.le_of_ble_eq_true rfl)) dX6_folds_1 ⟨Nat.zero_le _, Nat.zero_le _⟩) hP hD hS hA [0, 1, 2, 3, 4, 5, 6, 7] [] rfl rfl (by decide) (by decide) (fun r1 w2 H locs h hP hD hS => ?_)
  have hP : va_P G.1 vwCl (wM G ad nw ps er us un od li st lm hs) H := hP
  have hD : va_D A (wM G ad nw ps er us un od li st lm hs) := hD
  try dsimp only at h
  exact W.iret hx hb hr (fun t ht hW => ⟨⟨_, (), rfl, h, by rw [ht]; exact hP, hD⟩, hS.F ht⟩) hS.2.2 dX6_folds_4
def wp_X6_lay (nw : Nat → Int32) (us : Nat → Int32) (un : Nat → Int32) (od : Nat → Int32) (K : (Nat → Int32) → (Nat → Int32) → (Nat → Int32) → Prop) : Prop :=
 wp_X6_layDemands nw us un (fun (u2 : Nat → Int32) (u3 : Nat → Int32) => wp_X6_layRows nw u3 od (fun (r4 : Int32) (u5 : Nat → Int32) => K u2 u3 u5))
abbrev rm_X6_lay : Room := { frames := 4, cells := 0, slots := 0, locals := 87 }
set_option maxHeartbeats 4000000 in
set_option maxRecDepth 100000 in
theorem c_X6_lay (l : Launch) (G : GG) (ad : Nat → Nat) (sz : Nat) (nw : Nat → Int32) (ps : Nat → Int32) (er : Nat → Int32) (us : Nat → Int32) (un : Nat → Int32) (od : Nat → Int32) (li : Nat → Int32) (st : Int32) (lm : Int32) (hs : Int64) {K : (Nat → Int32) → (Nat → Int32) → (Nat → Int32) → Prop} (h : wp_X6_lay nw us un od K) : CV l yX6_lay wsX6_lay rm_X6_lay G [.ref (ad 0)] (wM G ad nw ps er us un od li st lm hs) sz (fun u : (Nat → Int32) × (Nat → Int32) × (Nat → Int32) => wM G ad nw ps er u.1 u.2.1 u.2.2 li st lm hs) (fun u => K u.1 u.2.1 u.2.2) := by
  refine Met.ofW (cc := cX6_lay) (maxL := 2) (ret := none) (by decide) rfl ?_
  intro p e s m args below meth c s₁ B hml hv
  obtain ⟨rfl, hsz, hP, hK, hD0, hZ⟩ := hv
  have hx := B.exec
  have hb := B.bytes
  have hr := B.returns
  have hts := atoms_spec (ws := wsX6_lay) B.pre
  have hown : s.vm.findClass RX6 = some m.cls := findClass_of_methodNamed B.named
  have hlocks := B.notSynchronized
  subst hsz
  have hD := hD0.self (sz := s.heap.size)
  generalize hAe : va_A (wM G ad nw ps er us un od li st lm hs) s.heap.size = A at hD hZ ⊢
  have hA : ∀ q : Nat, s.heap.size ≤ q → A q := fun q h => by rw [← hAe]; exact Or.inr h
  have hS : va_S A s.heap s.heap [] := va_S.rf
  have hl := lv_entry ([.ref (ad 0)]) (n := 2) (Nat.le_of_ble_eq_true rfl)
  rw [lg_entry_eq]
  generalize (lg_sl ([.ref (ad 0)]) ++ List.replicate (2 - (lg_sl ([.ref (ad 0)])).length) Slot.unset).toArray = ls at hl ⊢
  have hl : lv_has ls 2 [(0, .ref (ad 0))] := hl
  unfold wp_X6_lay at h
  refine lv_aload_n hx hb dX6_lay_0 rfl (lv_at hl 0 rfl) ?_
  refine kc_v (wr := ([] : va_W)) (va_runV (As := []) (rest := []) ⟨hx, hb, hml, hown, hts⟩ (c_X6_layDemands l G ad _ nw ps er us un od li st lm hs  h) (cwV 0 hts gX6_lay_X6_layDemands rfl rfl rfl (by decide +kernel) ⟨Nat.le_of_ble_eq_true rfl, Nat.le_of_ble_eq_true rfl⟩) (kpV hK hP hD hZ hS hA [0, 1, 2, 3, 4, 5, 6, 7] rfl (by decide) (q0 := 0) (ci := 6) rfl rfl) rfl rfl hl.1 rfl (lv_room (Nat.le_of_ble_eq_true rfl)) dX6_lay_1 ⟨Nat.zero_le _, Nat.zero_le _⟩) hP hD hS hA [0, 1, 2, 3, 4, 5, 6, 7] [] rfl rfl (by decide) (by decide) (fun w7 H locs h hP hD hS => ?_)
  obtain ⟨u2, u3⟩ := w7
  have hP : va_P G.1 vwCl (wM G ad nw ps er u2 u3 od li st lm hs) H := hP
  have hD : va_D A (wM G ad nw ps er u2 u3 od li st lm hs) := hD
  try dsimp only at h
  refine lv_aload_n hx hb dX6_lay_4 rfl (lv_at hl 0 rfl) ?_
  refine kc_i (wr := ([] : va_W)) (va_runV (As := []) (rest := []) ⟨hx, hb, hml, hown, hts⟩ (c_X6_layRows l G ad _ nw ps er u2 u3 od li st lm hs  h) (cwV 0 hts gX6_lay_X6_layRows rfl rfl rfl (by decide +kernel) ⟨Nat.le_of_ble_eq_true rfl, Nat.le_of_ble_eq_true rfl⟩) (kpV hK hP hD hZ hS hA [0, 1, 2, 3, 4, 5, 6, 7] rfl (by decide) (q0 := 0) (ci := 6) rfl rfl) rfl rfl hl.1 rfl (lv_room (Nat.le_of_ble_eq_true rfl)) dX6_lay_5 ⟨Nat.zero_le _, Nat.zero_le _⟩) hP hD hS hA [0, 1, 2, 3, 4, 5, 6, 7] [] rfl rfl (by decide) (by decide) (fun r4 w6 H locs h hP hD hS => ?_)
  obtain ⟨u5, rfl⟩ : ∃ z, z = w6 := ⟨_, rfl⟩
  have hP : va_P G.1 vwCl (wM G ad nw ps er u2 u3 u5 li st lm hs) H := hP
  have hD : va_D A (wM G ad nw ps er u2 u3 u5 li st lm hs) := hD
  try dsimp only at h
  refine lv_istore_n (lv' := [(1, .int r4), (0, .ref (ad 0))]) hx hb dX6_lay_8 rfl hl (by decide) rfl (fun ls hl => ?_)
  exact W.vret hx hb hr (fun t ht hW => ⟨⟨(u2, u3, u5), rfl, h, by rw [ht]; exact hP, hD⟩, hS.F ht⟩) hS.2.2 dX6_lay_9
def wp_X6_rowAt (a1 : Int32) (od : Nat → Int32) (K : Int32 → Prop) : Prop :=
 (Lp1 (0 : Int32) (fun (x1 : Int32) (J5 : Int32 → Prop) => (vp_in x1 10 ∧ (((od x1.toNatClampNeg) = a1 → K x1) ∧
 (¬ ((od x1.toNatClampNeg) = a1) → J5 (x1 + (1 : Int32)))))))
abbrev rm_X6_rowAt : Room := { frames := 0, cells := 0, slots := 0, locals := 0 }
set_option maxHeartbeats 4000000 in
set_option maxRecDepth 100000 in
theorem c_X6_rowAt (l : Launch) (G : GG) (ad : Nat → Nat) (sz : Nat) (nw : Nat → Int32) (ps : Nat → Int32) (er : Nat → Int32) (us : Nat → Int32) (un : Nat → Int32) (od : Nat → Int32) (li : Nat → Int32) (st : Int32) (lm : Int32) (hs : Int64) (a1 : Int32) {K : Int32 → Prop} (h : wp_X6_rowAt a1 od K) : CI l yX6_rowAt wsX6_rowAt rm_X6_rowAt G [.ref (ad 0), .int a1] (wM G ad nw ps er us un od li st lm hs) sz (fun u : Unit => wM G ad nw ps er us un od li st lm hs) (fun r u => K r ) := by
  refine Met.ofW (cc := cX6_rowAt) (maxL := 3) (ret := (some .int)) (by decide) rfl ?_
  intro p e s m args below meth c s₁ B hml hv
  obtain ⟨rfl, hsz, hP, hK, hD0, hZ⟩ := hv
  have hx := B.exec
  have hb := B.bytes
  have hr := B.returns
  have hts := atoms_spec (ws := wsX6_rowAt) B.pre
  have hown : s.vm.findClass RX6 = some m.cls := findClass_of_methodNamed B.named
  have hlocks := B.notSynchronized
  subst hsz
  have hD := hD0.self (sz := s.heap.size)
  generalize hAe : va_A (wM G ad nw ps er us un od li st lm hs) s.heap.size = A at hD hZ ⊢
  have hA : ∀ q : Nat, s.heap.size ≤ q → A q := fun q h => by rw [← hAe]; exact Or.inr h
  have hS : va_S A s.heap s.heap [] := va_S.rf
  have hl := lv_entry ([.ref (ad 0), .int a1]) (n := 3) (Nat.le_of_ble_eq_true rfl)
  rw [lg_entry_eq]
  generalize (lg_sl ([.ref (ad 0), .int a1]) ++ List.replicate (3 - (lg_sl ([.ref (ad 0), .int a1])).length) Slot.unset).toArray = ls at hl ⊢
  have hl : lv_has ls 3 [(0, .ref (ad 0)), (1, .int a1)] := hl
  unfold wp_X6_rowAt at h
  have hinX6 : ∀ w ∈ wsX60, w ∈ wsX6_rowAt := by decide +kernel
  refine lv_iconst (v := (0 : Int32)) hx hb dX6_rowAt_0 (by decide) ?_
  refine lv_istore_n (lv' := [(2, .int (0 : Int32)), (0, .ref (ad 0)), (1, .int a1)]) hx hb dX6_rowAt_1 rfl hl (by decide) rfl (fun ls hl => ?_)
  obtain ⟨I2, n3, h0, hst4⟩ := h
  refine loopW (σ := Int32) (P := fun q H locs ls => va_P G.1 vwCl (wM G ad nw ps er us un od li st lm hs) H ∧ va_D A (wM G ad nw ps er us un od li st lm hs) ∧ va_S A s.heap H locs ∧ lv_has ls 3 [(0, .ref (ad 0)), (1, .int a1), (2, .int q)]) (I := fun n q => I2 n q) n3 (0 : Int32) h0 _ _ _ ⟨hP, hD, hS, lv_sub hl [1, 2, 0] rfl⟩ ?_
  rintro n7 x1 hI ih6 H locs ls ⟨hP, hD, hS, hl⟩
  have hP : va_P G.1 vwCl (wM G ad nw ps er us un od li st lm hs) H := hP
  have hD : va_D A (wM G ad nw ps er us un od li st lm hs) := hD
  have hl : lv_has ls 3 [(0, .ref (ad 0)), (1, .int a1), (2, .int x1)] := hl
  have h := hst4 n7 x1 hI
  refine lv_aload_n hx hb dX6_rowAt_2 rfl (lv_at hl 0 rfl) ?_
  refine va_get (D := G.1) (ci := 6) (v := .ref (ad 6)) (C := RX6) (T := TX6) (N := 10) hx hb hts hinX6 hown hK.1 hP 0 rfl rfl 6 (by decide) (hts (.fieldLink RX6 25 "PlaFolderModel" "order" "[I") (by decide +kernel)) (fun _ h9 => h9) rfl dX6_rowAt_3 ?_
  refine lv_iload_n hx hb dX6_rowAt_6 rfl (lv_at hl 2 rfl) ?_
  obtain ⟨hi8, h⟩ := h
  refine x_iald hx hb hK hP 6 rfl hi8 rfl dX6_rowAt_7 ?_
  refine lv_iload_n hx hb dX6_rowAt_8 rfl (lv_at hl 1 rfl) ?_
  refine lv_icmp_eq (tgt := 18) hx hb dX6_rowAt_9 (by decide) (fun c_9 => ?_) (fun c_9 => ?_)
  · have h := h.1 c_9
    refine lv_iload_n hx hb dX6_rowAt_18 rfl (lv_at hl 2 rfl) ?_
    exact W.iret hx hb hr (fun t ht hW => ⟨⟨_, (), rfl, h, by rw [ht]; exact hP, hD⟩, hS.F ht⟩) hS.2.2 dX6_rowAt_19
  · have h := h.2 c_9
    refine lv_iinc (v := (x1 + (1 : Int32))) (lv' := [(2, .int (x1 + (1 : Int32))), (0, .ref (ad 0)), (1, .int a1)]) hx hb dX6_rowAt_12 hl (k := 2) rfl rfl (by decide) rfl (fun ls hl => ?_)
    refine lv_goto (tgt := 2) hx hb dX6_rowAt_15 (by decide) ?_
    obtain ⟨n11, hn10, hI12⟩ := h
    exact ih6 n11 (x1 + (1 : Int32)) hn10 hI12 _ _ _ ⟨hP, hD, hS, lv_sub hl [1, 2, 0] rfl⟩
def wp_X6_termAt (a1 : Int32) (nw : Nat → Int32) (er : Nat → Int32) (us : Nat → Int32) (un : Nat → Int32) (od : Nat → Int32) (K : Int32 → (Nat → Int32) → (Nat → Int32) → (Nat → Int32) → (Nat → Int32) → Prop) : Prop :=
 wp_X6_in a1 (0 : Int32) ((nw 2) - (1 : Int32)) (fun (r1 : Int32) => ((¬ r1 = 0 → wp_X6_lay nw us un od (fun (u4 : Nat → Int32) (u5 : Nat → Int32) (u6 : Nat → Int32) => (vp_in a1 10 ∧ K (u6 a1.toNatClampNeg) er u4 u5 u6))) ∧
 (r1 = 0 → wp_X6_error (-2 : Int32) er (fun (r9 : Int32) (u10 : Nat → Int32) => K r9 u10 us un od))))
abbrev rm_X6_termAt : Room := { frames := 5, cells := 0, slots := 0, locals := 108 }
set_option maxHeartbeats 4000000 in
set_option maxRecDepth 100000 in
theorem c_X6_termAt (l : Launch) (G : GG) (ad : Nat → Nat) (sz : Nat) (nw : Nat → Int32) (ps : Nat → Int32) (er : Nat → Int32) (us : Nat → Int32) (un : Nat → Int32) (od : Nat → Int32) (li : Nat → Int32) (st : Int32) (lm : Int32) (hs : Int64) (a1 : Int32) {K : Int32 → (Nat → Int32) → (Nat → Int32) → (Nat → Int32) → (Nat → Int32) → Prop} (h : wp_X6_termAt a1 nw er us un od K) : CI l yX6_termAt wsX6_termAt rm_X6_termAt G [.ref (ad 0), .int a1] (wM G ad nw ps er us un od li st lm hs) sz (fun u : (Nat → Int32) × (Nat → Int32) × (Nat → Int32) × (Nat → Int32) => wM G ad nw ps u.1 u.2.1 u.2.2.1 u.2.2.2 li st lm hs) (fun r u => K r u.1 u.2.1 u.2.2.1 u.2.2.2) := by
  refine Met.ofW (cc := cX6_termAt) (maxL := 2) (ret := (some .int)) (by decide) rfl ?_
  intro p e s m args below meth c s₁ B hml hv
  obtain ⟨rfl, hsz, hP, hK, hD0, hZ⟩ := hv
  have hx := B.exec
  have hb := B.bytes
  have hr := B.returns
  have hts := atoms_spec (ws := wsX6_termAt) B.pre
  have hown : s.vm.findClass RX6 = some m.cls := findClass_of_methodNamed B.named
  have hlocks := B.notSynchronized
  subst hsz
  have hD := hD0.self (sz := s.heap.size)
  generalize hAe : va_A (wM G ad nw ps er us un od li st lm hs) s.heap.size = A at hD hZ ⊢
  have hA : ∀ q : Nat, s.heap.size ≤ q → A q := fun q h => by rw [← hAe]; exact Or.inr h
  have hS : va_S A s.heap s.heap [] := va_S.rf
  have hl := lv_entry ([.ref (ad 0), .int a1]) (n := 2) (Nat.le_of_ble_eq_true rfl)
  rw [lg_entry_eq]
  generalize (lg_sl ([.ref (ad 0), .int a1]) ++ List.replicate (2 - (lg_sl ([.ref (ad 0), .int a1])).length) Slot.unset).toArray = ls at hl ⊢
  have hl : lv_has ls 2 [(0, .ref (ad 0)), (1, .int a1)] := hl
  unfold wp_X6_termAt at h
  have hinX6 : ∀ w ∈ wsX60, w ∈ wsX6_termAt := by decide +kernel
  refine lv_iload_n hx hb dX6_termAt_0 rfl (lv_at hl 1 rfl) ?_
  refine lv_iconst (v := (0 : Int32)) hx hb dX6_termAt_1 (by decide) ?_
  refine lv_aload_n hx hb dX6_termAt_2 rfl (lv_at hl 0 rfl) ?_
  refine va_get (D := G.1) (ci := 6) (v := .ref (ad 1)) (C := RX6) (T := TX6) (N := 10) hx hb hts hinX6 hown hK.1 hP 0 rfl rfl 0 (by decide) (hts (.fieldLink RX6 7 "PlaFolderModel" "now" "[I") (by decide +kernel)) (fun _ h9 => h9) rfl dX6_termAt_3 ?_
  refine lv_iconst (v := (nI 2)) hx hb dX6_termAt_6 (by decide) ?_
  refine x_iald hx hb hK hP 1 rfl (vin_c (by decide)) (k := 2) (by decide) dX6_termAt_7 ?_
  refine lv_iconst (v := (1 : Int32)) hx hb dX6_termAt_8 (by decide) ?_
  refine lv_isub hx hb dX6_termAt_9 ?_
  refine kc_i (wr := ([0, 1, 2, 3, 4, 5, 6, 7] : List Nat).filterMap (fun i => (wM G ad nw ps er us un od li st lm hs)[i]?)) (va_runS (As := [.int a1, .int (0 : Int32), .int ((nw 2) - (1 : Int32))]) (rest := []) ⟨hx, hb, hml, hown, hts⟩ (c_X6_in l G  _  a1 (0 : Int32) ((nw 2) - (1 : Int32)) h) (va_cwS 3 hts gX6_termAt_X6_in rfl rfl rfl (by decide +kernel) ⟨Nat.le_of_ble_eq_true rfl, Nat.le_of_ble_eq_true rfl⟩) (kpS hK hP hD hZ hS hA [] rfl (by decide)) rfl rfl hl.1 rfl (lv_room (Nat.le_of_ble_eq_true rfl)) dX6_termAt_10 ⟨Nat.zero_le _, Nat.zero_le _⟩) hP hD hS hA [] [0, 1, 2, 3, 4, 5, 6, 7] rfl rfl (by decide) (by decide) (fun r1 w12 H locs h hP hD hS => ?_)
  have hP : va_P G.1 vwCl (wM G ad nw ps er us un od li st lm hs) H := hP
  have hD : va_D A (wM G ad nw ps er us un od li st lm hs) := hD
  try dsimp only at h
  refine lv_if_ne (tgt := 23) hx hb dX6_termAt_13 (by decide) (fun c_2 => ?_) (fun c_2 => ?_)
  · have h := h.1 c_2
    refine lv_aload_n hx hb dX6_termAt_23 rfl (lv_at hl 0 rfl) ?_
    refine kc_v (wr := ([] : va_W)) (va_runV (As := []) (rest := []) ⟨hx, hb, hml, hown, hts⟩ (c_X6_lay l G ad _ nw ps er us un od li st lm hs  h) (cwV 0 hts gX6_termAt_X6_lay rfl rfl rfl (by decide +kernel) ⟨Nat.le_of_ble_eq_true rfl, Nat.le_of_ble_eq_true rfl⟩) (kpV hK hP hD hZ hS hA [0, 1, 2, 3, 4, 5, 6, 7] rfl (by decide) (q0 := 0) (ci := 6) rfl rfl) rfl rfl hl.1 rfl (lv_room (Nat.le_of_ble_eq_true rfl)) dX6_termAt_24 ⟨Nat.zero_le _, Nat.zero_le _⟩) hP hD hS hA [0, 1, 2, 3, 4, 5, 6, 7] [] rfl rfl (by decide) (by decide) (fun w8 H locs h hP hD hS => ?_)
    obtain ⟨u4, u5, u6⟩ := w8
    have hP : va_P G.1 vwCl (wM G ad nw ps er u4 u5 u6 li st lm hs) H := hP
    have hD : va_D A (wM G ad nw ps er u4 u5 u6 li st lm hs) := hD
    try dsimp only at h
    refine lv_aload_n hx hb dX6_termAt_27 rfl (lv_at hl 0 rfl) ?_
    refine va_get (D := G.1) (ci := 6) (v := .ref (ad 6)) (C := RX6) (T := TX6) (N := 10) hx hb hts hinX6 hown hK.1 hP 0 rfl rfl 6 (by decide) (hts (.fieldLink RX6 25 "PlaFolderModel" "order" "[I") (by decide +kernel)) (fun _ h9 => h9) rfl dX6_termAt_28 ?_
    refine lv_iload_n hx hb dX6_termAt_31 rfl (lv_at hl 1 rfl) ?_
    obtain ⟨hi7, h⟩ := h
    refine x_iald hx hb hK hP 6 rfl hi7 rfl dX6_termAt_32 ?_
    exact W.iret hx hb hr (fun t ht hW => ⟨⟨_, (er, u4, u5, u6), rfl, h, by rw [ht]; exact hP, hD⟩, hS.F ht⟩) hS.2.2 dX6_termAt_33
  · have h := h.2 c_2
    refine lv_aload_n hx hb dX6_termAt_16 rfl (lv_at hl 0 rfl) ?_
    refine lv_bipush (v := (-2 : Int32)) hx hb dX6_termAt_17 (by decide) ?_
    refine kc_i (wr := ([] : va_W)) (va_runV (As := [.int (-2 : Int32)]) (rest := []) ⟨hx, hb, hml, hown, hts⟩ (c_X6_error l G ad _ nw ps er us un od li st lm hs (-2 : Int32) h) (cwV 1 hts gX6_termAt_X6_error rfl rfl rfl (by decide +kernel) ⟨Nat.le_of_ble_eq_true rfl, Nat.le_of_ble_eq_true rfl⟩) (kpV hK hP hD hZ hS hA [0, 1, 2, 3, 4, 5, 6, 7] rfl (by decide) (q0 := 0) (ci := 6) rfl rfl) rfl rfl hl.1 rfl (lv_room (Nat.le_of_ble_eq_true rfl)) dX6_termAt_19 ⟨Nat.zero_le _, Nat.zero_le _⟩) hP hD hS hA [0, 1, 2, 3, 4, 5, 6, 7] [] rfl rfl (by decide) (by decide) (fun r9 w11 H locs h hP hD hS => ?_)
    obtain ⟨u10, rfl⟩ : ∃ z, z = w11 := ⟨_, rfl⟩
    have hP : va_P G.1 vwCl (wM G ad nw ps u10 us un od li st lm hs) H := hP
    have hD : va_D A (wM G ad nw ps u10 us un od li st lm hs) := hD
    try dsimp only at h
    exact W.iret hx hb hr (fun t ht hW => ⟨⟨_, (u10, us, un, od), rfl, h, by rw [ht]; exact hP, hD⟩, hS.F ht⟩) hS.2.2 dX6_termAt_22
def wp_X6_rowOf (a1 : Int32) (nw : Nat → Int32) (er : Nat → Int32) (us : Nat → Int32) (un : Nat → Int32) (od : Nat → Int32) (K : Int32 → (Nat → Int32) → (Nat → Int32) → (Nat → Int32) → (Nat → Int32) → Prop) : Prop :=
 wp_X6_isTerm a1 nw (fun (r1 : Int32) => ((¬ r1 = 0 → wp_X6_lay nw us un od (fun (u4 : Nat → Int32) (u5 : Nat → Int32) (u6 : Nat → Int32) => wp_X6_rowAt a1 u6 (fun (r7 : Int32) => K r7 er u4 u5 u6))) ∧
 (r1 = 0 → wp_X6_error (-2 : Int32) er (fun (r10 : Int32) (u11 : Nat → Int32) => K r10 u11 us un od))))
abbrev rm_X6_rowOf : Room := { frames := 5, cells := 0, slots := 0, locals := 108 }
set_option maxHeartbeats 4000000 in
set_option maxRecDepth 100000 in
theorem c_X6_rowOf (l : Launch) (G : GG) (ad : Nat → Nat) (sz : Nat) (nw : Nat → Int32) (ps : Nat → Int32) (er : Nat → Int32) (us : Nat → Int32) (un : Nat → Int32) (od : Nat → Int32) (li : Nat → Int32) (st : Int32) (lm : Int32) (hs : Int64) (a1 : Int32) {K : Int32 → (Nat → Int32) → (Nat → Int32) → (Nat → Int32) → (Nat → Int32) → Prop} (h : wp_X6_rowOf a1 nw er us un od K) : CI l yX6_rowOf wsX6_rowOf rm_X6_rowOf G [.ref (ad 0), .int a1] (wM G ad nw ps er us un od li st lm hs) sz (fun u : (Nat → Int32) × (Nat → Int32) × (Nat → Int32) × (Nat → Int32) => wM G ad nw ps u.1 u.2.1 u.2.2.1 u.2.2.2 li st lm hs) (fun r u => K r u.1 u.2.1 u.2.2.1 u.2.2.2) := by
  refine Met.ofW (cc := cX6_rowOf) (maxL := 2) (ret := (some .int)) (by decide) rfl ?_
  intro p e s m args below meth c s₁ B hml hv
  obtain ⟨rfl, hsz, hP, hK, hD0, hZ⟩ := hv
  have hx := B.exec
  have hb := B.bytes
  have hr := B.returns
  have hts := atoms_spec (ws := wsX6_rowOf) B.pre
  have hown : s.vm.findClass RX6 = some m.cls := findClass_of_methodNamed B.named
  have hlocks := B.notSynchronized
  subst hsz
  have hD := hD0.self (sz := s.heap.size)
  generalize hAe : va_A (wM G ad nw ps er us un od li st lm hs) s.heap.size = A at hD hZ ⊢
  have hA : ∀ q : Nat, s.heap.size ≤ q → A q := fun q h => by rw [← hAe]; exact Or.inr h
  have hS : va_S A s.heap s.heap [] := va_S.rf
  have hl := lv_entry ([.ref (ad 0), .int a1]) (n := 2) (Nat.le_of_ble_eq_true rfl)
  rw [lg_entry_eq]
  generalize (lg_sl ([.ref (ad 0), .int a1]) ++ List.replicate (2 - (lg_sl ([.ref (ad 0), .int a1])).length) Slot.unset).toArray = ls at hl ⊢
  have hl : lv_has ls 2 [(0, .ref (ad 0)), (1, .int a1)] := hl
  unfold wp_X6_rowOf at h
  refine lv_aload_n hx hb dX6_rowOf_0 rfl (lv_at hl 0 rfl) ?_
  refine lv_iload_n hx hb dX6_rowOf_1 rfl (lv_at hl 1 rfl) ?_
  refine kc_i (wr := ([] : va_W)) (va_runV (As := [.int a1]) (rest := []) ⟨hx, hb, hml, hown, hts⟩ (c_X6_isTerm l G ad _ nw ps er us un od li st lm hs a1 h) (cwV 1 hts gX6_rowOf_X6_isTerm rfl rfl rfl (by decide +kernel) ⟨Nat.le_of_ble_eq_true rfl, Nat.le_of_ble_eq_true rfl⟩) (kpV hK hP hD hZ hS hA [0, 1, 2, 3, 4, 5, 6, 7] rfl (by decide) (q0 := 0) (ci := 6) rfl rfl) rfl rfl hl.1 rfl (lv_room (Nat.le_of_ble_eq_true rfl)) dX6_rowOf_2 ⟨Nat.zero_le _, Nat.zero_le _⟩) hP hD hS hA [0, 1, 2, 3, 4, 5, 6, 7] [] rfl rfl (by decide) (by decide) (fun r1 w13 H locs h hP hD hS => ?_)
  have hP : va_P G.1 vwCl (wM G ad nw ps er us un od li st lm hs) H := hP
  have hD : va_D A (wM G ad nw ps er us un od li st lm hs) := hD
  try dsimp only at h
  refine lv_if_ne (tgt := 15) hx hb dX6_rowOf_5 (by decide) (fun c_2 => ?_) (fun c_2 => ?_)
  · have h := h.1 c_2
    refine lv_aload_n hx hb dX6_rowOf_15 rfl (lv_at hl 0 rfl) ?_
    refine kc_v (wr := ([] : va_W)) (va_runV (As := []) (rest := []) ⟨hx, hb, hml, hown, hts⟩ (c_X6_lay l G ad _ nw ps er us un od li st lm hs  h) (cwV 0 hts gX6_rowOf_X6_lay rfl rfl rfl (by decide +kernel) ⟨Nat.le_of_ble_eq_true rfl, Nat.le_of_ble_eq_true rfl⟩) (kpV hK hP hD hZ hS hA [0, 1, 2, 3, 4, 5, 6, 7] rfl (by decide) (q0 := 0) (ci := 6) rfl rfl) rfl rfl hl.1 rfl (lv_room (Nat.le_of_ble_eq_true rfl)) dX6_rowOf_16 ⟨Nat.zero_le _, Nat.zero_le _⟩) hP hD hS hA [0, 1, 2, 3, 4, 5, 6, 7] [] rfl rfl (by decide) (by decide) (fun w9 H locs h hP hD hS => ?_)
    obtain ⟨u4, u5, u6⟩ := w9
    have hP : va_P G.1 vwCl (wM G ad nw ps er u4 u5 u6 li st lm hs) H := hP
    have hD : va_D A (wM G ad nw ps er u4 u5 u6 li st lm hs) := hD
    try dsimp only at h
    refine lv_aload_n hx hb dX6_rowOf_19 rfl (lv_at hl 0 rfl) ?_
    refine lv_iload_n hx hb dX6_rowOf_20 rfl (lv_at hl 1 rfl) ?_
    refine kc_i (wr := ([] : va_W)) (va_runV (As := [.int a1]) (rest := []) ⟨hx, hb, hml, hown, hts⟩ (c_X6_rowAt l G ad _ nw ps er u4 u5 u6 li st lm hs a1 h) (cwV 1 hts gX6_rowOf_X6_rowAt rfl rfl rfl (by decide +kernel) ⟨Nat.le_of_ble_eq_true rfl, Nat.le_of_ble_eq_true rfl⟩) (kpV hK hP hD hZ hS hA [0, 1, 2, 3, 4, 5, 6, 7] rfl (by decide) (q0 := 0) (ci := 6) rfl rfl) rfl rfl hl.1 rfl (lv_room (Nat.le_of_ble_eq_true rfl)) dX6_rowOf_21 ⟨Nat.zero_le _, Nat.zero_le _⟩) hP hD hS hA [0, 1, 2, 3, 4, 5, 6, 7] [] rfl rfl (by decide) (by decide) (fun r7 w8 H locs h hP hD hS => ?_)
    have hP : va_P G.1 vwCl (wM G ad nw ps er u4 u5 u6 li st lm hs) H := hP
    have hD : va_D A (wM G ad nw ps er u4 u5 u6 li st lm hs) := hD
    try dsimp only at h
    exact W.iret hx hb hr (fun t ht hW => ⟨⟨_, (er, u4, u5, u6), rfl, h, by rw [ht]; exact hP, hD⟩, hS.F ht⟩) hS.2.2 dX6_rowOf_24
  · have h := h.2 c_2
    refine lv_aload_n hx hb dX6_rowOf_8 rfl (lv_at hl 0 rfl) ?_
    refine lv_bipush (v := (-2 : Int32)) hx hb dX6_rowOf_9 (by decide) ?_
    refine kc_i (wr := ([] : va_W)) (va_runV (As := [.int (-2 : Int32)]) (rest := []) ⟨hx, hb, hml, hown, hts⟩ (c_X6_error l G ad _ nw ps er us un od li st lm hs (-2 : Int32) h) (cwV 1 hts gX6_rowOf_X6_error rfl rfl rfl (by decide +kernel) ⟨Nat.le_of_ble_eq_true rfl, Nat.le_of_ble_eq_true rfl⟩) (kpV hK hP hD hZ hS hA [0, 1, 2, 3, 4, 5, 6, 7] rfl (by decide) (q0 := 0) (ci := 6) rfl rfl) rfl rfl hl.1 rfl (lv_room (Nat.le_of_ble_eq_true rfl)) dX6_rowOf_11 ⟨Nat.zero_le _, Nat.zero_le _⟩) hP hD hS hA [0, 1, 2, 3, 4, 5, 6, 7] [] rfl rfl (by decide) (by decide) (fun r10 w12 H locs h hP hD hS => ?_)
    obtain ⟨u11, rfl⟩ : ∃ z, z = w12 := ⟨_, rfl⟩
    have hP : va_P G.1 vwCl (wM G ad nw ps u11 us un od li st lm hs) H := hP
    have hD : va_D A (wM G ad nw ps u11 us un od li st lm hs) := hD
    try dsimp only at h
    exact W.iret hx hb hr (fun t ht hW => ⟨⟨_, (u11, us, un, od), rfl, h, by rw [ht]; exact hP, hD⟩, hS.F ht⟩) hS.2.2 dX6_rowOf_14
