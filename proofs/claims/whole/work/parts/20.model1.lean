def wp_X6_in (a1 : Int32) (a2 : Int32) (a3 : Int32) (K : Int32 → Prop) : Prop :=
 ((a1 < a2 → K (0 : Int32)) ∧
 (¬ (a1 < a2) → ((a3 < a1 → K (0 : Int32)) ∧
 (¬ (a3 < a1) → K (1 : Int32)))))
abbrev rm_X6_in : Room := { frames := 0, cells := 0, slots := 0, locals := 0 }
set_option maxHeartbeats 4000000 in
set_option maxRecDepth 100000 in
theorem c_X6_in (l : Launch) (G : GG) (sz : Nat) (a1 : Int32) (a2 : Int32) (a3 : Int32) {K : Int32 → Prop} (h : wp_X6_in a1 a2 a3 K) : CI l yX6_in wsX6_in rm_X6_in G [.int a1, .int a2, .int a3] (([] : va_W)) sz (fun u : Unit => ([] : va_W)) (fun r u => K r ) := by
  refine Met.ofW (cc := cX6_in) (maxL := 3) (ret := (some .boolean)) (by decide) rfl ?_
  intro p e s m args below meth c s₁ B hml hv
  obtain ⟨rfl, hsz, hP, hK, hD0, hZ⟩ := hv
  have hx := B.exec
  have hb := B.bytes
  have hr := B.returns
  have hts := atoms_spec (ws := wsX6_in) B.pre
  have hown : s.vm.findClass RX6 = some m.cls := findClass_of_methodNamed B.named
  have hlocks := B.notSynchronized
  subst hsz
  have hD := hD0.self (sz := s.heap.size)
  generalize hAe : va_A (([] : va_W)) s.heap.size = A at hD hZ ⊢
  have hA : ∀ q : Nat, s.heap.size ≤ q → A q := fun q h => by rw [← hAe]; exact Or.inr h
  have hS : va_S A s.heap s.heap [] := va_S.rf
  have hl := lv_entry ([.int a1, .int a2, .int a3]) (n := 3) (Nat.le_of_ble_eq_true rfl)
  rw [lg_entry_eq]
  generalize (lg_sl ([.int a1, .int a2, .int a3]) ++ List.replicate (3 - (lg_sl ([.int a1, .int a2, .int a3])).length) Slot.unset).toArray = ls at hl ⊢
  have hl : lv_has ls 3 [(0, .int a1), (1, .int a2), (2, .int a3)] := hl
  unfold wp_X6_in at h
  refine lv_iload_n hx hb dX6_in_0 rfl (lv_at hl 0 rfl) ?_
  refine lv_iload_n hx hb dX6_in_1 rfl (lv_at hl 1 rfl) ?_
  refine lv_icmp_lt (tgt := 14) hx hb dX6_in_2 (by decide) (fun c_1 => ?_) (fun c_1 => ?_)
  · have h := h.1 c_1
    refine lv_iconst (v := (0 : Int32)) hx hb dX6_in_14 (by decide) ?_
    exact W.zret hx hb hr (by decide) (fun t ht hW => ⟨⟨_, (), rfl, h, by rw [ht]; exact hP, hD⟩, hS.F ht⟩) hS.2.2 dX6_in_15
  · have h := h.2 c_1
    refine lv_iload_n hx hb dX6_in_5 rfl (lv_at hl 0 rfl) ?_
    refine lv_iload_n hx hb dX6_in_6 rfl (lv_at hl 2 rfl) ?_
    refine lv_icmp_gt (tgt := 14) hx hb dX6_in_7 (by decide) (fun c_2 => ?_) (fun c_2 => ?_)
    · have h := h.1 c_2
      refine lv_iconst (v := (0 : Int32)) hx hb dX6_in_14 (by decide) ?_
      exact W.zret hx hb hr (by decide) (fun t ht hW => ⟨⟨_, (), rfl, h, by rw [ht]; exact hP, hD⟩, hS.F ht⟩) hS.2.2 dX6_in_15
    · have h := h.2 c_2
      refine lv_iconst (v := (1 : Int32)) hx hb dX6_in_10 (by decide) ?_
      refine lv_goto (tgt := 15) hx hb dX6_in_11 (by decide) ?_
      exact W.zret hx hb hr (by decide) (fun t ht hW => ⟨⟨_, (), rfl, h, by rw [ht]; exact hP, hD⟩, hS.F ht⟩) hS.2.2 dX6_in_15
def wp_X6_has (a1 : Int32) (a2 : Int32) (K : Int32 → Prop) : Prop :=
 ((¬ ((jshr a1 a2) &&& (1 : Int32)) = (1 : Int32) → K (0 : Int32)) ∧
 (((jshr a1 a2) &&& (1 : Int32)) = (1 : Int32) → K (1 : Int32)))
abbrev rm_X6_has : Room := { frames := 0, cells := 0, slots := 0, locals := 0 }
set_option maxHeartbeats 4000000 in
set_option maxRecDepth 100000 in
theorem c_X6_has (l : Launch) (G : GG) (sz : Nat) (a1 : Int32) (a2 : Int32) {K : Int32 → Prop} (h : wp_X6_has a1 a2 K) : CI l yX6_has wsX6_has rm_X6_has G [.int a1, .int a2] (([] : va_W)) sz (fun u : Unit => ([] : va_W)) (fun r u => K r ) := by
  refine Met.ofW (cc := cX6_has) (maxL := 2) (ret := (some .boolean)) (by decide) rfl ?_
  intro p e s m args below meth c s₁ B hml hv
  obtain ⟨rfl, hsz, hP, hK, hD0, hZ⟩ := hv
  have hx := B.exec
  have hb := B.bytes
  have hr := B.returns
  have hts := atoms_spec (ws := wsX6_has) B.pre
  have hown : s.vm.findClass RX6 = some m.cls := findClass_of_methodNamed B.named
  have hlocks := B.notSynchronized
  subst hsz
  have hD := hD0.self (sz := s.heap.size)
  generalize hAe : va_A (([] : va_W)) s.heap.size = A at hD hZ ⊢
  have hA : ∀ q : Nat, s.heap.size ≤ q → A q := fun q h => by rw [← hAe]; exact Or.inr h
  have hS : va_S A s.heap s.heap [] := va_S.rf
  have hl := lv_entry ([.int a1, .int a2]) (n := 2) (Nat.le_of_ble_eq_true rfl)
  rw [lg_entry_eq]
  generalize (lg_sl ([.int a1, .int a2]) ++ List.replicate (2 - (lg_sl ([.int a1, .int a2])).length) Slot.unset).toArray = ls at hl ⊢
  have hl : lv_has ls 2 [(0, .int a1), (1, .int a2)] := hl
  unfold wp_X6_has at h
  refine lv_iload_n hx hb dX6_has_0 rfl (lv_at hl 0 rfl) ?_
  refine lv_iload_n hx hb dX6_has_1 rfl (lv_at hl 1 rfl) ?_
  refine lv_ishr hx hb dX6_has_2 ?_
  refine lv_iconst (v := (1 : Int32)) hx hb dX6_has_3 (by decide) ?_
  refine lv_iand hx hb dX6_has_4 ?_
  refine lv_iconst (v := (1 : Int32)) hx hb dX6_has_5 (by decide) ?_
  refine lv_icmp_ne (tgt := 13) hx hb dX6_has_6 (by decide) (fun c_1 => ?_) (fun c_1 => ?_)
  · have h := h.1 c_1
    refine lv_iconst (v := (0 : Int32)) hx hb dX6_has_13 (by decide) ?_
    exact W.zret hx hb hr (by decide) (fun t ht hW => ⟨⟨_, (), rfl, h, by rw [ht]; exact hP, hD⟩, hS.F ht⟩) hS.2.2 dX6_has_14
  · have h := h.2 c_1
    refine lv_iconst (v := (1 : Int32)) hx hb dX6_has_9 (by decide) ?_
    refine lv_goto (tgt := 14) hx hb dX6_has_10 (by decide) ?_
    exact W.zret hx hb hr (by decide) (fun t ht hW => ⟨⟨_, (), rfl, h, by rw [ht]; exact hP, hD⟩, hS.F ht⟩) hS.2.2 dX6_has_14
def wp_X6_many (a1 : Int32) (K : Int32 → Prop) : Prop :=
 (Lp2 (0 : Int32) a1 (fun (x1 : Int32) (x2 : Int32) (J6 : Int32 → Int32 → Prop) => ((x2 = 0 → K x1) ∧
 (¬ (x2 = 0) → J6 (x1 + (1 : Int32)) (x2 &&& (x2 - (1 : Int32)))))))
abbrev rm_X6_many : Room := { frames := 0, cells := 0, slots := 0, locals := 0 }
set_option maxHeartbeats 4000000 in
set_option maxRecDepth 100000 in
theorem c_X6_many (l : Launch) (G : GG) (sz : Nat) (a1 : Int32) {K : Int32 → Prop} (h : wp_X6_many a1 K) : CI l yX6_many wsX6_many rm_X6_many G [.int a1] (([] : va_W)) sz (fun u : Unit => ([] : va_W)) (fun r u => K r ) := by
  refine Met.ofW (cc := cX6_many) (maxL := 3) (ret := (some .int)) (by decide) rfl ?_
  intro p e s m args below meth c s₁ B hml hv
  obtain ⟨rfl, hsz, hP, hK, hD0, hZ⟩ := hv
  have hx := B.exec
  have hb := B.bytes
  have hr := B.returns
  have hts := atoms_spec (ws := wsX6_many) B.pre
  have hown : s.vm.findClass RX6 = some m.cls := findClass_of_methodNamed B.named
  have hlocks := B.notSynchronized
  subst hsz
  have hD := hD0.self (sz := s.heap.size)
  generalize hAe : va_A (([] : va_W)) s.heap.size = A at hD hZ ⊢
  have hA : ∀ q : Nat, s.heap.size ≤ q → A q := fun q h => by rw [← hAe]; exact Or.inr h
  have hS : va_S A s.heap s.heap [] := va_S.rf
  have hl := lv_entry ([.int a1]) (n := 3) (Nat.le_of_ble_eq_true rfl)
  rw [lg_entry_eq]
  generalize (lg_sl ([.int a1]) ++ List.replicate (3 - (lg_sl ([.int a1])).length) Slot.unset).toArray = ls at hl ⊢
  have hl : lv_has ls 3 [(0, .int a1)] := hl
  unfold wp_X6_many at h
  refine lv_iconst (v := (0 : Int32)) hx hb dX6_many_0 (by decide) ?_
  refine lv_istore_n (lv' := [(1, .int (0 : Int32)), (0, .int a1)]) hx hb dX6_many_1 rfl hl (by decide) rfl (fun ls hl => ?_)
  refine lv_iload_n hx hb dX6_many_2 rfl (lv_at hl 1 rfl) ?_
  refine lv_istore_n (lv' := [(2, .int a1), (1, .int (0 : Int32)), (0, .int a1)]) hx hb dX6_many_3 rfl hl (by decide) rfl (fun ls hl => ?_)
  obtain ⟨I3, n4, h0, hst5⟩ := h
  refine loopW (σ := Int32 × Int32) (P := fun q H locs ls => va_P G.1 vwCl (([] : va_W)) H ∧ va_D A (([] : va_W)) ∧ va_S A s.heap H locs ∧ lv_has ls 3 [(1, .int q.1), (2, .int q.2)]) (I := fun n q => I3 n q.1 q.2) n4 ((0 : Int32), a1) h0 _ _ _ ⟨hP, hD, hS, lv_sub hl [1, 0] rfl⟩ ?_
  rintro n8 ⟨x1, x2⟩ hI ih7 H locs ls ⟨hP, hD, hS, hl⟩
  have hP : va_P G.1 vwCl (([] : va_W)) H := hP
  have hD : va_D A (([] : va_W)) := hD
  have hl : lv_has ls 3 [(1, .int x1), (2, .int x2)] := hl
  have h := hst5 n8 x1 x2 hI
  refine lv_iload_n hx hb dX6_many_4 rfl (lv_at hl 1 rfl) ?_
  refine lv_if_eq (tgt := 20) hx hb dX6_many_5 (by decide) (fun c_9 => ?_) (fun c_9 => ?_)
  · have h := h.1 c_9
    refine lv_iload_n hx hb dX6_many_20 rfl (lv_at hl 0 rfl) ?_
    exact W.iret hx hb hr (fun t ht hW => ⟨⟨_, (), rfl, h, by rw [ht]; exact hP, hD⟩, hS.F ht⟩) hS.2.2 dX6_many_21
  · have h := h.2 c_9
    refine lv_iinc (v := (x1 + (1 : Int32))) (lv' := [(1, .int (x1 + (1 : Int32))), (2, .int x2)]) hx hb dX6_many_8 hl (k := 0) rfl rfl (by decide) rfl (fun ls hl => ?_)
    refine lv_iload_n hx hb dX6_many_11 rfl (lv_at hl 1 rfl) ?_
    refine lv_iload_n hx hb dX6_many_12 rfl (lv_at hl 1 rfl) ?_
    refine lv_iconst (v := (1 : Int32)) hx hb dX6_many_13 (by decide) ?_
    refine lv_isub hx hb dX6_many_14 ?_
    refine lv_iand hx hb dX6_many_15 ?_
    refine lv_istore_n (lv' := [(2, .int (x2 &&& (x2 - (1 : Int32)))), (1, .int (x1 + (1 : Int32)))]) hx hb dX6_many_16 rfl hl (by decide) rfl (fun ls hl => ?_)
    refine lv_goto (tgt := 4) hx hb dX6_many_17 (by decide) ?_
    obtain ⟨n11, hn10, hI12⟩ := h
    exact ih7 n11 ((x1 + (1 : Int32)), (x2 &&& (x2 - (1 : Int32)))) hn10 hI12 _ _ _ ⟨hP, hD, hS, lv_sub hl [1, 0] rfl⟩
def wp_X6_error (a1 : Int32) (er : Nat → Int32) (K : Int32 → (Nat → Int32) → Prop) : Prop :=
 (vp_in ((-2 : Int32) - a1) 5 ∧ (vp_in ((-2 : Int32) - a1) 5 ∧ K a1 (upd er (((-2 : Int32) - a1).toNatClampNeg) ((er ((-2 : Int32) - a1).toNatClampNeg) + (1 : Int32)))))
abbrev rm_X6_error : Room := { frames := 0, cells := 0, slots := 0, locals := 0 }
set_option maxHeartbeats 4000000 in
set_option maxRecDepth 100000 in
theorem c_X6_error (l : Launch) (G : GG) (ad : Nat → Nat) (sz : Nat) (nw : Nat → Int32) (ps : Nat → Int32) (er : Nat → Int32) (us : Nat → Int32) (un : Nat → Int32) (od : Nat → Int32) (li : Nat → Int32) (st : Int32) (lm : Int32) (hs : Int64) (a1 : Int32) {K : Int32 → (Nat → Int32) → Prop} (h : wp_X6_error a1 er K) : CI l yX6_error wsX6_error rm_X6_error G [.ref (ad 0), .int a1] (wM G ad nw ps er us un od li st lm hs) sz (fun u : (Nat → Int32) => wM G ad nw ps u us un od li st lm hs) (fun r u => K r u) := by
  refine Met.ofW (cc := cX6_error) (maxL := 2) (ret := (some .int)) (by decide) rfl ?_
  intro p e s m args below meth c s₁ B hml hv
  obtain ⟨rfl, hsz, hP, hK, hD0, hZ⟩ := hv
  have hx := B.exec
  have hb := B.bytes
  have hr := B.returns
  have hts := atoms_spec (ws := wsX6_error) B.pre
  have hown : s.vm.findClass RX6 = some m.cls := findClass_of_methodNamed B.named
  have hlocks := B.notSynchronized
  subst hsz
  have hD := hD0.self (sz := s.heap.size)
  generalize hAe : va_A (wM G ad nw ps er us un od li st lm hs) s.heap.size = A at hD hZ ⊢
  have hA : ∀ q : Nat, s.heap.size ≤ q → A q := fun q h => by rw [← hAe]; exact Or.inr h
  have hS : va_S A s.heap s.heap [] := va_S.rf
  have hl := lv_entry ([.ref (ad 0), .int a1]) (n := 2) (Nat.le_of_ble_eq_true rfl)
  rw [lg_entry_eq]
  generalize (lg_sl ([.ref (ad 0), .int a1]) ++ List.replicate (2 - (lg_sl ([.ref (ad 0), .int a1])).length) Slot.unset).toArray = ls at hl ⊢
  have hl : lv_has ls 2 [(0, .ref (ad 0)), (1, .int a1)] := hl
  unfold wp_X6_error at h
  have hinX6 : ∀ w ∈ wsX60, w ∈ wsX6_error := by decide +kernel
  refine lv_aload_n hx hb dX6_error_0 rfl (lv_at hl 0 rfl) ?_
  refine va_get (D := G.1) (ci := 6) (v := .ref (ad 3)) (C := RX6) (T := TX6) (N := 10) hx hb hts hinX6 hown hK.1 hP 0 rfl rfl 3 (by decide) (hts (.fieldLink RX6 16 "PlaFolderModel" "errors" "[I") (by decide +kernel)) (fun _ h9 => h9) rfl dX6_error_1 ?_
  refine lv_bipush (v := (-2 : Int32)) hx hb dX6_error_4 (by decide) ?_
  refine lv_iload_n hx hb dX6_error_6 rfl (lv_at hl 1 rfl) ?_
  refine lv_isub hx hb dX6_error_7 ?_
  refine lv_dup2_11 hx hb dX6_error_8 rfl rfl ?_
  obtain ⟨hi1, h⟩ := h
  refine x_iald hx hb hK hP 3 rfl hi1 rfl dX6_error_9 ?_
  refine lv_iconst (v := (1 : Int32)) hx hb dX6_error_10 (by decide) ?_
  refine lv_iadd hx hb dX6_error_11 ?_
  obtain ⟨hi2, h⟩ := h
  refine x_iast hx hb hK hP hD hS 3 rfl hi2 rfl dX6_error_12 (fun H locs hP hD hS => ?_)
  have hP : va_P G.1 vwCl (wM G ad nw ps (upd er (((-2 : Int32) - a1).toNatClampNeg) ((er ((-2 : Int32) - a1).toNatClampNeg) + (1 : Int32))) us un od li st lm hs) H := hP
  have hD : va_D A (wM G ad nw ps (upd er (((-2 : Int32) - a1).toNatClampNeg) ((er ((-2 : Int32) - a1).toNatClampNeg) + (1 : Int32))) us un od li st lm hs) := hD
  refine lv_iload_n hx hb dX6_error_13 rfl (lv_at hl 1 rfl) ?_
  exact W.iret hx hb hr (fun t ht hW => ⟨⟨_, (upd er (((-2 : Int32) - a1).toNatClampNeg) ((er ((-2 : Int32) - a1).toNatClampNeg) + (1 : Int32))), rfl, h, by rw [ht]; exact hP, hD⟩, hS.F ht⟩) hS.2.2 dX6_error_14
def wp_X6_isTerm (a1 : Int32) (nw : Nat → Int32) (K : Int32 → Prop) : Prop :=
 wp_X6_in a1 (0 : Int32) ((nw 2) - (1 : Int32)) (fun (r1 : Int32) => ((r1 = 0 ∨ r1 = 1) ∧ K r1))
abbrev rm_X6_isTerm : Room := { frames := 1, cells := 0, slots := 0, locals := 22 }
set_option maxHeartbeats 4000000 in
set_option maxRecDepth 100000 in
theorem c_X6_isTerm (l : Launch) (G : GG) (ad : Nat → Nat) (sz : Nat) (nw : Nat → Int32) (ps : Nat → Int32) (er : Nat → Int32) (us : Nat → Int32) (un : Nat → Int32) (od : Nat → Int32) (li : Nat → Int32) (st : Int32) (lm : Int32) (hs : Int64) (a1 : Int32) {K : Int32 → Prop} (h : wp_X6_isTerm a1 nw K) : CI l yX6_isTerm wsX6_isTerm rm_X6_isTerm G [.ref (ad 0), .int a1] (wM G ad nw ps er us un od li st lm hs) sz (fun u : Unit => wM G ad nw ps er us un od li st lm hs) (fun r u => K r ) := by
  refine Met.ofW (cc := cX6_isTerm) (maxL := 2) (ret := (some .boolean)) (by decide) rfl ?_
  intro p e s m args below meth c s₁ B hml hv
  obtain ⟨rfl, hsz, hP, hK, hD0, hZ⟩ := hv
  have hx := B.exec
  have hb := B.bytes
  have hr := B.returns
  have hts := atoms_spec (ws := wsX6_isTerm) B.pre
  have hown : s.vm.findClass RX6 = some m.cls := findClass_of_methodNamed B.named
  have hlocks := B.notSynchronized
  subst hsz
  have hD := hD0.self (sz := s.heap.size)
  generalize hAe : va_A (wM G ad nw ps er us un od li st lm hs) s.heap.size = A at hD hZ ⊢
  have hA : ∀ q : Nat, s.heap.size ≤ q → A q := fun q h => by rw [← hAe]; exact Or.inr h
  have hS : va_S A s.heap s.heap [] := va_S.rf
  have hl := lv_entry ([.ref (ad 0), .int a1]) (n := 2) (Nat.le_of_ble_eq_true rfl)
  rw [lg_entry_eq]
  generalize (lg_sl ([.ref (ad 0), .int a1]) ++ List.replicate (2 - (lg_sl ([.ref (ad 0), .int a1])).length) Slot.unset).toArray = ls at hl ⊢
  have hl : lv_has ls 2 [(0, .ref (ad 0)), (1, .int a1)] := hl
  unfold wp_X6_isTerm at h
  have hinX6 : ∀ w ∈ wsX60, w ∈ wsX6_isTerm := by decide +kernel
  refine lv_iload_n hx hb dX6_isTerm_0 rfl (lv_at hl 1 rfl) ?_
  refine lv_iconst (v := (0 : Int32)) hx hb dX6_isTerm_1 (by decide) ?_
  refine lv_aload_n hx hb dX6_isTerm_2 rfl (lv_at hl 0 rfl) ?_
  refine va_get (D := G.1) (ci := 6) (v := .ref (ad 1)) (C := RX6) (T := TX6) (N := 10) hx hb hts hinX6 hown hK.1 hP 0 rfl rfl 0 (by decide) (hts (.fieldLink RX6 7 "PlaFolderModel" "now" "[I") (by decide +kernel)) (fun _ h9 => h9) rfl dX6_isTerm_3 ?_
  refine lv_iconst (v := (nI 2)) hx hb dX6_isTerm_6 (by decide) ?_
  refine x_iald hx hb hK hP 1 rfl (vin_c (by decide)) (k := 2) (by decide) dX6_isTerm_7 ?_
  refine lv_iconst (v := (1 : Int32)) hx hb dX6_isTerm_8 (by decide) ?_
  refine lv_isub hx hb dX6_isTerm_9 ?_
  refine kc_i (wr := ([0, 1, 2, 3, 4, 5, 6, 7] : List Nat).filterMap (fun i => (wM G ad nw ps er us un od li st lm hs)[i]?)) (va_runS (As := [.int a1, .int (0 : Int32), .int ((nw 2) - (1 : Int32))]) (rest := []) ⟨hx, hb, hml, hown, hts⟩ (c_X6_in l G  _  a1 (0 : Int32) ((nw 2) - (1 : Int32)) h) (va_cwS 3 hts gX6_isTerm_X6_in rfl rfl rfl (by decide +kernel) ⟨Nat.le_of_ble_eq_true rfl, Nat.le_of_ble_eq_true rfl⟩) (kpS hK hP hD hZ hS hA [] rfl (by decide)) rfl rfl hl.1 rfl (lv_room (Nat.le_of_ble_eq_true rfl)) dX6_isTerm_10 ⟨Nat.zero_le _, Nat.zero_le _⟩) hP hD hS hA [] [0, 1, 2, 3, 4, 5, 6, 7] rfl rfl (by decide) (by decide) (fun r1 w3 H locs h hP hD hS => ?_)
  have hP : va_P G.1 vwCl (wM G ad nw ps er us un od li st lm hs) H := hP
  have hD : va_D A (wM G ad nw ps er us un od li st lm hs) := hD
  try dsimp only at h
  obtain ⟨hz2, h⟩ := h
  exact W.zret hx hb hr (nar_b hz2) (fun t ht hW => ⟨⟨_, (), rfl, h, by rw [ht]; exact hP, hD⟩, hS.F ht⟩) hS.2.2 dX6_isTerm_13
def wp_X6_isColumn (a1 : Int32) (nw : Nat → Int32) (K : Int32 → Prop) : Prop :=
 wp_X6_in a1 (0 : Int32) ((nw 0) - (1 : Int32)) (fun (r1 : Int32) => ((¬ r1 = 0 → K (1 : Int32)) ∧
 (r1 = 0 → wp_X6_in a1 (nI 6) (((nI 6) + (nw 1)) - (1 : Int32)) (fun (r3 : Int32) => ((r3 = 0 → K (0 : Int32)) ∧
 (¬ (r3 = 0) → K (1 : Int32)))))))
abbrev rm_X6_isColumn : Room := { frames := 1, cells := 0, slots := 0, locals := 22 }
set_option maxHeartbeats 4000000 in
set_option maxRecDepth 100000 in
theorem c_X6_isColumn (l : Launch) (G : GG) (ad : Nat → Nat) (sz : Nat) (nw : Nat → Int32) (ps : Nat → Int32) (er : Nat → Int32) (us : Nat → Int32) (un : Nat → Int32) (od : Nat → Int32) (li : Nat → Int32) (st : Int32) (lm : Int32) (hs : Int64) (a1 : Int32) {K : Int32 → Prop} (h : wp_X6_isColumn a1 nw K) : CI l yX6_isColumn wsX6_isColumn rm_X6_isColumn G [.ref (ad 0), .int a1] (wM G ad nw ps er us un od li st lm hs) sz (fun u : Unit => wM G ad nw ps er us un od li st lm hs) (fun r u => K r ) := by
  refine Met.ofW (cc := cX6_isColumn) (maxL := 2) (ret := (some .boolean)) (by decide) rfl ?_
  intro p e s m args below meth c s₁ B hml hv
  obtain ⟨rfl, hsz, hP, hK, hD0, hZ⟩ := hv
  have hx := B.exec
  have hb := B.bytes
  have hr := B.returns
  have hts := atoms_spec (ws := wsX6_isColumn) B.pre
  have hown : s.vm.findClass RX6 = some m.cls := findClass_of_methodNamed B.named
  have hlocks := B.notSynchronized
  subst hsz
  have hD := hD0.self (sz := s.heap.size)
  generalize hAe : va_A (wM G ad nw ps er us un od li st lm hs) s.heap.size = A at hD hZ ⊢
  have hA : ∀ q : Nat, s.heap.size ≤ q → A q := fun q h => by rw [← hAe]; exact Or.inr h
  have hS : va_S A s.heap s.heap [] := va_S.rf
  have hl := lv_entry ([.ref (ad 0), .int a1]) (n := 2) (Nat.le_of_ble_eq_true rfl)
  rw [lg_entry_eq]
  generalize (lg_sl ([.ref (ad 0), .int a1]) ++ List.replicate (2 - (lg_sl ([.ref (ad 0), .int a1])).length) Slot.unset).toArray = ls at hl ⊢
  have hl : lv_has ls 2 [(0, .ref (ad 0)), (1, .int a1)] := hl
  unfold wp_X6_isColumn at h
  have hinX6 : ∀ w ∈ wsX60, w ∈ wsX6_isColumn := by decide +kernel
  refine lv_iload_n hx hb dX6_isColumn_0 rfl (lv_at hl 1 rfl) ?_
  refine lv_iconst (v := (0 : Int32)) hx hb dX6_isColumn_1 (by decide) ?_
  refine lv_aload_n hx hb dX6_isColumn_2 rfl (lv_at hl 0 rfl) ?_
  refine va_get (D := G.1) (ci := 6) (v := .ref (ad 1)) (C := RX6) (T := TX6) (N := 10) hx hb hts hinX6 hown hK.1 hP 0 rfl rfl 0 (by decide) (hts (.fieldLink RX6 7 "PlaFolderModel" "now" "[I") (by decide +kernel)) (fun _ h9 => h9) rfl dX6_isColumn_3 ?_
  refine lv_iconst (v := (0 : Int32)) hx hb dX6_isColumn_6 (by decide) ?_
  refine x_iald hx hb hK hP 1 rfl (vin_c (by decide)) (k := 0) (by decide) dX6_isColumn_7 ?_
  refine lv_iconst (v := (1 : Int32)) hx hb dX6_isColumn_8 (by decide) ?_
  refine lv_isub hx hb dX6_isColumn_9 ?_
  refine kc_i (wr := ([0, 1, 2, 3, 4, 5, 6, 7] : List Nat).filterMap (fun i => (wM G ad nw ps er us un od li st lm hs)[i]?)) (va_runS (As := [.int a1, .int (0 : Int32), .int ((nw 0) - (1 : Int32))]) (rest := []) ⟨hx, hb, hml, hown, hts⟩ (c_X6_in l G  _  a1 (0 : Int32) ((nw 0) - (1 : Int32)) h) (va_cwS 3 hts gX6_isColumn_X6_in rfl rfl rfl (by decide +kernel) ⟨Nat.le_of_ble_eq_true rfl, Nat.le_of_ble_eq_true rfl⟩) (kpS hK hP hD hZ hS hA [] rfl (by decide)) rfl rfl hl.1 rfl (lv_room (Nat.le_of_ble_eq_true rfl)) dX6_isColumn_10 ⟨Nat.zero_le _, Nat.zero_le _⟩) hP hD hS hA [] [0, 1, 2, 3, 4, 5, 6, 7] rfl rfl (by decide) (by decide) (fun r1 w6 H locs h hP hD hS => ?_)
  have hP : va_P G.1 vwCl (wM G ad nw ps er us un od li st lm hs) H := hP
  have hD : va_D A (wM G ad nw ps er us un od li st lm hs) := hD
  try dsimp only at h
  refine lv_if_ne (tgt := 36) hx hb dX6_isColumn_13 (by decide) (fun c_2 => ?_) (fun c_2 => ?_)
  · have h := h.1 c_2
    refine lv_iconst (v := (1 : Int32)) hx hb dX6_isColumn_36 (by decide) ?_
    refine lv_goto (tgt := 41) hx hb dX6_isColumn_37 (by decide) ?_
    exact W.zret hx hb hr (by decide) (fun t ht hW => ⟨⟨_, (), rfl, h, by rw [ht]; exact hP, hD⟩, hS.F ht⟩) hS.2.2 dX6_isColumn_41
  · have h := h.2 c_2
    refine lv_iload_n hx hb dX6_isColumn_16 rfl (lv_at hl 1 rfl) ?_
    refine lv_bipush (v := (nI 6)) hx hb dX6_isColumn_17 (by decide) ?_
    refine lv_bipush (v := (nI 6)) hx hb dX6_isColumn_19 (by decide) ?_
    refine lv_aload_n hx hb dX6_isColumn_21 rfl (lv_at hl 0 rfl) ?_
    refine va_get (D := G.1) (ci := 6) (v := .ref (ad 1)) (C := RX6) (T := TX6) (N := 10) hx hb hts hinX6 hown hK.1 hP 0 rfl rfl 0 (by decide) (hts (.fieldLink RX6 7 "PlaFolderModel" "now" "[I") (by decide +kernel)) (fun _ h9 => h9) rfl dX6_isColumn_22 ?_
    refine lv_iconst (v := (1 : Int32)) hx hb dX6_isColumn_25 (by decide) ?_
    refine x_iald hx hb hK hP 1 rfl (vin_c (by decide)) (k := 1) (by decide) dX6_isColumn_26 ?_
    refine lv_iadd hx hb dX6_isColumn_27 ?_
    refine lv_iconst (v := (1 : Int32)) hx hb dX6_isColumn_28 (by decide) ?_
    refine lv_isub hx hb dX6_isColumn_29 ?_
    refine kc_i (wr := ([0, 1, 2, 3, 4, 5, 6, 7] : List Nat).filterMap (fun i => (wM G ad nw ps er us un od li st lm hs)[i]?)) (va_runS (As := [.int a1, .int (nI 6), .int (((nI 6) + (nw 1)) - (1 : Int32))]) (rest := []) ⟨hx, hb, hml, hown, hts⟩ (c_X6_in l G  _  a1 (nI 6) (((nI 6) + (nw 1)) - (1 : Int32)) h) (va_cwS 3 hts gX6_isColumn_X6_in rfl rfl rfl (by decide +kernel) ⟨Nat.le_of_ble_eq_true rfl, Nat.le_of_ble_eq_true rfl⟩) (kpS hK hP hD hZ hS hA [] rfl (by decide)) rfl rfl hl.1 rfl (lv_room (Nat.le_of_ble_eq_true rfl)) dX6_isColumn_30 ⟨Nat.zero_le _, Nat.zero_le _⟩) hP hD hS hA [] [0, 1, 2, 3, 4, 5, 6, 7] rfl rfl (by decide) (by decide) (fun r3 w5 H locs h hP hD hS => ?_)
    have hP : va_P G.1 vwCl (wM G ad nw ps er us un od li st lm hs) H := hP
    have hD : va_D A (wM G ad nw ps er us un od li st lm hs) := hD
    try dsimp only at h
    refine lv_if_eq (tgt := 40) hx hb dX6_isColumn_33 (by decide) (fun c_4 => ?_) (fun c_4 => ?_)
    · have h := h.1 c_4
      refine lv_iconst (v := (0 : Int32)) hx hb dX6_isColumn_40 (by decide) ?_
      exact W.zret hx hb hr (by decide) (fun t ht hW => ⟨⟨_, (), rfl, h, by rw [ht]; exact hP, hD⟩, hS.F ht⟩) hS.2.2 dX6_isColumn_41
    · have h := h.2 c_4
      refine lv_iconst (v := (1 : Int32)) hx hb dX6_isColumn_36 (by decide) ?_
      refine lv_goto (tgt := 41) hx hb dX6_isColumn_37 (by decide) ?_
      exact W.zret hx hb hr (by decide) (fun t ht hW => ⟨⟨_, (), rfl, h, by rw [ht]; exact hP, hD⟩, hS.F ht⟩) hS.2.2 dX6_isColumn_41
def wp_X6_noFolds (nw : Nat → Int32) (K : (Nat → Int32) → Prop) : Prop :=
 (Lp2 (0 : Int32) nw (fun (x1 : Int32) (z2 : Nat → Int32) (J6 : Int32 → (Nat → Int32) → Prop) => (((nI 10) ≤ x1 → K z2) ∧
 (¬ ((nI 10) ≤ x1) → (vp_in ((nI 33) + x1) 53 ∧ (vp_in ((nI 43) + x1) 53 ∧ J6 (x1 + (1 : Int32)) (upd (upd z2 (((nI 33) + x1).toNatClampNeg) (-1 : Int32)) (((nI 43) + x1).toNatClampNeg) (-1 : Int32))))))))
abbrev rm_X6_noFolds : Room := { frames := 0, cells := 0, slots := 0, locals := 0 }
set_option maxHeartbeats 4000000 in
set_option maxRecDepth 100000 in
theorem c_X6_noFolds (l : Launch) (G : GG) (ad : Nat → Nat) (sz : Nat) (nw : Nat → Int32) (ps : Nat → Int32) (er : Nat → Int32) (us : Nat → Int32) (un : Nat → Int32) (od : Nat → Int32) (li : Nat → Int32) (st : Int32) (lm : Int32) (hs : Int64) {K : (Nat → Int32) → Prop} (h : wp_X6_noFolds nw K) : CV l yX6_noFolds wsX6_noFolds rm_X6_noFolds G [.ref (ad 0)] (wM G ad nw ps er us un od li st lm hs) sz (fun u : (Nat → Int32) => wM G ad u ps er us un od li st lm hs) (fun u => K u) := by
  refine Met.ofW (cc := cX6_noFolds) (maxL := 2) (ret := none) (by decide) rfl ?_
  intro p e s m args below meth c s₁ B hml hv
  obtain ⟨rfl, hsz, hP, hK, hD0, hZ⟩ := hv
  have hx := B.exec
  have hb := B.bytes
  have hr := B.returns
  have hts := atoms_spec (ws := wsX6_noFolds) B.pre
  have hown : s.vm.findClass RX6 = some m.cls := findClass_of_methodNamed B.named
  have hlocks := B.notSynchronized
  subst hsz
  have hD := hD0.self (sz := s.heap.size)
  generalize hAe : va_A (wM G ad nw ps er us un od li st lm hs) s.heap.size = A at hD hZ ⊢
  have hA : ∀ q : Nat, s.heap.size ≤ q → A q := fun q h => by rw [← hAe]; exact Or.inr h
  have hS : va_S A s.heap s.heap [] := va_S.rf
  have hl := lv_entry ([.ref (ad 0)]) (n := 2) (Nat.le_of_ble_eq_true rfl)
  rw [lg_entry_eq]
  generalize (lg_sl ([.ref (ad 0)]) ++ List.replicate (2 - (lg_sl ([.ref (ad 0)])).length) Slot.unset).toArray = ls at hl ⊢
  have hl : lv_has ls 2 [(0, .ref (ad 0))] := hl
  unfold wp_X6_noFolds at h
  have hinX6 : ∀ w ∈ wsX60, w ∈ wsX6_noFolds := by decide +kernel
  refine lv_iconst (v := (0 : Int32)) hx hb dX6_noFolds_0 (by decide) ?_
  refine lv_istore_n (lv' := [(1, .int (0 : Int32)), (0, .ref (ad 0))]) hx hb dX6_noFolds_1 rfl hl (by decide) rfl (fun ls hl => ?_)
  obtain ⟨I3, n4, h0, hst5⟩ := h
  refine loopW (σ := Int32 × (Nat → Int32)) (P := fun q H locs ls => va_P G.1 vwCl (wM G ad q.2 ps er us un od li st lm hs) H ∧ va_D A (wM G ad q.2 ps er us un od li st lm hs) ∧ va_S A s.heap H locs ∧ lv_has ls 2 [(0, .ref (ad 0)), (1, .int q.1)]) (I := fun n q => I3 n q.1 q.2) n4 ((0 : Int32), nw) h0 _ _ _ ⟨hP, hD, hS, lv_sub hl [1, 0] rfl⟩ ?_
  rintro n8 ⟨x1, z2⟩ hI ih7 H locs ls ⟨hP, hD, hS, hl⟩
  have hP : va_P G.1 vwCl (wM G ad z2 ps er us un od li st lm hs) H := hP
  have hD : va_D A (wM G ad z2 ps er us un od li st lm hs) := hD
  have hl : lv_has ls 2 [(0, .ref (ad 0)), (1, .int x1)] := hl
  have h := hst5 n8 x1 z2 hI
  refine lv_iload_n hx hb dX6_noFolds_2 rfl (lv_at hl 1 rfl) ?_
  refine lv_bipush (v := (nI 10)) hx hb dX6_noFolds_3 (by decide) ?_
  refine lv_icmp_ge (tgt := 34) hx hb dX6_noFolds_5 (by decide) (fun c_9 => ?_) (fun c_9 => ?_)
  · have h := h.1 c_9
    exact W.vret hx hb hr (fun t ht hW => ⟨⟨z2, rfl, h, by rw [ht]; exact hP, hD⟩, hS.F ht⟩) hS.2.2 dX6_noFolds_34
  · have h := h.2 c_9
    refine lv_aload_n hx hb dX6_noFolds_8 rfl (lv_at hl 0 rfl) ?_
    refine va_get (D := G.1) (ci := 6) (v := .ref (ad 1)) (C := RX6) (T := TX6) (N := 10) hx hb hts hinX6 hown hK.1 hP 0 rfl rfl 0 (by decide) (hts (.fieldLink RX6 7 "PlaFolderModel" "now" "[I") (by decide +kernel)) (fun _ h9 => h9) rfl dX6_noFolds_9 ?_
    refine lv_bipush (v := (nI 33)) hx hb dX6_noFolds_12 (by decide) ?_
    refine lv_iload_n hx hb dX6_noFolds_14 rfl (lv_at hl 1 rfl) ?_
    refine lv_iadd hx hb dX6_noFolds_15 ?_
    refine lv_iconst (v := (-1 : Int32)) hx hb dX6_noFolds_16 (by decide) ?_
    obtain ⟨hi10, h⟩ := h
    refine x_iast hx hb hK hP hD hS 1 rfl hi10 rfl dX6_noFolds_17 (fun H locs hP hD hS => ?_)
    have hP : va_P G.1 vwCl (wM G ad (upd z2 (((nI 33) + x1).toNatClampNeg) (-1 : Int32)) ps er us un od li st lm hs) H := hP
    have hD : va_D A (wM G ad (upd z2 (((nI 33) + x1).toNatClampNeg) (-1 : Int32)) ps er us un od li st lm hs) := hD
    refine lv_aload_n hx hb dX6_noFolds_18 rfl (lv_at hl 0 rfl) ?_
    refine va_get (D := G.1) (ci := 6) (v := .ref (ad 1)) (C := RX6) (T := TX6) (N := 10) hx hb hts hinX6 hown hK.1 hP 0 rfl rfl 0 (by decide) (hts (.fieldLink RX6 7 "PlaFolderModel" "now" "[I") (by decide +kernel)) (fun _ h9 => h9) rfl dX6_noFolds_19 ?_
    refine lv_bipush (v := (nI 43)) hx hb dX6_noFolds_22 (by decide) ?_
    refine lv_iload_n hx hb dX6_noFolds_24 rfl (lv_at hl 1 rfl) ?_
    refine lv_iadd hx hb dX6_noFolds_25 ?_
    refine lv_iconst (v := (-1 : Int32)) hx hb dX6_noFolds_26 (by decide) ?_
    obtain ⟨hi11, h⟩ := h
    refine x_iast hx hb hK hP hD hS 1 rfl hi11 rfl dX6_noFolds_27 (fun H locs hP hD hS => ?_)
    have hP : va_P G.1 vwCl (wM G ad (upd (upd z2 (((nI 33) + x1).toNatClampNeg) (-1 : Int32)) (((nI 43) + x1).toNatClampNeg) (-1 : Int32)) ps er us un od li st lm hs) H := hP
    have hD : va_D A (wM G ad (upd (upd z2 (((nI 33) + x1).toNatClampNeg) (-1 : Int32)) (((nI 43) + x1).toNatClampNeg) (-1 : Int32)) ps er us un od li st lm hs) := hD
    refine lv_iinc (v := (x1 + (1 : Int32))) (lv' := [(1, .int (x1 + (1 : Int32))), (0, .ref (ad 0))]) hx hb dX6_noFolds_28 hl (k := 1) rfl rfl (by decide) rfl (fun ls hl => ?_)
    refine lv_goto (tgt := 2) hx hb dX6_noFolds_31 (by decide) ?_
    obtain ⟨n13, hn12, hI14⟩ := h
    exact ih7 n13 ((x1 + (1 : Int32)), (upd (upd z2 (((nI 33) + x1).toNatClampNeg) (-1 : Int32)) (((nI 43) + x1).toNatClampNeg) (-1 : Int32))) hn12 hI14 _ _ _ ⟨hP, hD, hS, lv_sub hl [1, 0] rfl⟩
def wp_X6_save (nw : Nat → Int32) (ps : Nat → Int32) (st : Int32) (K : (Nat → Int32) → Int32 → Prop) : Prop :=
 (Jn2 (fun (z2 : Nat → Int32) (z3 : Int32) => (Lp2 (0 : Int32) z2 (fun (x6 : Int32) (z7 : Nat → Int32) (J11 : Int32 → (Nat → Int32) → Prop) => (((nI 53) ≤ x6 → K z7 (z3 + (1 : Int32))) ∧
 (¬ ((nI 53) ≤ x6) → (vp_in x6 53 ∧ (vp_in (((nI 53) * z3) + x6) 265 ∧ J11 (x6 + (1 : Int32)) (upd z7 ((((nI 53) * z3) + x6).toNatClampNeg) (nw x6.toNatClampNeg)))))))))
 (fun (J4 : (Nat → Int32) → Int32 → Prop) => ((¬ st = (nI 5) → J4 ps st) ∧
 (st = (nI 5) → (Lp2 (0 : Int32) ps (fun (x20 : Int32) (z21 : Nat → Int32) (J25 : Int32 → (Nat → Int32) → Prop) => (((nI 212) ≤ x20 → J4 z21 (st - (1 : Int32))) ∧
 (¬ ((nI 212) ≤ x20) → (vp_in (x20 + (nI 53)) 265 ∧ (vp_in x20 265 ∧ J25 (x20 + (1 : Int32)) (upd z21 x20.toNatClampNeg (z21 (x20 + (nI 53)).toNatClampNeg))))))))))))
abbrev rm_X6_save : Room := { frames := 0, cells := 0, slots := 0, locals := 0 }
set_option maxHeartbeats 4000000 in
set_option maxRecDepth 100000 in
theorem c_X6_save (l : Launch) (G : GG) (ad : Nat → Nat) (sz : Nat) (nw : Nat → Int32) (ps : Nat → Int32) (er : Nat → Int32) (us : Nat → Int32) (un : Nat → Int32) (od : Nat → Int32) (li : Nat → Int32) (st : Int32) (lm : Int32) (hs : Int64) {K : (Nat → Int32) → Int32 → Prop} (h : wp_X6_save nw ps st K) : CV l yX6_save wsX6_save rm_X6_save G [.ref (ad 0)] (wM G ad nw ps er us un od li st lm hs) sz (fun u : (Nat → Int32) × Int32 => wM G ad nw u.1 er us un od li u.2 lm hs) (fun u => K u.1 u.2) := by
  refine Met.ofW (cc := cX6_save) (maxL := 2) (ret := none) (by decide) rfl ?_
  intro p e s m args below meth c s₁ B hml hv
  obtain ⟨rfl, hsz, hP, hK, hD0, hZ⟩ := hv
  have hx := B.exec
  have hb := B.bytes
  have hr := B.returns
  have hts := atoms_spec (ws := wsX6_save) B.pre
  have hown : s.vm.findClass RX6 = some m.cls := findClass_of_methodNamed B.named
  have hlocks := B.notSynchronized
  subst hsz
  have hD := hD0.self (sz := s.heap.size)
  generalize hAe : va_A (wM G ad nw ps er us un od li st lm hs) s.heap.size = A at hD hZ ⊢
  have hA : ∀ q : Nat, s.heap.size ≤ q → A q := fun q h => by rw [← hAe]; exact Or.inr h
  have hS : va_S A s.heap s.heap [] := va_S.rf
  have hl := lv_entry ([.ref (ad 0)]) (n := 2) (Nat.le_of_ble_eq_true rfl)
  rw [lg_entry_eq]
  generalize (lg_sl ([.ref (ad 0)]) ++ List.replicate (2 - (lg_sl ([.ref (ad 0)])).length) Slot.unset).toArray = ls at hl ⊢
  have hl : lv_has ls 2 [(0, .ref (ad 0))] := hl
  unfold wp_X6_save at h
  have hinX6 : ∀ w ∈ wsX60, w ∈ wsX6_save := by decide +kernel
  refine lv_aload_n hx hb dX6_save_0 rfl (lv_at hl 0 rfl) ?_
  refine va_get (D := G.1) (ci := 6) (v := .int st) (C := RX6) (T := TX6) (N := 10) hx hb hts hinX6 hown hK.1 hP 0 rfl rfl 2 (by decide) (hts (.fieldLink RX6 38 "PlaFolderModel" "states" "I") (by decide +kernel)) (fun _ h9 => h9) rfl dX6_save_1 ?_
  refine lv_iconst (v := (nI 5)) hx hb dX6_save_4 (by decide) ?_
  obtain ⟨J4, hJ34, h⟩ := h
  refine joinW (σ := (Nat → Int32) × Int32) (J := fun q => J4 q.1 q.2) (pc := 48) (st := fun q => []) (P := fun q H locs ls => va_P G.1 vwCl (wM G ad nw q.1 er us un od li q.2 lm hs) H ∧ va_D A (wM G ad nw q.1 er us un od li q.2 lm hs) ∧ va_S A s.heap H locs ∧ lv_has ls 2 [(0, .ref (ad 0))]) ?_ (fun join5 => ?_)
  · rintro ⟨z2, z3⟩ h H locs ls ⟨hP, hD, hS, hl⟩
    have hP : va_P G.1 vwCl (wM G ad nw z2 er us un od li z3 lm hs) H := hP
    have hD : va_D A (wM G ad nw z2 er us un od li z3 lm hs) := hD
    have hl : lv_has ls 2 [(0, .ref (ad 0))] := hl
    have h := hJ34 z2 z3 h
    refine W.eq (g2 := F0 m 48 ls ([])) rfl ?_
    refine lv_iconst (v := (0 : Int32)) hx hb dX6_save_48 (by decide) ?_
    refine lv_istore_n (lv' := [(1, .int (0 : Int32)), (0, .ref (ad 0))]) hx hb dX6_save_49 rfl hl (by decide) rfl (fun ls hl => ?_)
    obtain ⟨I8, n9, h0, hst10⟩ := h
    refine loopW (σ := Int32 × (Nat → Int32)) (P := fun q H locs ls => va_P G.1 vwCl (wM G ad nw q.2 er us un od li z3 lm hs) H ∧ va_D A (wM G ad nw q.2 er us un od li z3 lm hs) ∧ va_S A s.heap H locs ∧ lv_has ls 2 [(0, .ref (ad 0)), (1, .int q.1)]) (I := fun n q => I8 n q.1 q.2) n9 ((0 : Int32), z2) h0 _ _ _ ⟨hP, hD, hS, lv_sub hl [1, 0] rfl⟩ ?_
    rintro n13 ⟨x6, z7⟩ hI ih12 H locs ls ⟨hP, hD, hS, hl⟩
    have hP : va_P G.1 vwCl (wM G ad nw z7 er us un od li z3 lm hs) H := hP
    have hD : va_D A (wM G ad nw z7 er us un od li z3 lm hs) := hD
    have hl : lv_has ls 2 [(0, .ref (ad 0)), (1, .int x6)] := hl
    have h := hst10 n13 x6 z7 hI
    refine lv_iload_n hx hb dX6_save_50 rfl (lv_at hl 1 rfl) ?_
    refine lv_bipush (v := (nI 53)) hx hb dX6_save_51 (by decide) ?_
    refine lv_icmp_ge (tgt := 82) hx hb dX6_save_53 (by decide) (fun c_14 => ?_) (fun c_14 => ?_)
    · have h := h.1 c_14
      refine lv_aload_n hx hb dX6_save_82 rfl (lv_at hl 0 rfl) ?_
      refine lv_dup hx hb dX6_save_83 rfl ?_
      refine va_get (D := G.1) (ci := 6) (v := .int z3) (C := RX6) (T := TX6) (N := 10) hx hb hts hinX6 hown hK.1 hP 0 rfl rfl 2 (by decide) (hts (.fieldLink RX6 38 "PlaFolderModel" "states" "I") (by decide +kernel)) (fun _ h9 => h9) rfl dX6_save_84 ?_
      refine lv_iconst (v := (1 : Int32)) hx hb dX6_save_87 (by decide) ?_
      refine lv_iadd hx hb dX6_save_88 ?_
      refine va_put (D := G.1) (ci := 6) (v := .int (z3 + (1 : Int32))) (ty := .int) (C := RX6) (T := TX6) (N := 10) hx hb hts hinX6 tyX6 tyX6_ok nmX6 hown hK.1 hP hD hS 0 rfl rfl 2 (by decide) (hts (.fieldLink RX6 38 "PlaFolderModel" "states" "I") (by decide +kernel)) (fun _ h9 => h9) rfl (by decide +kernel) rfl rfl (Nat.le_of_ble_eq_true rfl) dX6_save_89 (fun H locs hP hD hS => ?_)
      have hP : va_P G.1 vwCl (wM G ad nw z7 er us un od li (z3 + (1 : Int32)) lm hs) H := hP
      have hD : va_D A (wM G ad nw z7 er us un od li (z3 + (1 : Int32)) lm hs) := hD
      exact W.vret hx hb hr (fun t ht hW => ⟨⟨(z7, (z3 + (1 : Int32))), rfl, h, by rw [ht]; exact hP, hD⟩, hS.F ht⟩) hS.2.2 dX6_save_92
    · have h := h.2 c_14
      refine lv_aload_n hx hb dX6_save_56 rfl (lv_at hl 0 rfl) ?_
      refine va_get (D := G.1) (ci := 6) (v := .ref (ad 2)) (C := RX6) (T := TX6) (N := 10) hx hb hts hinX6 hown hK.1 hP 0 rfl rfl 1 (by decide) (hts (.fieldLink RX6 13 "PlaFolderModel" "past" "[I") (by decide +kernel)) (fun _ h9 => h9) rfl dX6_save_57 ?_
      refine lv_bipush (v := (nI 53)) hx hb dX6_save_60 (by decide) ?_
      refine lv_aload_n hx hb dX6_save_62 rfl (lv_at hl 0 rfl) ?_
      refine va_get (D := G.1) (ci := 6) (v := .int z3) (C := RX6) (T := TX6) (N := 10) hx hb hts hinX6 hown hK.1 hP 0 rfl rfl 2 (by decide) (hts (.fieldLink RX6 38 "PlaFolderModel" "states" "I") (by decide +kernel)) (fun _ h9 => h9) rfl dX6_save_63 ?_
      refine lv_imul hx hb dX6_save_66 ?_
      refine lv_iload_n hx hb dX6_save_67 rfl (lv_at hl 1 rfl) ?_
      refine lv_iadd hx hb dX6_save_68 ?_
      refine lv_aload_n hx hb dX6_save_69 rfl (lv_at hl 0 rfl) ?_
      refine va_get (D := G.1) (ci := 6) (v := .ref (ad 1)) (C := RX6) (T := TX6) (N := 10) hx hb hts hinX6 hown hK.1 hP 0 rfl rfl 0 (by decide) (hts (.fieldLink RX6 7 "PlaFolderModel" "now" "[I") (by decide +kernel)) (fun _ h9 => h9) rfl dX6_save_70 ?_
      refine lv_iload_n hx hb dX6_save_73 rfl (lv_at hl 1 rfl) ?_
      obtain ⟨hi15, h⟩ := h
      refine x_iald hx hb hK hP 1 rfl hi15 rfl dX6_save_74 ?_
      obtain ⟨hi16, h⟩ := h
      refine x_iast hx hb hK hP hD hS 2 rfl hi16 rfl dX6_save_75 (fun H locs hP hD hS => ?_)
      have hP : va_P G.1 vwCl (wM G ad nw (upd z7 ((((nI 53) * z3) + x6).toNatClampNeg) (nw x6.toNatClampNeg)) er us un od li z3 lm hs) H := hP
      have hD : va_D A (wM G ad nw (upd z7 ((((nI 53) * z3) + x6).toNatClampNeg) (nw x6.toNatClampNeg)) er us un od li z3 lm hs) := hD
      refine lv_iinc (v := (x6 + (1 : Int32))) (lv' := [(1, .int (x6 + (1 : Int32))), (0, .ref (ad 0))]) hx hb dX6_save_76 hl (k := 1) rfl rfl (by decide) rfl (fun ls hl => ?_)
      refine lv_goto (tgt := 50) hx hb dX6_save_79 (by decide) ?_
      obtain ⟨n18, hn17, hI19⟩ := h
      exact ih12 n18 ((x6 + (1 : Int32)), (upd z7 ((((nI 53) * z3) + x6).toNatClampNeg) (nw x6.toNatClampNeg))) hn17 hI19 _ _ _ ⟨hP, hD, hS, lv_sub hl [1, 0] rfl⟩
  · refine lv_icmp_ne (tgt := 48) hx hb dX6_save_5 (by decide) (fun c_1 => ?_) (fun c_1 => ?_)
    · have h := h.1 c_1
      exact join5 (ps, st) h _ _ _ ⟨hP, hD, hS, lv_sub hl [0] rfl⟩
    · have h := h.2 c_1
      refine lv_iconst (v := (0 : Int32)) hx hb dX6_save_8 (by decide) ?_
      refine lv_istore_n (lv' := [(1, .int (0 : Int32)), (0, .ref (ad 0))]) hx hb dX6_save_9 rfl hl (by decide) rfl (fun ls hl => ?_)
      obtain ⟨I22, n23, h0, hst24⟩ := h
      refine loopW (σ := Int32 × (Nat → Int32)) (P := fun q H locs ls => va_P G.1 vwCl (wM G ad nw q.2 er us un od li st lm hs) H ∧ va_D A (wM G ad nw q.2 er us un od li st lm hs) ∧ va_S A s.heap H locs ∧ lv_has ls 2 [(0, .ref (ad 0)), (1, .int q.1)]) (I := fun n q => I22 n q.1 q.2) n23 ((0 : Int32), ps) h0 _ _ _ ⟨hP, hD, hS, lv_sub hl [1, 0] rfl⟩ ?_
      rintro n27 ⟨x20, z21⟩ hI ih26 H locs ls ⟨hP, hD, hS, hl⟩
      have hP : va_P G.1 vwCl (wM G ad nw z21 er us un od li st lm hs) H := hP
      have hD : va_D A (wM G ad nw z21 er us un od li st lm hs) := hD
      have hl : lv_has ls 2 [(0, .ref (ad 0)), (1, .int x20)] := hl
      have h := hst24 n27 x20 z21 hI
      refine lv_iload_n hx hb dX6_save_10 rfl (lv_at hl 1 rfl) ?_
      refine lv_sipush (v := (nI 212)) hx hb dX6_save_11 (by decide) ?_
      refine lv_icmp_ge (tgt := 38) hx hb dX6_save_14 (by decide) (fun c_28 => ?_) (fun c_28 => ?_)
      · have h := h.1 c_28
        refine lv_aload_n hx hb dX6_save_38 rfl (lv_at hl 0 rfl) ?_
        refine lv_dup hx hb dX6_save_39 rfl ?_
        refine va_get (D := G.1) (ci := 6) (v := .int st) (C := RX6) (T := TX6) (N := 10) hx hb hts hinX6 hown hK.1 hP 0 rfl rfl 2 (by decide) (hts (.fieldLink RX6 38 "PlaFolderModel" "states" "I") (by decide +kernel)) (fun _ h9 => h9) rfl dX6_save_40 ?_
        refine lv_iconst (v := (1 : Int32)) hx hb dX6_save_43 (by decide) ?_
        refine lv_isub hx hb dX6_save_44 ?_
        refine va_put (D := G.1) (ci := 6) (v := .int (st - (1 : Int32))) (ty := .int) (C := RX6) (T := TX6) (N := 10) hx hb hts hinX6 tyX6 tyX6_ok nmX6 hown hK.1 hP hD hS 0 rfl rfl 2 (by decide) (hts (.fieldLink RX6 38 "PlaFolderModel" "states" "I") (by decide +kernel)) (fun _ h9 => h9) rfl (by decide +kernel) rfl rfl (Nat.le_of_ble_eq_true rfl) dX6_save_45 (fun H locs hP hD hS => ?_)
        have hP : va_P G.1 vwCl (wM G ad nw z21 er us un od li (st - (1 : Int32)) lm hs) H := hP
        have hD : va_D A (wM G ad nw z21 er us un od li (st - (1 : Int32)) lm hs) := hD
        exact join5 (z21, (st - (1 : Int32))) h _ _ _ ⟨hP, hD, hS, lv_sub hl [0] rfl⟩
      · have h := h.2 c_28
        refine lv_aload_n hx hb dX6_save_17 rfl (lv_at hl 0 rfl) ?_
        refine va_get (D := G.1) (ci := 6) (v := .ref (ad 2)) (C := RX6) (T := TX6) (N := 10) hx hb hts hinX6 hown hK.1 hP 0 rfl rfl 1 (by decide) (hts (.fieldLink RX6 13 "PlaFolderModel" "past" "[I") (by decide +kernel)) (fun _ h9 => h9) rfl dX6_save_18 ?_
        refine lv_iload_n hx hb dX6_save_21 rfl (lv_at hl 1 rfl) ?_
        refine lv_aload_n hx hb dX6_save_22 rfl (lv_at hl 0 rfl) ?_
        refine va_get (D := G.1) (ci := 6) (v := .ref (ad 2)) (C := RX6) (T := TX6) (N := 10) hx hb hts hinX6 hown hK.1 hP 0 rfl rfl 1 (by decide) (hts (.fieldLink RX6 13 "PlaFolderModel" "past" "[I") (by decide +kernel)) (fun _ h9 => h9) rfl dX6_save_23 ?_
        refine lv_iload_n hx hb dX6_save_26 rfl (lv_at hl 1 rfl) ?_
        refine lv_bipush (v := (nI 53)) hx hb dX6_save_27 (by decide) ?_
        refine lv_iadd hx hb dX6_save_29 ?_
        obtain ⟨hi29, h⟩ := h
        refine x_iald hx hb hK hP 2 rfl hi29 rfl dX6_save_30 ?_
        obtain ⟨hi30, h⟩ := h
        refine x_iast hx hb hK hP hD hS 2 rfl hi30 rfl dX6_save_31 (fun H locs hP hD hS => ?_)
        have hP : va_P G.1 vwCl (wM G ad nw (upd z21 x20.toNatClampNeg (z21 (x20 + (nI 53)).toNatClampNeg)) er us un od li st lm hs) H := hP
        have hD : va_D A (wM G ad nw (upd z21 x20.toNatClampNeg (z21 (x20 + (nI 53)).toNatClampNeg)) er us un od li st lm hs) := hD
        refine lv_iinc (v := (x20 + (1 : Int32))) (lv' := [(1, .int (x20 + (1 : Int32))), (0, .ref (ad 0))]) hx hb dX6_save_32 hl (k := 1) rfl rfl (by decide) rfl (fun ls hl => ?_)
        refine lv_goto (tgt := 10) hx hb dX6_save_35 (by decide) ?_
        obtain ⟨n32, hn31, hI33⟩ := h
        exact ih26 n32 ((x20 + (1 : Int32)), (upd z21 x20.toNatClampNeg (z21 (x20 + (nI 53)).toNatClampNeg))) hn31 hI33 _ _ _ ⟨hP, hD, hS, lv_sub hl [1, 0] rfl⟩
