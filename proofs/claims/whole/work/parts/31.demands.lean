def wp_X1_clear (ab : Nat → Int32) (K : (Nat → Int32) → Prop) : Prop :=
 wp_J7_fill_53178 (0 : Int32) ab (fun (u2 : Nat → Int32) => K u2)
abbrev rm_X1_clear : Room := { frames := 1, cells := 0, slots := 0, locals := 23 }
set_option maxHeartbeats 4000000 in
set_option maxRecDepth 100000 in
theorem c_X1_clear (l : Launch) (G : GG) (ad : Nat → Nat) (sz : Nat) (ab : Nat → Int32) {K : (Nat → Int32) → Prop} (h : wp_X1_clear ab K) : CV l yX1_clear wsX1_clear rm_X1_clear G [.ref (ad 0)] (wD G ad ab) sz (fun u : (Nat → Int32) => wD G ad u) (fun u => K u) := by
  refine Met.ofW (cc := cX1_clear) (maxL := 1) (ret := none) (by decide) rfl ?_
  intro p e s m args below meth c s₁ B hml hv
  obtain ⟨rfl, hsz, hP, hK, hD0, hZ⟩ := hv
  have hx := B.exec
  have hb := B.bytes
  have hr := B.returns
  have hts := atoms_spec (ws := wsX1_clear) B.pre
  have hown : s.vm.findClass RX1 = some m.cls := findClass_of_methodNamed B.named
  have hlocks := B.notSynchronized
  subst hsz
  have hD := hD0.self (sz := s.heap.size)
  generalize hAe : va_A (wD G ad ab) s.heap.size = A at hD hZ ⊢
  have hA : ∀ q : Nat, s.heap.size ≤ q → A q := fun q h => by rw [← hAe]; exact Or.inr h
  have hS : va_S A s.heap s.heap [] := va_S.rf
  have hl := lv_entry ([.ref (ad 0)]) (n := 1) (Nat.le_of_ble_eq_true rfl)
  rw [lg_entry_eq]
  generalize (lg_sl ([.ref (ad 0)]) ++ List.replicate (1 - (lg_sl ([.ref (ad 0)])).length) Slot.unset).toArray = ls at hl ⊢
  have hl : lv_has ls 1 [(0, .ref (ad 0))] := hl
  unfold wp_X1_clear at h
  have hinX1 : ∀ w ∈ wsX10, w ∈ wsX1_clear := by decide +kernel
  refine lv_aload_n hx hb dX1_clear_0 rfl (lv_at hl 0 rfl) ?_
  refine va_get (D := G.1) (ci := 1) (v := .ref (ad 1)) (C := RX1) (T := TX1) (N := 1) hx hb hts hinX1 hown hK.1 hP 0 rfl rfl 0 (by decide) (hts (.fieldLink RX1 9 "PlaFolder$Demands" "above" "[I") (by decide +kernel)) (fun _ h9 => h9) rfl dX1_clear_1 ?_
  refine lv_iconst (v := (0 : Int32)) hx hb dX1_clear_4 (by decide) ?_
  refine kc_v (wr := ([0] : List Nat).filterMap (fun i => (wD G ad ab)[i]?)) (va_runS (As := [.ref (ad 1), .int (0 : Int32)]) (rest := []) ⟨hx, hb, hml, hown, hts⟩ (c_J7_fill_53178 l G (ad 1) _ ab (0 : Int32) h) (va_cwS 2 hts gX1_clear_J7_fill_53178 rfl rfl rfl (by decide +kernel) ⟨Nat.le_of_ble_eq_true rfl, Nat.le_of_ble_eq_true rfl⟩) (kpS hK hP hD hZ hS hA [1] rfl (by decide)) rfl rfl hl.1 rfl (lv_room (Nat.le_of_ble_eq_true rfl)) dX1_clear_5 ⟨Nat.zero_le _, Nat.zero_le _⟩) hP hD hS hA [1] [0] rfl rfl (by decide) (by decide) (fun w3 H locs h hP hD hS => ?_)
  obtain ⟨u2, rfl⟩ : ∃ z, z = w3 := ⟨_, rfl⟩
  have hP : va_P G.1 vwCl (wD G ad u2) H := hP
  have hD : va_D A (wD G ad u2) := hD
  try dsimp only at h
  exact W.vret hx hb hr (fun t ht hW => ⟨⟨u2, rfl, h, by rw [ht]; exact hP, hD⟩, hS.F ht⟩) hS.2.2 dX1_clear_8
def wp_X1_copyFrom (ab : Nat → Int32) (oab : Nat → Int32) (K : (Nat → Int32) → Prop) : Prop :=
 K (va_cpy oab ab 0 0 10)
abbrev rm_X1_copyFrom : Room := { frames := 1, cells := 0, slots := 0, locals := 60 }
set_option maxHeartbeats 4000000 in
set_option maxRecDepth 100000 in
theorem c_X1_copyFrom (l : Launch) (G : GG) (ad : Nat → Nat) (ae : Nat → Nat) (sz : Nat) (ab : Nat → Int32) (oab : Nat → Int32) {K : (Nat → Int32) → Prop} (h : wp_X1_copyFrom ab oab K) : CV l yX1_copyFrom wsX1_copyFrom rm_X1_copyFrom G [.ref (ad 0), .ref (ae 0)] (wD G ad ab ++ (wD G ae oab)) sz (fun u : (Nat → Int32) => wD G ad u ++ (wD G ae oab)) (fun u => K u) := by
  refine Met.ofW (cc := cX1_copyFrom) (maxL := 2) (ret := none) (by decide) rfl ?_
  intro p e s m args below meth c s₁ B hml hv
  obtain ⟨rfl, hsz, hP, hK, hD0, hZ⟩ := hv
  have hx := B.exec
  have hb := B.bytes
  have hr := B.returns
  have hts := atoms_spec (ws := wsX1_copyFrom) B.pre
  have hown : s.vm.findClass RX1 = some m.cls := findClass_of_methodNamed B.named
  have hlocks := B.notSynchronized
  subst hsz
  have hD := hD0.self (sz := s.heap.size)
  generalize hAe : va_A (wD G ad ab ++ (wD G ae oab)) s.heap.size = A at hD hZ ⊢
  have hA : ∀ q : Nat, s.heap.size ≤ q → A q := fun q h => by rw [← hAe]; exact Or.inr h
  have hS : va_S A s.heap s.heap [] := va_S.rf
  have hl := lv_entry ([.ref (ad 0), .ref (ae 0)]) (n := 2) (Nat.le_of_ble_eq_true rfl)
  rw [lg_entry_eq]
  generalize (lg_sl ([.ref (ad 0), .ref (ae 0)]) ++ List.replicate (2 - (lg_sl ([.ref (ad 0), .ref (ae 0)])).length) Slot.unset).toArray = ls at hl ⊢
  have hl : lv_has ls 2 [(0, .ref (ad 0)), (1, .ref (ae 0))] := hl
  unfold wp_X1_copyFrom at h
  have hinX1 : ∀ w ∈ wsX10, w ∈ wsX1_copyFrom := by decide +kernel
  refine lv_aload_n hx hb dX1_copyFrom_0 rfl (lv_at hl 1 rfl) ?_
  refine va_get (D := G.1) (ci := 1) (v := .ref (ae 1)) (C := RX1) (T := TX1) (N := 1) hx hb hts hinX1 hown hK.1 hP.r 0 rfl rfl 0 (by decide) (hts (.fieldLink RX1 9 "PlaFolder$Demands" "above" "[I") (by decide +kernel)) (fun _ h9 => h9) rfl dX1_copyFrom_1 ?_
  refine lv_iconst (v := (0 : Int32)) hx hb dX1_copyFrom_4 (by decide) ?_
  refine lv_aload_n hx hb dX1_copyFrom_5 rfl (lv_at hl 0 rfl) ?_
  refine va_get (D := G.1) (ci := 1) (v := .ref (ad 1)) (C := RX1) (T := TX1) (N := 1) hx hb hts hinX1 hown hK.1 hP.l 0 rfl rfl 0 (by decide) (hts (.fieldLink RX1 9 "PlaFolder$Demands" "above" "[I") (by decide +kernel)) (fun _ h9 => h9) rfl dX1_copyFrom_6 ?_
  refine lv_iconst (v := (0 : Int32)) hx hb dX1_copyFrom_9 (by decide) ?_
  refine lv_bipush (v := (nI 10)) hx hb dX1_copyFrom_10 (by decide) ?_
  refine va_copyi hx hb (by rw [hml]; exact hl.1.symm) hown (hts (.methodLink RX1 21 arraycopyName) (by decide +kernel)) (hts (.native arraycopyName) (by decide +kernel)) (hts (.static arraycopyName) (by decide +kernel)) (hts (.initialized "java/lang/System") (by decide +kernel)) hK.1 hP hD hS 3 1 0 0 rfl rfl rfl rfl rfl (by decide) (by decide) (by decide) (by decide) (by decide) (fun _ _ => rfl) (Nat.le_of_ble_eq_true rfl) (Nat.le_of_ble_eq_true rfl) dX1_copyFrom_12 (fun H locs hP hD hS => ?_)
  have hP : va_P G.1 vwCl (wD G ad (va_cpy oab ab 0 0 10) ++ (wD G ae oab)) H := hP
  have hD : va_D A (wD G ad (va_cpy oab ab 0 0 10) ++ (wD G ae oab)) := hD
  exact W.vret hx hb hr (fun t ht hW => ⟨⟨(va_cpy oab ab 0 0 10), rfl, h, by rw [ht]; exact hP, hD⟩, hS.F ht⟩) hS.2.2 dX1_copyFrom_15
def wp_X1_withAllAbove (a1 : Int32) (ab : Nat → Int32) (K : Int32 → Prop) : Prop :=
 (Lp2 a1 (0 : Int32) (fun (x1 : Int32) (x2 : Int32) (J6 : Int32 → Int32 → Prop) => (((nI 10) ≤ x2 → K x1) ∧
 (¬ ((nI 10) ≤ x2) → wp_X5_contains a1 x2 (fun (r10 : Int32) => ((r10 = 0 → J6 x1 (x2 + (1 : Int32))) ∧
 (¬ (r10 = 0) → (vp_in x2 10 ∧ J6 (x1 ||| (ab x2.toNatClampNeg)) (x2 + (1 : Int32))))))))))
abbrev rm_X1_withAllAbove : Room := { frames := 1, cells := 0, slots := 0, locals := 21 }
set_option maxHeartbeats 4000000 in
set_option maxRecDepth 100000 in
theorem c_X1_withAllAbove (l : Launch) (G : GG) (ad : Nat → Nat) (sz : Nat) (ab : Nat → Int32) (a1 : Int32) {K : Int32 → Prop} (h : wp_X1_withAllAbove a1 ab K) : CI l yX1_withAllAbove wsX1_withAllAbove rm_X1_withAllAbove G [.ref (ad 0), .int a1] (wD G ad ab) sz (fun u : Unit => wD G ad ab) (fun r u => K r ) := by
  refine Met.ofW (cc := cX1_withAllAbove) (maxL := 4) (ret := (some .int)) (by decide) rfl ?_
  intro p e s m args below meth c s₁ B hml hv
  obtain ⟨rfl, hsz, hP, hK, hD0, hZ⟩ := hv
  have hx := B.exec
  have hb := B.bytes
  have hr := B.returns
  have hts := atoms_spec (ws := wsX1_withAllAbove) B.pre
  have hown : s.vm.findClass RX1 = some m.cls := findClass_of_methodNamed B.named
  have hlocks := B.notSynchronized
  subst hsz
  have hD := hD0.self (sz := s.heap.size)
  generalize hAe : va_A (wD G ad ab) s.heap.size = A at hD hZ ⊢
  have hA : ∀ q : Nat, s.heap.size ≤ q → A q := fun q h => by rw [← hAe]; exact Or.inr h
  have hS : va_S A s.heap s.heap [] := va_S.rf
  have hl := lv_entry ([.ref (ad 0), .int a1]) (n := 4) (Nat.le_of_ble_eq_true rfl)
  rw [lg_entry_eq]
  generalize (lg_sl ([.ref (ad 0), .int a1]) ++ List.replicate (4 - (lg_sl ([.ref (ad 0), .int a1])).length) Slot.unset).toArray = ls at hl ⊢
  have hl : lv_has ls 4 [(0, .ref (ad 0)), (1, .int a1)] := hl
  unfold wp_X1_withAllAbove at h
  have hinX1 : ∀ w ∈ wsX10, w ∈ wsX1_withAllAbove := by decide +kernel
  refine lv_iload_n hx hb dX1_withAllAbove_0 rfl (lv_at hl 1 rfl) ?_
  refine lv_istore_n (lv' := [(2, .int a1), (0, .ref (ad 0)), (1, .int a1)]) hx hb dX1_withAllAbove_1 rfl hl (by decide) rfl (fun ls hl => ?_)
  refine lv_iconst (v := (0 : Int32)) hx hb dX1_withAllAbove_2 (by decide) ?_
  refine lv_istore_n (lv' := [(3, .int (0 : Int32)), (2, .int a1), (0, .ref (ad 0)), (1, .int a1)]) hx hb dX1_withAllAbove_3 rfl hl (by decide) rfl (fun ls hl => ?_)
  obtain ⟨I3, n4, h0, hst5⟩ := h
  refine loopW (σ := Int32 × Int32) (P := fun q H locs ls => va_P G.1 vwCl (wD G ad ab) H ∧ va_D A (wD G ad ab) ∧ va_S A s.heap H locs ∧ lv_has ls 4 [(0, .ref (ad 0)), (1, .int a1), (2, .int q.1), (3, .int q.2)]) (I := fun n q => I3 n q.1 q.2) n4 (a1, (0 : Int32)) h0 _ _ _ ⟨hP, hD, hS, lv_sub hl [2, 3, 1, 0] rfl⟩ ?_
  rintro n8 ⟨x1, x2⟩ hI ih7 H locs ls ⟨hP, hD, hS, hl⟩
  have hP : va_P G.1 vwCl (wD G ad ab) H := hP
  have hD : va_D A (wD G ad ab) := hD
  have hl : lv_has ls 4 [(0, .ref (ad 0)), (1, .int a1), (2, .int x1), (3, .int x2)] := hl
  have h := hst5 n8 x1 x2 hI
  refine lv_iload_n hx hb dX1_withAllAbove_4 rfl (lv_at hl 3 rfl) ?_
  refine lv_bipush (v := (nI 10)) hx hb dX1_withAllAbove_5 (by decide) ?_
  refine lv_icmp_ge (tgt := 33) hx hb dX1_withAllAbove_7 (by decide) (fun c_9 => ?_) (fun c_9 => ?_)
  · have h := h.1 c_9
    refine lv_iload_n hx hb dX1_withAllAbove_33 rfl (lv_at hl 2 rfl) ?_
    exact W.iret hx hb hr (fun t ht hW => ⟨⟨_, (), rfl, h, by rw [ht]; exact hP, hD⟩, hS.F ht⟩) hS.2.2 dX1_withAllAbove_34
  · have h := h.2 c_9
    refine lv_iload_n hx hb dX1_withAllAbove_10 rfl (lv_at hl 1 rfl) ?_
    refine lv_iload_n hx hb dX1_withAllAbove_11 rfl (lv_at hl 3 rfl) ?_
    refine kc_i (wr := ([0, 1] : List Nat).filterMap (fun i => (wD G ad ab)[i]?)) (va_runSN (As := [.int a1, .int x2]) (rest := []) ⟨hx, hb, hml, hown, hts⟩ (c_X5_contains l G  _  a1 x2 h) ⟨va_cnB 2 hts gX1_withAllAbove_X5_contains_n43 rfl rfl rfl (hK.2.M 13 (q := ("PlaFolder$Demands", 43, ⟨"PlaFolder", "contains", "(II)Z"⟩, "PlaFolder")) rfl) (hts (.initialized RX5) (by decide +kernel)) (by decide +kernel) ⟨Nat.le_of_ble_eq_true rfl, Nat.le_of_ble_eq_true rfl⟩, hts (.static yX5_contains) (by decide +kernel), trivial⟩ (kpS hK hP hD hZ hS hA [] rfl (by decide)) rfl rfl hl.1 rfl (lv_room (Nat.le_of_ble_eq_true rfl)) dX1_withAllAbove_12 ⟨Nat.zero_le _, Nat.zero_le _⟩) hP hD hS hA [] [0, 1] rfl rfl (by decide) (by decide) (fun r10 w19 H locs h hP hD hS => ?_)
    have hP : va_P G.1 vwCl (wD G ad ab) H := hP
    have hD : va_D A (wD G ad ab) := hD
    try dsimp only at h
    refine lv_if_eq (tgt := 27) hx hb dX1_withAllAbove_15 (by decide) (fun c_11 => ?_) (fun c_11 => ?_)
    · have h := h.1 c_11
      refine lv_iinc (v := (x2 + (1 : Int32))) (lv' := [(3, .int (x2 + (1 : Int32))), (0, .ref (ad 0)), (1, .int a1), (2, .int x1)]) hx hb dX1_withAllAbove_27 hl (k := 3) rfl rfl (by decide) rfl (fun ls hl => ?_)
      refine lv_goto (tgt := 4) hx hb dX1_withAllAbove_30 (by decide) ?_
      obtain ⟨n13, hn12, hI14⟩ := h
      exact ih7 n13 (x1, (x2 + (1 : Int32))) hn12 hI14 _ _ _ ⟨hP, hD, hS, lv_sub hl [1, 2, 3, 0] rfl⟩
    · have h := h.2 c_11
      refine lv_iload_n hx hb dX1_withAllAbove_18 rfl (lv_at hl 2 rfl) ?_
      refine lv_aload_n hx hb dX1_withAllAbove_19 rfl (lv_at hl 0 rfl) ?_
      refine va_get (D := G.1) (ci := 1) (v := .ref (ad 1)) (C := RX1) (T := TX1) (N := 1) hx hb hts hinX1 hown hK.1 hP 0 rfl rfl 0 (by decide) (hts (.fieldLink RX1 9 "PlaFolder$Demands" "above" "[I") (by decide +kernel)) (fun _ h9 => h9) rfl dX1_withAllAbove_20 ?_
      refine lv_iload_n hx hb dX1_withAllAbove_23 rfl (lv_at hl 3 rfl) ?_
      obtain ⟨hi15, h⟩ := h
      refine x_iald hx hb hK hP 1 rfl hi15 rfl dX1_withAllAbove_24 ?_
      refine lv_ior hx hb dX1_withAllAbove_25 ?_
      refine lv_istore_n (lv' := [(2, .int (x1 ||| (ab x2.toNatClampNeg))), (0, .ref (ad 0)), (1, .int a1), (3, .int x2)]) hx hb dX1_withAllAbove_26 rfl hl (by decide) rfl (fun ls hl => ?_)
      refine lv_iinc (v := (x2 + (1 : Int32))) (lv' := [(3, .int (x2 + (1 : Int32))), (2, .int (x1 ||| (ab x2.toNatClampNeg))), (0, .ref (ad 0)), (1, .int a1)]) hx hb dX1_withAllAbove_27 hl (k := 3) rfl rfl (by decide) rfl (fun ls hl => ?_)
      refine lv_goto (tgt := 4) hx hb dX1_withAllAbove_30 (by decide) ?_
      obtain ⟨n17, hn16, hI18⟩ := h
      exact ih7 n17 ((x1 ||| (ab x2.toNatClampNeg)), (x2 + (1 : Int32))) hn16 hI18 _ _ _ ⟨hP, hD, hS, lv_sub hl [2, 3, 1, 0] rfl⟩
def wp_X1_allow (a1 : Int32) (a2 : Int32) (ab : Nat → Int32) (K : Int32 → Prop) : Prop :=
 wp_X1_withAllAbove a1 ab (fun (r1 : Int32) => ((¬ (r1 &&& a2) = 0 → K (0 : Int32)) ∧
 ((r1 &&& a2) = 0 → K (1 : Int32))))
abbrev rm_X1_allow : Room := { frames := 2, cells := 0, slots := 0, locals := 44 }
set_option maxHeartbeats 4000000 in
set_option maxRecDepth 100000 in
theorem c_X1_allow (l : Launch) (G : GG) (ad : Nat → Nat) (sz : Nat) (ab : Nat → Int32) (a1 : Int32) (a2 : Int32) {K : Int32 → Prop} (h : wp_X1_allow a1 a2 ab K) : CI l yX1_allow wsX1_allow rm_X1_allow G [.ref (ad 0), .int a1, .int a2] (wD G ad ab) sz (fun u : Unit => wD G ad ab) (fun r u => K r ) := by
  refine Met.ofW (cc := cX1_allow) (maxL := 3) (ret := (some .boolean)) (by decide) rfl ?_
  intro p e s m args below meth c s₁ B hml hv
  obtain ⟨rfl, hsz, hP, hK, hD0, hZ⟩ := hv
  have hx := B.exec
  have hb := B.bytes
  have hr := B.returns
  have hts := atoms_spec (ws := wsX1_allow) B.pre
  have hown : s.vm.findClass RX1 = some m.cls := findClass_of_methodNamed B.named
  have hlocks := B.notSynchronized
  subst hsz
  have hD := hD0.self (sz := s.heap.size)
  generalize hAe : va_A (wD G ad ab) s.heap.size = A at hD hZ ⊢
  have hA : ∀ q : Nat, s.heap.size ≤ q → A q := fun q h => by rw [← hAe]; exact Or.inr h
  have hS : va_S A s.heap s.heap [] := va_S.rf
  have hl := lv_entry ([.ref (ad 0), .int a1, .int a2]) (n := 3) (Nat.le_of_ble_eq_true rfl)
  rw [lg_entry_eq]
  generalize (lg_sl ([.ref (ad 0), .int a1, .int a2]) ++ List.replicate (3 - (lg_sl ([.ref (ad 0), .int a1, .int a2])).length) Slot.unset).toArray = ls at hl ⊢
  have hl : lv_has ls 3 [(0, .ref (ad 0)), (1, .int a1), (2, .int a2)] := hl
  unfold wp_X1_allow at h
  refine lv_aload_n hx hb dX1_allow_0 rfl (lv_at hl 0 rfl) ?_
  refine lv_iload_n hx hb dX1_allow_1 rfl (lv_at hl 1 rfl) ?_
  refine kc_i (wr := ([] : va_W)) (va_runV (As := [.int a1]) (rest := []) ⟨hx, hb, hml, hown, hts⟩ (c_X1_withAllAbove l G ad _ ab a1 h) (cwV 1 hts gX1_allow_X1_withAllAbove rfl rfl rfl (by decide +kernel) ⟨Nat.le_of_ble_eq_true rfl, Nat.le_of_ble_eq_true rfl⟩) (kpV hK hP hD hZ hS hA [0, 1] rfl (by decide) (q0 := 0) (ci := 1) rfl rfl) rfl rfl hl.1 rfl (lv_room (Nat.le_of_ble_eq_true rfl)) dX1_allow_2 ⟨Nat.zero_le _, Nat.zero_le _⟩) hP hD hS hA [0, 1] [] rfl rfl (by decide) (by decide) (fun r1 w3 H locs h hP hD hS => ?_)
  have hP : va_P G.1 vwCl (wD G ad ab) H := hP
  have hD : va_D A (wD G ad ab) := hD
  try dsimp only at h
  refine lv_iload_n hx hb dX1_allow_5 rfl (lv_at hl 2 rfl) ?_
  refine lv_iand hx hb dX1_allow_6 ?_
  refine lv_if_ne (tgt := 14) hx hb dX1_allow_7 (by decide) (fun c_2 => ?_) (fun c_2 => ?_)
  · have h := h.1 c_2
    refine lv_iconst (v := (0 : Int32)) hx hb dX1_allow_14 (by decide) ?_
    exact W.zret hx hb hr (by decide) (fun t ht hW => ⟨⟨_, (), rfl, h, by rw [ht]; exact hP, hD⟩, hS.F ht⟩) hS.2.2 dX1_allow_15
  · have h := h.2 c_2
    refine lv_iconst (v := (1 : Int32)) hx hb dX1_allow_10 (by decide) ?_
    refine lv_goto (tgt := 15) hx hb dX1_allow_11 (by decide) ?_
    exact W.zret hx hb hr (by decide) (fun t ht hW => ⟨⟨_, (), rfl, h, by rw [ht]; exact hP, hD⟩, hS.F ht⟩) hS.2.2 dX1_allow_15
def wp_X1_add (a1 : Int32) (a2 : Int32) (ab : Nat → Int32) (K : (Nat → Int32) → Prop) : Prop :=
 wp_X1_withAllAbove a1 ab (fun (r1 : Int32) => (Lp2 (0 : Int32) ab (fun (x2 : Int32) (z3 : Nat → Int32) (J7 : Int32 → (Nat → Int32) → Prop) => (((nI 10) ≤ x2 → K z3) ∧
 (¬ ((nI 10) ≤ x2) → wp_X5_contains a2 x2 (fun (r11 : Int32) => ((¬ r11 = 0 → (vp_in x2 10 ∧ (vp_in x2 10 ∧ J7 (x2 + (1 : Int32)) (upd z3 x2.toNatClampNeg ((z3 x2.toNatClampNeg) ||| r1))))) ∧
 (r11 = 0 → (vp_in x2 10 ∧ ((((z3 x2.toNatClampNeg) &&& a2) = 0 → J7 (x2 + (1 : Int32)) z3) ∧
 (¬ (((z3 x2.toNatClampNeg) &&& a2) = 0) → (vp_in x2 10 ∧ (vp_in x2 10 ∧ J7 (x2 + (1 : Int32)) (upd z3 x2.toNatClampNeg ((z3 x2.toNatClampNeg) ||| r1)))))))))))))))
abbrev rm_X1_add : Room := { frames := 2, cells := 0, slots := 0, locals := 44 }
set_option maxHeartbeats 4000000 in
set_option maxRecDepth 100000 in
theorem c_X1_add (l : Launch) (G : GG) (ad : Nat → Nat) (sz : Nat) (ab : Nat → Int32) (a1 : Int32) (a2 : Int32) {K : (Nat → Int32) → Prop} (h : wp_X1_add a1 a2 ab K) : CV l yX1_add wsX1_add rm_X1_add G [.ref (ad 0), .int a1, .int a2] (wD G ad ab) sz (fun u : (Nat → Int32) => wD G ad u) (fun u => K u) := by
  refine Met.ofW (cc := cX1_add) (maxL := 5) (ret := none) (by decide) rfl ?_
  intro p e s m args below meth c s₁ B hml hv
  obtain ⟨rfl, hsz, hP, hK, hD0, hZ⟩ := hv
  have hx := B.exec
  have hb := B.bytes
  have hr := B.returns
  have hts := atoms_spec (ws := wsX1_add) B.pre
  have hown : s.vm.findClass RX1 = some m.cls := findClass_of_methodNamed B.named
  have hlocks := B.notSynchronized
  subst hsz
  have hD := hD0.self (sz := s.heap.size)
  generalize hAe : va_A (wD G ad ab) s.heap.size = A at hD hZ ⊢
  have hA : ∀ q : Nat, s.heap.size ≤ q → A q := fun q h => by rw [← hAe]; exact Or.inr h
  have hS : va_S A s.heap s.heap [] := va_S.rf
  have hl := lv_entry ([.ref (ad 0), .int a1, .int a2]) (n := 5) (Nat.le_of_ble_eq_true rfl)
  rw [lg_entry_eq]
  generalize (lg_sl ([.ref (ad 0), .int a1, .int a2]) ++ List.replicate (5 - (lg_sl ([.ref (ad 0), .int a1, .int a2])).length) Slot.unset).toArray = ls at hl ⊢
  have hl : lv_has ls 5 [(0, .ref (ad 0)), (1, .int a1), (2, .int a2)] := hl
  unfold wp_X1_add at h
  have hinX1 : ∀ w ∈ wsX10, w ∈ wsX1_add := by decide +kernel
  refine lv_aload_n hx hb dX1_add_0 rfl (lv_at hl 0 rfl) ?_
  refine lv_iload_n hx hb dX1_add_1 rfl (lv_at hl 1 rfl) ?_
  refine kc_i (wr := ([] : va_W)) (va_runV (As := [.int a1]) (rest := []) ⟨hx, hb, hml, hown, hts⟩ (c_X1_withAllAbove l G ad _ ab a1 h) (cwV 1 hts gX1_add_X1_withAllAbove rfl rfl rfl (by decide +kernel) ⟨Nat.le_of_ble_eq_true rfl, Nat.le_of_ble_eq_true rfl⟩) (kpV hK hP hD hZ hS hA [0, 1] rfl (by decide) (q0 := 0) (ci := 1) rfl rfl) rfl rfl hl.1 rfl (lv_room (Nat.le_of_ble_eq_true rfl)) dX1_add_2 ⟨Nat.zero_le _, Nat.zero_le _⟩) hP hD hS hA [0, 1] [] rfl rfl (by decide) (by decide) (fun r1 w29 H locs h hP hD hS => ?_)
  have hP : va_P G.1 vwCl (wD G ad ab) H := hP
  have hD : va_D A (wD G ad ab) := hD
  try dsimp only at h
  refine lv_istore_n (lv' := [(3, .int r1), (0, .ref (ad 0)), (1, .int a1), (2, .int a2)]) hx hb dX1_add_5 rfl hl (by decide) rfl (fun ls hl => ?_)
  refine lv_iconst (v := (0 : Int32)) hx hb dX1_add_6 (by decide) ?_
  refine lv_istore (lv' := [(4, .int (0 : Int32)), (3, .int r1), (0, .ref (ad 0)), (1, .int a1), (2, .int a2)]) hx hb dX1_add_7 hl (by decide) rfl (fun ls hl => ?_)
  obtain ⟨I4, n5, h0, hst6⟩ := h
  refine loopW (σ := Int32 × (Nat → Int32)) (P := fun q H locs ls => va_P G.1 vwCl (wD G ad q.2) H ∧ va_D A (wD G ad q.2) ∧ va_S A s.heap H locs ∧ lv_has ls 5 [(0, .ref (ad 0)), (2, .int a2), (3, .int r1), (4, .int q.1)]) (I := fun n q => I4 n q.1 q.2) n5 ((0 : Int32), ab) h0 _ _ _ ⟨hP, hD, hS, lv_sub hl [2, 4, 1, 0] rfl⟩ ?_
  rintro n9 ⟨x2, z3⟩ hI ih8 H locs ls ⟨hP, hD, hS, hl⟩
  have hP : va_P G.1 vwCl (wD G ad z3) H := hP
  have hD : va_D A (wD G ad z3) := hD
  have hl : lv_has ls 5 [(0, .ref (ad 0)), (2, .int a2), (3, .int r1), (4, .int x2)] := hl
  have h := hst6 n9 x2 z3 hI
  refine lv_iload hx hb dX1_add_9 (lv_at hl 3 rfl) ?_
  refine lv_bipush (v := (nI 10)) hx hb dX1_add_11 (by decide) ?_
  refine lv_icmp_ge (tgt := 54) hx hb dX1_add_13 (by decide) (fun c_10 => ?_) (fun c_10 => ?_)
  · have h := h.1 c_10
    exact W.vret hx hb hr (fun t ht hW => ⟨⟨z3, rfl, h, by rw [ht]; exact hP, hD⟩, hS.F ht⟩) hS.2.2 dX1_add_54
  · have h := h.2 c_10
    refine lv_iload_n hx hb dX1_add_16 rfl (lv_at hl 1 rfl) ?_
    refine lv_iload hx hb dX1_add_17 (lv_at hl 3 rfl) ?_
    refine kc_i (wr := ([0, 1] : List Nat).filterMap (fun i => (wD G ad z3)[i]?)) (va_runSN (As := [.int a2, .int x2]) (rest := []) ⟨hx, hb, hml, hown, hts⟩ (c_X5_contains l G  _  a2 x2 h) ⟨va_cnB 2 hts gX1_add_X5_contains_n43 rfl rfl rfl (hK.2.M 13 (q := ("PlaFolder$Demands", 43, ⟨"PlaFolder", "contains", "(II)Z"⟩, "PlaFolder")) rfl) (hts (.initialized RX5) (by decide +kernel)) (by decide +kernel) ⟨Nat.le_of_ble_eq_true rfl, Nat.le_of_ble_eq_true rfl⟩, hts (.static yX5_contains) (by decide +kernel), trivial⟩ (kpS hK hP hD hZ hS hA [] rfl (by decide)) rfl rfl hl.1 rfl (lv_room (Nat.le_of_ble_eq_true rfl)) dX1_add_19 ⟨Nat.zero_le _, Nat.zero_le _⟩) hP hD hS hA [] [0, 1] rfl rfl (by decide) (by decide) (fun r11 w28 H locs h hP hD hS => ?_)
    have hP : va_P G.1 vwCl (wD G ad z3) H := hP
    have hD : va_D A (wD G ad z3) := hD
    try dsimp only at h
    refine lv_if_ne (tgt := 37) hx hb dX1_add_22 (by decide) (fun c_12 => ?_) (fun c_12 => ?_)
    · have h := h.1 c_12
      refine lv_aload_n hx hb dX1_add_37 rfl (lv_at hl 0 rfl) ?_
      refine va_get (D := G.1) (ci := 1) (v := .ref (ad 1)) (C := RX1) (T := TX1) (N := 1) hx hb hts hinX1 hown hK.1 hP 0 rfl rfl 0 (by decide) (hts (.fieldLink RX1 9 "PlaFolder$Demands" "above" "[I") (by decide +kernel)) (fun _ h9 => h9) rfl dX1_add_38 ?_
      refine lv_iload hx hb dX1_add_41 (lv_at hl 3 rfl) ?_
      refine lv_dup2_11 hx hb dX1_add_43 rfl rfl ?_
      obtain ⟨hi13, h⟩ := h
      refine x_iald hx hb hK hP 1 rfl hi13 rfl dX1_add_44 ?_
      refine lv_iload_n hx hb dX1_add_45 rfl (lv_at hl 2 rfl) ?_
      refine lv_ior hx hb dX1_add_46 ?_
      obtain ⟨hi14, h⟩ := h
      refine x_iast hx hb hK hP hD hS 1 rfl hi14 rfl dX1_add_47 (fun H locs hP hD hS => ?_)
      have hP : va_P G.1 vwCl (wD G ad (upd z3 x2.toNatClampNeg ((z3 x2.toNatClampNeg) ||| r1))) H := hP
      have hD : va_D A (wD G ad (upd z3 x2.toNatClampNeg ((z3 x2.toNatClampNeg) ||| r1))) := hD
      refine lv_iinc (v := (x2 + (1 : Int32))) (lv' := [(4, .int (x2 + (1 : Int32))), (0, .ref (ad 0)), (2, .int a2), (3, .int r1)]) hx hb dX1_add_48 hl (k := 3) rfl rfl (by decide) rfl (fun ls hl => ?_)
      refine lv_goto (tgt := 9) hx hb dX1_add_51 (by decide) ?_
      obtain ⟨n16, hn15, hI17⟩ := h
      exact ih8 n16 ((x2 + (1 : Int32)), (upd z3 x2.toNatClampNeg ((z3 x2.toNatClampNeg) ||| r1))) hn15 hI17 _ _ _ ⟨hP, hD, hS, lv_sub hl [1, 2, 3, 0] rfl⟩
    · have h := h.2 c_12
      refine lv_aload_n hx hb dX1_add_25 rfl (lv_at hl 0 rfl) ?_
      refine va_get (D := G.1) (ci := 1) (v := .ref (ad 1)) (C := RX1) (T := TX1) (N := 1) hx hb hts hinX1 hown hK.1 hP 0 rfl rfl 0 (by decide) (hts (.fieldLink RX1 9 "PlaFolder$Demands" "above" "[I") (by decide +kernel)) (fun _ h9 => h9) rfl dX1_add_26 ?_
      refine lv_iload hx hb dX1_add_29 (lv_at hl 3 rfl) ?_
      obtain ⟨hi18, h⟩ := h
      refine x_iald hx hb hK hP 1 rfl hi18 rfl dX1_add_31 ?_
      refine lv_iload_n hx hb dX1_add_32 rfl (lv_at hl 1 rfl) ?_
      refine lv_iand hx hb dX1_add_33 ?_
      refine lv_if_eq (tgt := 48) hx hb dX1_add_34 (by decide) (fun c_19 => ?_) (fun c_19 => ?_)
      · have h := h.1 c_19
        refine lv_iinc (v := (x2 + (1 : Int32))) (lv' := [(4, .int (x2 + (1 : Int32))), (0, .ref (ad 0)), (2, .int a2), (3, .int r1)]) hx hb dX1_add_48 hl (k := 3) rfl rfl (by decide) rfl (fun ls hl => ?_)
        refine lv_goto (tgt := 9) hx hb dX1_add_51 (by decide) ?_
        obtain ⟨n21, hn20, hI22⟩ := h
        exact ih8 n21 ((x2 + (1 : Int32)), z3) hn20 hI22 _ _ _ ⟨hP, hD, hS, lv_sub hl [1, 2, 3, 0] rfl⟩
      · have h := h.2 c_19
        refine lv_aload_n hx hb dX1_add_37 rfl (lv_at hl 0 rfl) ?_
        refine va_get (D := G.1) (ci := 1) (v := .ref (ad 1)) (C := RX1) (T := TX1) (N := 1) hx hb hts hinX1 hown hK.1 hP 0 rfl rfl 0 (by decide) (hts (.fieldLink RX1 9 "PlaFolder$Demands" "above" "[I") (by decide +kernel)) (fun _ h9 => h9) rfl dX1_add_38 ?_
        refine lv_iload hx hb dX1_add_41 (lv_at hl 3 rfl) ?_
        refine lv_dup2_11 hx hb dX1_add_43 rfl rfl ?_
        obtain ⟨hi23, h⟩ := h
        refine x_iald hx hb hK hP 1 rfl hi23 rfl dX1_add_44 ?_
        refine lv_iload_n hx hb dX1_add_45 rfl (lv_at hl 2 rfl) ?_
        refine lv_ior hx hb dX1_add_46 ?_
        obtain ⟨hi24, h⟩ := h
        refine x_iast hx hb hK hP hD hS 1 rfl hi24 rfl dX1_add_47 (fun H locs hP hD hS => ?_)
        have hP : va_P G.1 vwCl (wD G ad (upd z3 x2.toNatClampNeg ((z3 x2.toNatClampNeg) ||| r1))) H := hP
        have hD : va_D A (wD G ad (upd z3 x2.toNatClampNeg ((z3 x2.toNatClampNeg) ||| r1))) := hD
        refine lv_iinc (v := (x2 + (1 : Int32))) (lv' := [(4, .int (x2 + (1 : Int32))), (0, .ref (ad 0)), (2, .int a2), (3, .int r1)]) hx hb dX1_add_48 hl (k := 3) rfl rfl (by decide) rfl (fun ls hl => ?_)
        refine lv_goto (tgt := 9) hx hb dX1_add_51 (by decide) ?_
        obtain ⟨n26, hn25, hI27⟩ := h
        exact ih8 n26 ((x2 + (1 : Int32)), (upd z3 x2.toNatClampNeg ((z3 x2.toNatClampNeg) ||| r1))) hn25 hI27 _ _ _ ⟨hP, hD, hS, lv_sub hl [1, 2, 3, 0] rfl⟩
def wp_X1_collect (ab : Nat → Int32) (tc : Int32) (on : Nat → Int32) (ze : Nat → Int32) (ou : Nat → Int32) (lo : Nat → Int32) (K : (Nat → Int32) → Prop) : Prop :=
 wp_X1_clear ab (fun (u2 : Nat → Int32) => (Lp2 (0 : Int32) u2 (fun (x3 : Int32) (z4 : Nat → Int32) (J8 : Int32 → (Nat → Int32) → Prop) => (((nI 10) ≤ x3 → K z4) ∧
 (¬ ((nI 10) ≤ x3) → (vp_in x3 10 ∧ (((lo x3.toNatClampNeg) = (-1 : Int32) → J8 (x3 + (1 : Int32)) z4) ∧
 (¬ ((lo x3.toNatClampNeg) = (-1 : Int32)) → wp_X4_termsOfColumn x3 tc on ze ou (fun (r17 : Int32) => wp_X4_termsOfColumn (lo x3.toNatClampNeg) tc on ze ou (fun (r18 : Int32) => wp_X1_add r17 r18 z4 (fun (u20 : Nat → Int32) => J8 (x3 + (1 : Int32)) u20)))))))))))
abbrev rm_X1_collect : Room := { frames := 3, cells := 0, slots := 0, locals := 68 }
set_option maxHeartbeats 4000000 in
set_option maxRecDepth 100000 in
theorem c_X1_collect (l : Launch) (G : GG) (ad : Nat → Nat) (ae : Nat → Nat) (sz : Nat) (ab : Nat → Int32) (inp : Int32) (otp : Int32) (tc : Int32) (fc : Int32) (on : Nat → Int32) (ze : Nat → Int32) (ou : Nat → Int32) (wd : Nat → Int64) (lo : Nat → Int32) (up : Nat → Int32) {K : (Nat → Int32) → Prop} (h : wp_X1_collect ab tc on ze ou lo K) : CV l yX1_collect wsX1_collect rm_X1_collect G [.ref (ad 0), .ref (ae 0)] (wD G ad ab ++ (wS G ae inp otp tc fc on ze ou wd lo up)) sz (fun u : (Nat → Int32) => wD G ad u ++ (wS G ae inp otp tc fc on ze ou wd lo up)) (fun u => K u) := by
  refine Met.ofW (cc := cX1_collect) (maxL := 4) (ret := none) (by decide) rfl ?_
  intro p e s m args below meth c s₁ B hml hv
  obtain ⟨rfl, hsz, hP, hK, hD0, hZ⟩ := hv
  have hx := B.exec
  have hb := B.bytes
  have hr := B.returns
  have hts := atoms_spec (ws := wsX1_collect) B.pre
  have hown : s.vm.findClass RX1 = some m.cls := findClass_of_methodNamed B.named
  have hlocks := B.notSynchronized
  subst hsz
  have hD := hD0.self (sz := s.heap.size)
  generalize hAe : va_A (wD G ad ab ++ (wS G ae inp otp tc fc on ze ou wd lo up)) s.heap.size = A at hD hZ ⊢
  have hA : ∀ q : Nat, s.heap.size ≤ q → A q := fun q h => by rw [← hAe]; exact Or.inr h
  have hS : va_S A s.heap s.heap [] := va_S.rf
  have hl := lv_entry ([.ref (ad 0), .ref (ae 0)]) (n := 4) (Nat.le_of_ble_eq_true rfl)
  rw [lg_entry_eq]
  generalize (lg_sl ([.ref (ad 0), .ref (ae 0)]) ++ List.replicate (4 - (lg_sl ([.ref (ad 0), .ref (ae 0)])).length) Slot.unset).toArray = ls at hl ⊢
  have hl : lv_has ls 4 [(0, .ref (ad 0)), (1, .ref (ae 0))] := hl
  unfold wp_X1_collect at h
  have hinX4 : ∀ w ∈ wsX40, w ∈ wsX1_collect := by decide +kernel
  refine lv_aload_n hx hb dX1_collect_0 rfl (lv_at hl 0 rfl) ?_
  refine kp_v (wr := wS G ae inp otp tc fc on ze ou wd lo up) (va_runV (As := []) (rest := []) ⟨hx, hb, hml, hown, hts⟩ (c_X1_clear l G ad _ ab  h) (cwV 0 hts gX1_collect_X1_clear rfl rfl rfl (by decide +kernel) ⟨Nat.le_of_ble_eq_true rfl, Nat.le_of_ble_eq_true rfl⟩) (kpVp hK hP hD hZ hS hA (pm2_1_0 (wD G ad ab) (wS G ae inp otp tc fc on ze ou wd lo up)) (q0 := 0) (ci := 1) rfl rfl) rfl rfl hl.1 rfl (lv_room (Nat.le_of_ble_eq_true rfl)) dX1_collect_1 ⟨Nat.zero_le _, Nat.zero_le _⟩) hP hD hS hA (pm2_1_0 (wD G ad ab) (wS G ae inp otp tc fc on ze ou wd lo up)) (fun w27 H locs h hP hD hS => ?_)
  obtain ⟨u2, rfl⟩ : ∃ z, z = w27 := ⟨_, rfl⟩
  have hP : va_P G.1 vwCl (wD G ad u2 ++ (wS G ae inp otp tc fc on ze ou wd lo up)) H := hP.perm (pm2_1_0 (wD G ad u2) (wS G ae inp otp tc fc on ze ou wd lo up)).symm
  have hD : va_D A (wD G ad u2 ++ (wS G ae inp otp tc fc on ze ou wd lo up)) := hD.perm (pm2_1_0 (wD G ad u2) (wS G ae inp otp tc fc on ze ou wd lo up)).symm
  try dsimp only at h
  refine lv_iconst (v := (0 : Int32)) hx hb dX1_collect_4 (by decide) ?_
  refine lv_istore_n (lv' := [(2, .int (0 : Int32)), (0, .ref (ad 0)), (1, .ref (ae 0))]) hx hb dX1_collect_5 rfl hl (by decide) rfl (fun ls hl => ?_)
  obtain ⟨I5, n6, h0, hst7⟩ := h
  refine loopW (σ := Int32 × (Nat → Int32)) (P := fun q H locs ls => va_P G.1 vwCl (wD G ad q.2 ++ (wS G ae inp otp tc fc on ze ou wd lo up)) H ∧ va_D A (wD G ad q.2 ++ (wS G ae inp otp tc fc on ze ou wd lo up)) ∧ va_S A s.heap H locs ∧ lv_has ls 4 [(0, .ref (ad 0)), (1, .ref (ae 0)), (2, .int q.1)]) (I := fun n q => I5 n q.1 q.2) n6 ((0 : Int32), u2) h0 _ _ _ ⟨hP, hD, hS, lv_sub hl [1, 2, 0] rfl⟩ ?_
  rintro n10 ⟨x3, z4⟩ hI ih9 H locs ls ⟨hP, hD, hS, hl⟩
  have hP : va_P G.1 vwCl (wD G ad z4 ++ (wS G ae inp otp tc fc on ze ou wd lo up)) H := hP
  have hD : va_D A (wD G ad z4 ++ (wS G ae inp otp tc fc on ze ou wd lo up)) := hD
  have hl : lv_has ls 4 [(0, .ref (ad 0)), (1, .ref (ae 0)), (2, .int x3)] := hl
  have h := hst7 n10 x3 z4 hI
  refine lv_iload_n hx hb dX1_collect_6 rfl (lv_at hl 2 rfl) ?_
  refine lv_bipush (v := (nI 10)) hx hb dX1_collect_7 (by decide) ?_
  refine lv_icmp_ge (tgt := 44) hx hb dX1_collect_9 (by decide) (fun c_11 => ?_) (fun c_11 => ?_)
  · have h := h.1 c_11
    exact W.vret hx hb hr (fun t ht hW => ⟨⟨z4, rfl, h, by rw [ht]; exact hP, hD⟩, hS.F ht⟩) hS.2.2 dX1_collect_44
  · have h := h.2 c_11
    refine lv_aload_n hx hb dX1_collect_12 rfl (lv_at hl 1 rfl) ?_
    refine va_getN (D := G.1) (ci := 4) (v := .ref (ae 5)) (C := RX4) (T := TX4) (N := 10) (host := "PlaFolder") hx hb hts hinX4 hown hK.1 hP.r 0 rfl rfl 8 (by decide) (hK.2.F 7 (q := ("PlaFolder$Demands", 30, "PlaFolder$State", "lowerOf", "[I", "PlaFolder")) rfl) (fun _ h9 => h9) rfl dX1_collect_13 ?_
    refine lv_iload_n hx hb dX1_collect_16 rfl (lv_at hl 2 rfl) ?_
    obtain ⟨hi12, h⟩ := h
    refine x_iald hx hb hK hP.r 5 rfl hi12 rfl dX1_collect_17 ?_
    refine lv_istore_n (lv' := [(3, .int (lo x3.toNatClampNeg)), (0, .ref (ad 0)), (1, .ref (ae 0)), (2, .int x3)]) hx hb dX1_collect_18 rfl hl (by decide) rfl (fun ls hl => ?_)
    refine lv_iload_n hx hb dX1_collect_19 rfl (lv_at hl 0 rfl) ?_
    refine lv_iconst (v := (-1 : Int32)) hx hb dX1_collect_20 (by decide) ?_
    refine lv_icmp_eq (tgt := 38) hx hb dX1_collect_21 (by decide) (fun c_13 => ?_) (fun c_13 => ?_)
    · have h := h.1 c_13
      refine lv_iinc (v := (x3 + (1 : Int32))) (lv' := [(2, .int (x3 + (1 : Int32))), (3, .int (lo x3.toNatClampNeg)), (0, .ref (ad 0)), (1, .ref (ae 0))]) hx hb dX1_collect_38 hl (k := 3) rfl rfl (by decide) rfl (fun ls hl => ?_)
      refine lv_goto (tgt := 6) hx hb dX1_collect_41 (by decide) ?_
      obtain ⟨n15, hn14, hI16⟩ := h
      exact ih9 n15 ((x3 + (1 : Int32)), z4) hn14 hI16 _ _ _ ⟨hP, hD, hS, lv_sub hl [2, 3, 0] rfl⟩
    · have h := h.2 c_13
      refine lv_aload_n hx hb dX1_collect_24 rfl (lv_at hl 1 rfl) ?_
      refine lv_aload_n hx hb dX1_collect_25 rfl (lv_at hl 2 rfl) ?_
      refine lv_iload_n hx hb dX1_collect_26 rfl (lv_at hl 3 rfl) ?_
      refine kp_i (wr := wD G ad z4) (va_runVN (As := [.int x3]) (rest := [.ref (ad 0)]) ⟨hx, hb, hml, hown, hts⟩ (c_X4_termsOfColumn l G ae _ inp otp tc fc on ze ou wd lo up x3 h) ⟨va_cnB 1 hts gX1_collect_X4_termsOfColumn_n35 rfl rfl rfl (hK.2.M 11 (q := ("PlaFolder$Demands", 35, ⟨"PlaFolder$State", "termsOfColumn", "(I)I"⟩, "PlaFolder")) rfl) (hts (.initialized RX4) (by decide +kernel)) (by decide +kernel) ⟨Nat.le_of_ble_eq_true rfl, Nat.le_of_ble_eq_true rfl⟩, hts (.instanceMethod yX4_termsOfColumn) (by decide +kernel), hts (.selects RX4 yX4_termsOfColumn yX4_termsOfColumn) (by decide +kernel)⟩ (kpVp hK hP hD hZ hS hA (pm2_0_1 (wD G ad z4) (wS G ae inp otp tc fc on ze ou wd lo up)) (q0 := 0) (ci := 4) rfl rfl) rfl rfl hl.1 rfl (lv_room (Nat.le_of_ble_eq_true rfl)) dX1_collect_27 ⟨Nat.zero_le _, Nat.zero_le _⟩) hP hD hS hA (pm2_0_1 (wD G ad z4) (wS G ae inp otp tc fc on ze ou wd lo up)) (fun r17 w26 H locs h hP hD hS => ?_)
      have hP : va_P G.1 vwCl (wD G ad z4 ++ (wS G ae inp otp tc fc on ze ou wd lo up)) H := hP.perm (pm2_0_1 (wD G ad z4) (wS G ae inp otp tc fc on ze ou wd lo up)).symm
      have hD : va_D A (wD G ad z4 ++ (wS G ae inp otp tc fc on ze ou wd lo up)) := hD.perm (pm2_0_1 (wD G ad z4) (wS G ae inp otp tc fc on ze ou wd lo up)).symm
      try dsimp only at h
      refine lv_aload_n hx hb dX1_collect_30 rfl (lv_at hl 2 rfl) ?_
      refine lv_iload_n hx hb dX1_collect_31 rfl (lv_at hl 0 rfl) ?_
      refine kp_i (wr := wD G ad z4) (va_runVN (As := [.int (lo x3.toNatClampNeg)]) (rest := [.int r17, .ref (ad 0)]) ⟨hx, hb, hml, hown, hts⟩ (c_X4_termsOfColumn l G ae _ inp otp tc fc on ze ou wd lo up (lo x3.toNatClampNeg) h) ⟨va_cnB 1 hts gX1_collect_X4_termsOfColumn_n35 rfl rfl rfl (hK.2.M 11 (q := ("PlaFolder$Demands", 35, ⟨"PlaFolder$State", "termsOfColumn", "(I)I"⟩, "PlaFolder")) rfl) (hts (.initialized RX4) (by decide +kernel)) (by decide +kernel) ⟨Nat.le_of_ble_eq_true rfl, Nat.le_of_ble_eq_true rfl⟩, hts (.instanceMethod yX4_termsOfColumn) (by decide +kernel), hts (.selects RX4 yX4_termsOfColumn yX4_termsOfColumn) (by decide +kernel)⟩ (kpVp hK hP hD hZ hS hA (pm2_0_1 (wD G ad z4) (wS G ae inp otp tc fc on ze ou wd lo up)) (q0 := 0) (ci := 4) rfl rfl) rfl rfl hl.1 rfl (lv_room (Nat.le_of_ble_eq_true rfl)) dX1_collect_32 ⟨Nat.zero_le _, Nat.zero_le _⟩) hP hD hS hA (pm2_0_1 (wD G ad z4) (wS G ae inp otp tc fc on ze ou wd lo up)) (fun r18 w25 H locs h hP hD hS => ?_)
      have hP : va_P G.1 vwCl (wD G ad z4 ++ (wS G ae inp otp tc fc on ze ou wd lo up)) H := hP.perm (pm2_0_1 (wD G ad z4) (wS G ae inp otp tc fc on ze ou wd lo up)).symm
      have hD : va_D A (wD G ad z4 ++ (wS G ae inp otp tc fc on ze ou wd lo up)) := hD.perm (pm2_0_1 (wD G ad z4) (wS G ae inp otp tc fc on ze ou wd lo up)).symm
      try dsimp only at h
      refine kp_v (wr := wS G ae inp otp tc fc on ze ou wd lo up) (va_runV (As := [.int r17, .int r18]) (rest := []) ⟨hx, hb, hml, hown, hts⟩ (c_X1_add l G ad _ z4 r17 r18 h) (cwV 2 hts gX1_collect_X1_add rfl rfl rfl (by decide +kernel) ⟨Nat.le_of_ble_eq_true rfl, Nat.le_of_ble_eq_true rfl⟩) (kpVp hK hP hD hZ hS hA (pm2_1_0 (wD G ad z4) (wS G ae inp otp tc fc on ze ou wd lo up)) (q0 := 0) (ci := 1) rfl rfl) rfl rfl hl.1 rfl (lv_room (Nat.le_of_ble_eq_true rfl)) dX1_collect_35 ⟨Nat.zero_le _, Nat.zero_le _⟩) hP hD hS hA (pm2_1_0 (wD G ad z4) (wS G ae inp otp tc fc on ze ou wd lo up)) (fun w24 H locs h hP hD hS => ?_)
      obtain ⟨u20, rfl⟩ : ∃ z, z = w24 := ⟨_, rfl⟩
      have hP : va_P G.1 vwCl (wD G ad u20 ++ (wS G ae inp otp tc fc on ze ou wd lo up)) H := hP.perm (pm2_1_0 (wD G ad u20) (wS G ae inp otp tc fc on ze ou wd lo up)).symm
      have hD : va_D A (wD G ad u20 ++ (wS G ae inp otp tc fc on ze ou wd lo up)) := hD.perm (pm2_1_0 (wD G ad u20) (wS G ae inp otp tc fc on ze ou wd lo up)).symm
      try dsimp only at h
      refine lv_iinc (v := (x3 + (1 : Int32))) (lv' := [(2, .int (x3 + (1 : Int32))), (3, .int (lo x3.toNatClampNeg)), (0, .ref (ad 0)), (1, .ref (ae 0))]) hx hb dX1_collect_38 hl (k := 3) rfl rfl (by decide) rfl (fun ls hl => ?_)
      refine lv_goto (tgt := 6) hx hb dX1_collect_41 (by decide) ?_
      obtain ⟨n22, hn21, hI23⟩ := h
      exact ih9 n22 ((x3 + (1 : Int32)), u20) hn21 hI23 _ _ _ ⟨hP, hD, hS, lv_sub hl [2, 3, 0] rfl⟩
def wp_X3_nextTerm (a2 : Int32) (a3 : Int32) (ab : Nat → Int32) (K : Int32 → Prop) : Prop :=
 (Lp1 (0 : Int32) (fun (x1 : Int32) (J5 : Int32 → Prop) => ((a2 ≤ x1 → K (-1 : Int32)) ∧
 (¬ (a2 ≤ x1) → wp_X5_contains a3 x1 (fun (r9 : Int32) => ((¬ r9 = 0 → J5 (x1 + (1 : Int32))) ∧
 (r9 = 0 → (vp_in x1 10 ∧ ((¬ ((ab x1.toNatClampNeg) &&& (a3 ^^^ (-1 : Int32))) = 0 → J5 (x1 + (1 : Int32))) ∧
 (((ab x1.toNatClampNeg) &&& (a3 ^^^ (-1 : Int32))) = 0 → K x1))))))))))
abbrev rm_X3_nextTerm : Room := { frames := 1, cells := 0, slots := 0, locals := 21 }
set_option maxHeartbeats 4000000 in
set_option maxRecDepth 100000 in
theorem c_X3_nextTerm (l : Launch) (G : GG) (ad : Nat → Nat) (sz : Nat) (ab : Nat → Int32) (a2 : Int32) (a3 : Int32) {K : Int32 → Prop} (h : wp_X3_nextTerm a2 a3 ab K) : CI l yX3_nextTerm wsX3_nextTerm rm_X3_nextTerm G [.ref (ad 0), .int a2, .int a3] (wD G ad ab) sz (fun u : Unit => wD G ad ab) (fun r u => K r ) := by
  refine Met.ofW (cc := cX3_nextTerm) (maxL := 4) (ret := (some .int)) (by decide) rfl ?_
  intro p e s m args below meth c s₁ B hml hv
  obtain ⟨rfl, hsz, hP, hK, hD0, hZ⟩ := hv
  have hx := B.exec
  have hb := B.bytes
  have hr := B.returns
  have hts := atoms_spec (ws := wsX3_nextTerm) B.pre
  have hown : s.vm.findClass RX3 = some m.cls := findClass_of_methodNamed B.named
  have hlocks := B.notSynchronized
  subst hsz
  have hD := hD0.self (sz := s.heap.size)
  generalize hAe : va_A (wD G ad ab) s.heap.size = A at hD hZ ⊢
  have hA : ∀ q : Nat, s.heap.size ≤ q → A q := fun q h => by rw [← hAe]; exact Or.inr h
  have hS : va_S A s.heap s.heap [] := va_S.rf
  have hl := lv_entry ([.ref (ad 0), .int a2, .int a3]) (n := 4) (Nat.le_of_ble_eq_true rfl)
  rw [lg_entry_eq]
  generalize (lg_sl ([.ref (ad 0), .int a2, .int a3]) ++ List.replicate (4 - (lg_sl ([.ref (ad 0), .int a2, .int a3])).length) Slot.unset).toArray = ls at hl ⊢
  have hl : lv_has ls 4 [(0, .ref (ad 0)), (1, .int a2), (2, .int a3)] := hl
  unfold wp_X3_nextTerm at h
  have hinX1 : ∀ w ∈ wsX10, w ∈ wsX3_nextTerm := by decide +kernel
  refine lv_iconst (v := (0 : Int32)) hx hb dX3_nextTerm_0 (by decide) ?_
  refine lv_istore_n (lv' := [(3, .int (0 : Int32)), (0, .ref (ad 0)), (1, .int a2), (2, .int a3)]) hx hb dX3_nextTerm_1 rfl hl (by decide) rfl (fun ls hl => ?_)
  obtain ⟨I2, n3, h0, hst4⟩ := h
  refine loopW (σ := Int32) (P := fun q H locs ls => va_P G.1 vwCl (wD G ad ab) H ∧ va_D A (wD G ad ab) ∧ va_S A s.heap H locs ∧ lv_has ls 4 [(0, .ref (ad 0)), (1, .int a2), (2, .int a3), (3, .int q)]) (I := fun n q => I2 n q) n3 (0 : Int32) h0 _ _ _ ⟨hP, hD, hS, lv_sub hl [1, 2, 3, 0] rfl⟩ ?_
  rintro n7 x1 hI ih6 H locs ls ⟨hP, hD, hS, hl⟩
  have hP : va_P G.1 vwCl (wD G ad ab) H := hP
  have hD : va_D A (wD G ad ab) := hD
  have hl : lv_has ls 4 [(0, .ref (ad 0)), (1, .int a2), (2, .int a3), (3, .int x1)] := hl
  have h := hst4 n7 x1 hI
  refine lv_iload_n hx hb dX3_nextTerm_2 rfl (lv_at hl 3 rfl) ?_
  refine lv_iload_n hx hb dX3_nextTerm_3 rfl (lv_at hl 1 rfl) ?_
  refine lv_icmp_ge (tgt := 36) hx hb dX3_nextTerm_4 (by decide) (fun c_8 => ?_) (fun c_8 => ?_)
  · have h := h.1 c_8
    refine lv_iconst (v := (-1 : Int32)) hx hb dX3_nextTerm_36 (by decide) ?_
    exact W.iret hx hb hr (fun t ht hW => ⟨⟨_, (), rfl, h, by rw [ht]; exact hP, hD⟩, hS.F ht⟩) hS.2.2 dX3_nextTerm_37
  · have h := h.2 c_8
    refine lv_iload_n hx hb dX3_nextTerm_7 rfl (lv_at hl 2 rfl) ?_
    refine lv_iload_n hx hb dX3_nextTerm_8 rfl (lv_at hl 3 rfl) ?_
    refine kc_i (wr := ([0, 1] : List Nat).filterMap (fun i => (wD G ad ab)[i]?)) (va_runSN (As := [.int a3, .int x1]) (rest := []) ⟨hx, hb, hml, hown, hts⟩ (c_X5_contains l G  _  a3 x1 h) ⟨va_cnB 2 hts gX3_nextTerm_X5_contains_n22 rfl rfl rfl (hK.2.M 15 (q := ("PlaFolder$RowOrder", 22, ⟨"PlaFolder", "contains", "(II)Z"⟩, "PlaFolder")) rfl) (hts (.initialized RX5) (by decide +kernel)) (by decide +kernel) ⟨Nat.le_of_ble_eq_true rfl, Nat.le_of_ble_eq_true rfl⟩, hts (.static yX5_contains) (by decide +kernel), trivial⟩ (kpS hK hP hD hZ hS hA [] rfl (by decide)) rfl rfl hl.1 rfl (lv_room (Nat.le_of_ble_eq_true rfl)) dX3_nextTerm_9 ⟨Nat.zero_le _, Nat.zero_le _⟩) hP hD hS hA [] [0, 1] rfl rfl (by decide) (by decide) (fun r9 w19 H locs h hP hD hS => ?_)
    have hP : va_P G.1 vwCl (wD G ad ab) H := hP
    have hD : va_D A (wD G ad ab) := hD
    try dsimp only at h
    refine lv_if_ne (tgt := 30) hx hb dX3_nextTerm_12 (by decide) (fun c_10 => ?_) (fun c_10 => ?_)
    · have h := h.1 c_10
      refine lv_iinc (v := (x1 + (1 : Int32))) (lv' := [(3, .int (x1 + (1 : Int32))), (0, .ref (ad 0)), (1, .int a2), (2, .int a3)]) hx hb dX3_nextTerm_30 hl (k := 3) rfl rfl (by decide) rfl (fun ls hl => ?_)
      refine lv_goto (tgt := 2) hx hb dX3_nextTerm_33 (by decide) ?_
      obtain ⟨n12, hn11, hI13⟩ := h
      exact ih6 n12 (x1 + (1 : Int32)) hn11 hI13 _ _ _ ⟨hP, hD, hS, lv_sub hl [1, 2, 3, 0] rfl⟩
    · have h := h.2 c_10
      refine lv_aload_n hx hb dX3_nextTerm_15 rfl (lv_at hl 0 rfl) ?_
      refine va_getN (D := G.1) (ci := 1) (v := .ref (ad 1)) (C := RX1) (T := TX1) (N := 1) (host := "PlaFolder") hx hb hts hinX1 hown hK.1 hP 0 rfl rfl 0 (by decide) (hK.2.F 9 (q := ("PlaFolder$RowOrder", 26, "PlaFolder$Demands", "above", "[I", "PlaFolder")) rfl) (fun _ h9 => h9) rfl dX3_nextTerm_16 ?_
      refine lv_iload_n hx hb dX3_nextTerm_19 rfl (lv_at hl 3 rfl) ?_
      obtain ⟨hi14, h⟩ := h
      refine x_iald hx hb hK hP 1 rfl hi14 rfl dX3_nextTerm_20 ?_
      refine lv_iload_n hx hb dX3_nextTerm_21 rfl (lv_at hl 2 rfl) ?_
      refine lv_iconst (v := (-1 : Int32)) hx hb dX3_nextTerm_22 (by decide) ?_
      refine lv_ixor hx hb dX3_nextTerm_23 ?_
      refine lv_iand hx hb dX3_nextTerm_24 ?_
      refine lv_if_ne (tgt := 30) hx hb dX3_nextTerm_25 (by decide) (fun c_15 => ?_) (fun c_15 => ?_)
      · have h := h.1 c_15
        refine lv_iinc (v := (x1 + (1 : Int32))) (lv' := [(3, .int (x1 + (1 : Int32))), (0, .ref (ad 0)), (1, .int a2), (2, .int a3)]) hx hb dX3_nextTerm_30 hl (k := 3) rfl rfl (by decide) rfl (fun ls hl => ?_)
        refine lv_goto (tgt := 2) hx hb dX3_nextTerm_33 (by decide) ?_
        obtain ⟨n17, hn16, hI18⟩ := h
        exact ih6 n17 (x1 + (1 : Int32)) hn16 hI18 _ _ _ ⟨hP, hD, hS, lv_sub hl [1, 2, 3, 0] rfl⟩
      · have h := h.2 c_15
        refine lv_iload_n hx hb dX3_nextTerm_28 rfl (lv_at hl 3 rfl) ?_
        exact W.iret hx hb hr (fun t ht hW => ⟨⟨_, (), rfl, h, by rw [ht]; exact hP, hD⟩, hS.F ht⟩) hS.2.2 dX3_nextTerm_29
def wp_X3_build (a2 : Int32) (tr : Nat → Int32) (rt : Nat → Int32) (ab : Nat → Int32) (K : (Nat → Int32) → (Nat → Int32) → Prop) : Prop :=
 (Lp4 (0 : Int32) (0 : Int32) tr rt (fun (x1 : Int32) (x2 : Int32) (z3 : Nat → Int32) (z4 : Nat → Int32) (J8 : Int32 → Int32 → (Nat → Int32) → (Nat → Int32) → Prop) => ((a2 ≤ x2 → K z3 z4) ∧
 (¬ (a2 ≤ x2) → wp_X3_nextTerm a2 x1 ab (fun (r12 : Int32) => ((¬ r12 = (-1 : Int32) → (vp_in x2 10 ∧ (vp_in r12 10 ∧ J8 (x1 ||| (jshl (1 : Int32) r12)) (x2 + (1 : Int32)) (upd z3 x2.toNatClampNeg r12) (upd z4 r12.toNatClampNeg x2)))) ∧
 (r12 = (-1 : Int32) → K z3 z4)))))))
abbrev rm_X3_build : Room := { frames := 2, cells := 0, slots := 0, locals := 44 }
set_option maxHeartbeats 4000000 in
set_option maxRecDepth 100000 in
theorem c_X3_build (l : Launch) (G : GG) (ad : Nat → Nat) (ae : Nat → Nat) (sz : Nat) (tr : Nat → Int32) (rt : Nat → Int32) (ab : Nat → Int32) (a2 : Int32) {K : (Nat → Int32) → (Nat → Int32) → Prop} (h : wp_X3_build a2 tr rt ab K) : CV l yX3_build wsX3_build rm_X3_build G [.ref (ad 0), .ref (ae 0), .int a2] (wR G ad tr rt ++ (wD G ae ab)) sz (fun u : (Nat → Int32) × (Nat → Int32) => wR G ad u.1 u.2 ++ (wD G ae ab)) (fun u => K u.1 u.2) := by
  refine Met.ofW (cc := cX3_build) (maxL := 6) (ret := none) (by decide) rfl ?_
  intro p e s m args below meth c s₁ B hml hv
  obtain ⟨rfl, hsz, hP, hK, hD0, hZ⟩ := hv
  have hx := B.exec
  have hb := B.bytes
  have hr := B.returns
  have hts := atoms_spec (ws := wsX3_build) B.pre
  have hown : s.vm.findClass RX3 = some m.cls := findClass_of_methodNamed B.named
  have hlocks := B.notSynchronized
  subst hsz
  have hD := hD0.self (sz := s.heap.size)
  generalize hAe : va_A (wR G ad tr rt ++ (wD G ae ab)) s.heap.size = A at hD hZ ⊢
  have hA : ∀ q : Nat, s.heap.size ≤ q → A q := fun q h => by rw [← hAe]; exact Or.inr h
  have hS : va_S A s.heap s.heap [] := va_S.rf
  have hl := lv_entry ([.ref (ad 0), .ref (ae 0), .int a2]) (n := 6) (Nat.le_of_ble_eq_true rfl)
  rw [lg_entry_eq]
  generalize (lg_sl ([.ref (ad 0), .ref (ae 0), .int a2]) ++ List.replicate (6 - (lg_sl ([.ref (ad 0), .ref (ae 0), .int a2])).length) Slot.unset).toArray = ls at hl ⊢
  have hl : lv_has ls 6 [(0, .ref (ad 0)), (1, .ref (ae 0)), (2, .int a2)] := hl
  unfold wp_X3_build at h
  have hinX3 : ∀ w ∈ wsX30, w ∈ wsX3_build := by decide +kernel
  refine lv_iconst (v := (0 : Int32)) hx hb dX3_build_0 (by decide) ?_
  refine lv_istore_n (lv' := [(3, .int (0 : Int32)), (0, .ref (ad 0)), (1, .ref (ae 0)), (2, .int a2)]) hx hb dX3_build_1 rfl hl (by decide) rfl (fun ls hl => ?_)
  refine lv_iconst (v := (0 : Int32)) hx hb dX3_build_2 (by decide) ?_
  refine lv_istore (lv' := [(4, .int (0 : Int32)), (3, .int (0 : Int32)), (0, .ref (ad 0)), (1, .ref (ae 0)), (2, .int a2)]) hx hb dX3_build_3 hl (by decide) rfl (fun ls hl => ?_)
  obtain ⟨I5, n6, h0, hst7⟩ := h
  refine loopW (σ := Int32 × Int32 × (Nat → Int32) × (Nat → Int32)) (P := fun q H locs ls => va_P G.1 vwCl (wR G ad q.2.2.1 q.2.2.2 ++ (wD G ae ab)) H ∧ va_D A (wR G ad q.2.2.1 q.2.2.2 ++ (wD G ae ab)) ∧ va_S A s.heap H locs ∧ lv_has ls 6 [(0, .ref (ad 0)), (1, .ref (ae 0)), (2, .int a2), (3, .int q.1), (4, .int q.2.1)]) (I := fun n q => I5 n q.1 q.2.1 q.2.2.1 q.2.2.2) n6 ((0 : Int32), (0 : Int32), tr, rt) h0 _ _ _ ⟨hP, hD, hS, lv_sub hl [2, 3, 4, 1, 0] rfl⟩ ?_
  rintro n10 ⟨x1, x2, z3, z4⟩ hI ih9 H locs ls ⟨hP, hD, hS, hl⟩
  have hP : va_P G.1 vwCl (wR G ad z3 z4 ++ (wD G ae ab)) H := hP
  have hD : va_D A (wR G ad z3 z4 ++ (wD G ae ab)) := hD
  have hl : lv_has ls 6 [(0, .ref (ad 0)), (1, .ref (ae 0)), (2, .int a2), (3, .int x1), (4, .int x2)] := hl
  have h := hst7 n10 x1 x2 z3 z4 hI
  refine lv_iload hx hb dX3_build_5 (lv_at hl 4 rfl) ?_
  refine lv_iload_n hx hb dX3_build_7 rfl (lv_at hl 2 rfl) ?_
  refine lv_icmp_ge (tgt := 57) hx hb dX3_build_8 (by decide) (fun c_11 => ?_) (fun c_11 => ?_)
  · have h := h.1 c_11
    exact W.vret hx hb hr (fun t ht hW => ⟨⟨(z3, z4), rfl, h, by rw [ht]; exact hP, hD⟩, hS.F ht⟩) hS.2.2 dX3_build_57
  · have h := h.2 c_11
    refine lv_aload_n hx hb dX3_build_11 rfl (lv_at hl 1 rfl) ?_
    refine lv_iload_n hx hb dX3_build_12 rfl (lv_at hl 2 rfl) ?_
    refine lv_iload_n hx hb dX3_build_13 rfl (lv_at hl 3 rfl) ?_
    refine kc_i (wr := ([0, 1, 2] : List Nat).filterMap (fun i => (wR G ad z3 z4 ++ (wD G ae ab))[i]?)) (va_runS (As := [.ref (ae 0), .int a2, .int x1]) (rest := []) ⟨hx, hb, hml, hown, hts⟩ (c_X3_nextTerm l G ae _ ab a2 x1 h) (va_cwS 3 hts gX3_build_X3_nextTerm rfl rfl rfl (by decide +kernel) ⟨Nat.le_of_ble_eq_true rfl, Nat.le_of_ble_eq_true rfl⟩) (kpS hK hP hD hZ hS hA [3, 4] rfl (by decide)) rfl rfl hl.1 rfl (lv_room (Nat.le_of_ble_eq_true rfl)) dX3_build_14 ⟨Nat.zero_le _, Nat.zero_le _⟩) hP hD hS hA [3, 4] [0, 1, 2] rfl rfl (by decide) (by decide) (fun r12 w19 H locs h hP hD hS => ?_)
    have hP : va_P G.1 vwCl (wR G ad z3 z4 ++ (wD G ae ab)) H := hP
    have hD : va_D A (wR G ad z3 z4 ++ (wD G ae ab)) := hD
    try dsimp only at h
    refine lv_istore (lv' := [(5, .int r12), (0, .ref (ad 0)), (1, .ref (ae 0)), (2, .int a2), (3, .int x1), (4, .int x2)]) hx hb dX3_build_17 hl (by decide) rfl (fun ls hl => ?_)
    refine lv_iload hx hb dX3_build_19 (lv_at hl 0 rfl) ?_
    refine lv_iconst (v := (-1 : Int32)) hx hb dX3_build_21 (by decide) ?_
    refine lv_icmp_ne (tgt := 26) hx hb dX3_build_22 (by decide) (fun c_13 => ?_) (fun c_13 => ?_)
    · have h := h.1 c_13
      refine lv_aload_n hx hb dX3_build_26 rfl (lv_at hl 1 rfl) ?_
      refine va_get (D := G.1) (ci := 3) (v := .ref (ad 1)) (C := RX3) (T := TX3) (N := 2) hx hb hts hinX3 hown hK.1 hP.l 0 rfl rfl 0 (by decide) (hts (.fieldLink RX3 9 "PlaFolder$RowOrder" "termInRow" "[I") (by decide +kernel)) (fun _ h9 => h9) rfl dX3_build_27 ?_
      refine lv_iload hx hb dX3_build_30 (lv_at hl 5 rfl) ?_
      refine lv_iload hx hb dX3_build_32 (lv_at hl 0 rfl) ?_
      obtain ⟨hi14, h⟩ := h
      refine x_iast hx hb hK hP hD hS 1 rfl hi14 rfl dX3_build_34 (fun H locs hP hD hS => ?_)
      have hP : va_P G.1 vwCl (wR G ad (upd z3 x2.toNatClampNeg r12) z4 ++ (wD G ae ab)) H := hP
      have hD : va_D A (wR G ad (upd z3 x2.toNatClampNeg r12) z4 ++ (wD G ae ab)) := hD
      refine lv_aload_n hx hb dX3_build_35 rfl (lv_at hl 1 rfl) ?_
      refine va_get (D := G.1) (ci := 3) (v := .ref (ad 2)) (C := RX3) (T := TX3) (N := 2) hx hb hts hinX3 hown hK.1 hP.l 0 rfl rfl 1 (by decide) (hts (.fieldLink RX3 15 "PlaFolder$RowOrder" "rowOfTerm" "[I") (by decide +kernel)) (fun _ h9 => h9) rfl dX3_build_36 ?_
      refine lv_iload hx hb dX3_build_39 (lv_at hl 0 rfl) ?_
      refine lv_iload hx hb dX3_build_41 (lv_at hl 5 rfl) ?_
      obtain ⟨hi15, h⟩ := h
      refine x_iast hx hb hK hP hD hS 2 rfl hi15 rfl dX3_build_43 (fun H locs hP hD hS => ?_)
      have hP : va_P G.1 vwCl (wR G ad (upd z3 x2.toNatClampNeg r12) (upd z4 r12.toNatClampNeg x2) ++ (wD G ae ab)) H := hP
      have hD : va_D A (wR G ad (upd z3 x2.toNatClampNeg r12) (upd z4 r12.toNatClampNeg x2) ++ (wD G ae ab)) := hD
      refine lv_iload_n hx hb dX3_build_44 rfl (lv_at hl 4 rfl) ?_
      refine lv_iconst (v := (1 : Int32)) hx hb dX3_build_45 (by decide) ?_
      refine lv_iload hx hb dX3_build_46 (lv_at hl 0 rfl) ?_
      refine lv_ishl hx hb dX3_build_48 ?_
      refine lv_ior hx hb dX3_build_49 ?_
      refine lv_istore_n (lv' := [(3, .int (x1 ||| (jshl (1 : Int32) r12))), (5, .int r12), (0, .ref (ad 0)), (1, .ref (ae 0)), (2, .int a2), (4, .int x2)]) hx hb dX3_build_50 rfl hl (by decide) rfl (fun ls hl => ?_)
      refine lv_iinc (v := (x2 + (1 : Int32))) (lv' := [(4, .int (x2 + (1 : Int32))), (3, .int (x1 ||| (jshl (1 : Int32) r12))), (5, .int r12), (0, .ref (ad 0)), (1, .ref (ae 0)), (2, .int a2)]) hx hb dX3_build_51 hl (k := 5) rfl rfl (by decide) rfl (fun ls hl => ?_)
      refine lv_goto (tgt := 5) hx hb dX3_build_54 (by decide) ?_
      obtain ⟨n17, hn16, hI18⟩ := h
      exact ih9 n17 ((x1 ||| (jshl (1 : Int32) r12)), (x2 + (1 : Int32)), (upd z3 x2.toNatClampNeg r12), (upd z4 r12.toNatClampNeg x2)) hn16 hI18 _ _ _ ⟨hP, hD, hS, lv_sub hl [3, 4, 5, 1, 0] rfl⟩
    · have h := h.2 c_13
      exact W.vret hx hb hr (fun t ht hW => ⟨⟨(z3, z4), rfl, h, by rw [ht]; exact hP, hD⟩, hS.F ht⟩) hS.2.2 dX3_build_25
def wp_X3_spread (a1 : Int32) (a2 : Int32) (rt : Nat → Int32) (K : Int32 → Prop) : Prop :=
 (Lp3 a2 (-1 : Int32) (0 : Int32) (fun (x1 : Int32) (x2 : Int32) (x3 : Int32) (J7 : Int32 → Int32 → Int32 → Prop) => ((a2 ≤ x3 → ((0 ≤ x2 → K ((x2 - x1) + (1 : Int32))) ∧
 (¬ (0 ≤ x2) → K (0 : Int32)))) ∧
 (¬ (a2 ≤ x3) → wp_X5_contains a1 x3 (fun (r12 : Int32) => ((r12 = 0 → J7 x1 x2 (x3 + (1 : Int32))) ∧
 (¬ (r12 = 0) → (vp_in x3 10 ∧ (vp_in x3 10 ∧ J7 (if (rt x3.toNatClampNeg) < x1 then (rt x3.toNatClampNeg) else x1) (if x2 < (rt x3.toNatClampNeg) then (rt x3.toNatClampNeg) else x2) (x3 + (1 : Int32)))))))))))
abbrev rm_X3_spread : Room := { frames := 1, cells := 0, slots := 0, locals := 40 }
set_option maxHeartbeats 4000000 in
set_option maxRecDepth 100000 in
theorem c_X3_spread (l : Launch) (G : GG) (ad : Nat → Nat) (sz : Nat) (tr : Nat → Int32) (rt : Nat → Int32) (a1 : Int32) (a2 : Int32) {K : Int32 → Prop} (h : wp_X3_spread a1 a2 rt K) : CI l yX3_spread wsX3_spread rm_X3_spread G [.ref (ad 0), .int a1, .int a2] (wR G ad tr rt) sz (fun u : Unit => wR G ad tr rt) (fun r u => K r ) := by
  refine Met.ofW (cc := cX3_spread) (maxL := 6) (ret := (some .int)) (by decide) rfl ?_
  intro p e s m args below meth c s₁ B hml hv
  obtain ⟨rfl, hsz, hP, hK, hD0, hZ⟩ := hv
  have hx := B.exec
  have hb := B.bytes
  have hr := B.returns
  have hts := atoms_spec (ws := wsX3_spread) B.pre
  have hown : s.vm.findClass RX3 = some m.cls := findClass_of_methodNamed B.named
  have hlocks := B.notSynchronized
  subst hsz
  have hD := hD0.self (sz := s.heap.size)
  generalize hAe : va_A (wR G ad tr rt) s.heap.size = A at hD hZ ⊢
  have hA : ∀ q : Nat, s.heap.size ≤ q → A q := fun q h => by rw [← hAe]; exact Or.inr h
  have hS : va_S A s.heap s.heap [] := va_S.rf
  have hl := lv_entry ([.ref (ad 0), .int a1, .int a2]) (n := 6) (Nat.le_of_ble_eq_true rfl)
  rw [lg_entry_eq]
  generalize (lg_sl ([.ref (ad 0), .int a1, .int a2]) ++ List.replicate (6 - (lg_sl ([.ref (ad 0), .int a1, .int a2])).length) Slot.unset).toArray = ls at hl ⊢
  have hl : lv_has ls 6 [(0, .ref (ad 0)), (1, .int a1), (2, .int a2)] := hl
  unfold wp_X3_spread at h
  have hinX3 : ∀ w ∈ wsX30, w ∈ wsX3_spread := by decide +kernel
  refine lv_iload_n hx hb dX3_spread_0 rfl (lv_at hl 2 rfl) ?_
  refine lv_istore_n (lv' := [(3, .int a2), (0, .ref (ad 0)), (1, .int a1), (2, .int a2)]) hx hb dX3_spread_1 rfl hl (by decide) rfl (fun ls hl => ?_)
  refine lv_iconst (v := (-1 : Int32)) hx hb dX3_spread_2 (by decide) ?_
  refine lv_istore (lv' := [(4, .int (-1 : Int32)), (3, .int a2), (0, .ref (ad 0)), (1, .int a1), (2, .int a2)]) hx hb dX3_spread_3 hl (by decide) rfl (fun ls hl => ?_)
  refine lv_iconst (v := (0 : Int32)) hx hb dX3_spread_5 (by decide) ?_
  refine lv_istore (lv' := [(5, .int (0 : Int32)), (4, .int (-1 : Int32)), (3, .int a2), (0, .ref (ad 0)), (1, .int a1), (2, .int a2)]) hx hb dX3_spread_6 hl (by decide) rfl (fun ls hl => ?_)
  obtain ⟨I4, n5, h0, hst6⟩ := h
  refine loopW (σ := Int32 × Int32 × Int32) (P := fun q H locs ls => va_P G.1 vwCl (wR G ad tr rt) H ∧ va_D A (wR G ad tr rt) ∧ va_S A s.heap H locs ∧ lv_has ls 6 [(0, .ref (ad 0)), (1, .int a1), (2, .int a2), (3, .int q.1), (4, .int q.2.1), (5, .int q.2.2)]) (I := fun n q => I4 n q.1 q.2.1 q.2.2) n5 (a2, (-1 : Int32), (0 : Int32)) h0 _ _ _ ⟨hP, hD, hS, lv_sub hl [3, 4, 5, 2, 1, 0] rfl⟩ ?_
  rintro n9 ⟨x1, x2, x3⟩ hI ih8 H locs ls ⟨hP, hD, hS, hl⟩
  have hP : va_P G.1 vwCl (wR G ad tr rt) H := hP
  have hD : va_D A (wR G ad tr rt) := hD
  have hl : lv_has ls 6 [(0, .ref (ad 0)), (1, .int a1), (2, .int a2), (3, .int x1), (4, .int x2), (5, .int x3)] := hl
  have h := hst6 n9 x1 x2 x3 hI
  refine lv_iload hx hb dX3_spread_8 (lv_at hl 5 rfl) ?_
  refine lv_iload_n hx hb dX3_spread_10 rfl (lv_at hl 2 rfl) ?_
  refine lv_icmp_ge (tgt := 55) hx hb dX3_spread_11 (by decide) (fun c_10 => ?_) (fun c_10 => ?_)
  · have h := h.1 c_10
    refine lv_iload hx hb dX3_spread_55 (lv_at hl 4 rfl) ?_
    refine lv_if_ge (tgt := 64) hx hb dX3_spread_57 (by decide) (fun c_11 => ?_) (fun c_11 => ?_)
    · have h := h.1 c_11
      refine lv_iload hx hb dX3_spread_64 (lv_at hl 4 rfl) ?_
      refine lv_iload_n hx hb dX3_spread_66 rfl (lv_at hl 3 rfl) ?_
      refine lv_isub hx hb dX3_spread_67 ?_
      refine lv_iconst (v := (1 : Int32)) hx hb dX3_spread_68 (by decide) ?_
      refine lv_iadd hx hb dX3_spread_69 ?_
      exact W.iret hx hb hr (fun t ht hW => ⟨⟨_, (), rfl, h, by rw [ht]; exact hP, hD⟩, hS.F ht⟩) hS.2.2 dX3_spread_70
    · have h := h.2 c_11
      refine lv_iconst (v := (0 : Int32)) hx hb dX3_spread_60 (by decide) ?_
      refine lv_goto (tgt := 70) hx hb dX3_spread_61 (by decide) ?_
      exact W.iret hx hb hr (fun t ht hW => ⟨⟨_, (), rfl, h, by rw [ht]; exact hP, hD⟩, hS.F ht⟩) hS.2.2 dX3_spread_70
  · have h := h.2 c_10
    refine lv_iload_n hx hb dX3_spread_14 rfl (lv_at hl 1 rfl) ?_
    refine lv_iload hx hb dX3_spread_15 (lv_at hl 5 rfl) ?_
    refine kc_i (wr := ([0, 1, 2] : List Nat).filterMap (fun i => (wR G ad tr rt)[i]?)) (va_runSN (As := [.int a1, .int x3]) (rest := []) ⟨hx, hb, hml, hown, hts⟩ (c_X5_contains l G  _  a1 x3 h) ⟨va_cnB 2 hts gX3_spread_X5_contains_n22 rfl rfl rfl (hK.2.M 15 (q := ("PlaFolder$RowOrder", 22, ⟨"PlaFolder", "contains", "(II)Z"⟩, "PlaFolder")) rfl) (hts (.initialized RX5) (by decide +kernel)) (by decide +kernel) ⟨Nat.le_of_ble_eq_true rfl, Nat.le_of_ble_eq_true rfl⟩, hts (.static yX5_contains) (by decide +kernel), trivial⟩ (kpS hK hP hD hZ hS hA [] rfl (by decide)) rfl rfl hl.1 rfl (lv_room (Nat.le_of_ble_eq_true rfl)) dX3_spread_17 ⟨Nat.zero_le _, Nat.zero_le _⟩) hP hD hS hA [] [0, 1, 2] rfl rfl (by decide) (by decide) (fun r12 w22 H locs h hP hD hS => ?_)
    have hP : va_P G.1 vwCl (wR G ad tr rt) H := hP
    have hD : va_D A (wR G ad tr rt) := hD
    try dsimp only at h
    refine lv_if_eq (tgt := 49) hx hb dX3_spread_20 (by decide) (fun c_13 => ?_) (fun c_13 => ?_)
    · have h := h.1 c_13
      refine lv_iinc (v := (x3 + (1 : Int32))) (lv' := [(5, .int (x3 + (1 : Int32))), (0, .ref (ad 0)), (1, .int a1), (2, .int a2), (3, .int x1), (4, .int x2)]) hx hb dX3_spread_49 hl (k := 5) rfl rfl (by decide) rfl (fun ls hl => ?_)
      refine lv_goto (tgt := 8) hx hb dX3_spread_52 (by decide) ?_
      obtain ⟨n15, hn14, hI16⟩ := h
      exact ih8 n15 (x1, x2, (x3 + (1 : Int32))) hn14 hI16 _ _ _ ⟨hP, hD, hS, lv_sub hl [1, 2, 3, 4, 5, 0] rfl⟩
    · have h := h.2 c_13
      refine lv_iload_n hx hb dX3_spread_23 rfl (lv_at hl 3 rfl) ?_
      refine lv_aload_n hx hb dX3_spread_24 rfl (lv_at hl 0 rfl) ?_
      refine va_get (D := G.1) (ci := 3) (v := .ref (ad 2)) (C := RX3) (T := TX3) (N := 2) hx hb hts hinX3 hown hK.1 hP 0 rfl rfl 1 (by decide) (hts (.fieldLink RX3 15 "PlaFolder$RowOrder" "rowOfTerm" "[I") (by decide +kernel)) (fun _ h9 => h9) rfl dX3_spread_25 ?_
      refine lv_iload hx hb dX3_spread_28 (lv_at hl 5 rfl) ?_
      obtain ⟨hi17, h⟩ := h
      refine x_iald hx hb hK hP 2 rfl hi17 rfl dX3_spread_30 ?_
      refine va_mmin hx hb (by rw [hml]; exact hl.1.symm) hown (hts (.methodLink RX3 31 yJ9_min_7cf53) (by decide +kernel)) (hts (.static yJ9_min_7cf53) (by decide +kernel)) (hts (.initialized RJ9) (by decide +kernel)) (hts (.code yJ9_min_7cf53 cJ9_min_7cf53 2 (some .int)) (by decide +kernel)) (Nat.le_of_ble_eq_true rfl) (Nat.le_of_ble_eq_true rfl) (Nat.zero_le _) (Nat.zero_le _) dX3_spread_31 ?_
      refine lv_istore_n (lv' := [(3, .int (if (rt x3.toNatClampNeg) < x1 then (rt x3.toNatClampNeg) else x1)), (0, .ref (ad 0)), (1, .int a1), (2, .int a2), (4, .int x2), (5, .int x3)]) hx hb dX3_spread_34 rfl hl (by decide) rfl (fun ls hl => ?_)
      refine lv_iload hx hb dX3_spread_35 (lv_at hl 4 rfl) ?_
      refine lv_aload_n hx hb dX3_spread_37 rfl (lv_at hl 1 rfl) ?_
      refine va_get (D := G.1) (ci := 3) (v := .ref (ad 2)) (C := RX3) (T := TX3) (N := 2) hx hb hts hinX3 hown hK.1 hP 0 rfl rfl 1 (by decide) (hts (.fieldLink RX3 15 "PlaFolder$RowOrder" "rowOfTerm" "[I") (by decide +kernel)) (fun _ h9 => h9) rfl dX3_spread_38 ?_
      refine lv_iload hx hb dX3_spread_41 (lv_at hl 5 rfl) ?_
      obtain ⟨hi18, h⟩ := h
      refine x_iald hx hb hK hP 2 rfl hi18 rfl dX3_spread_43 ?_
      refine va_mmax hx hb (by rw [hml]; exact hl.1.symm) hown (hts (.methodLink RX3 37 yJ9_max_7cf53) (by decide +kernel)) (hts (.static yJ9_max_7cf53) (by decide +kernel)) (hts (.initialized RJ9) (by decide +kernel)) (hts (.code yJ9_max_7cf53 cJ9_max_7cf53 2 (some .int)) (by decide +kernel)) (Nat.le_of_ble_eq_true rfl) (Nat.le_of_ble_eq_true rfl) (Nat.zero_le _) (Nat.zero_le _) dX3_spread_44 ?_
      refine lv_istore (lv' := [(4, .int (if x2 < (rt x3.toNatClampNeg) then (rt x3.toNatClampNeg) else x2)), (3, .int (if (rt x3.toNatClampNeg) < x1 then (rt x3.toNatClampNeg) else x1)), (0, .ref (ad 0)), (1, .int a1), (2, .int a2), (5, .int x3)]) hx hb dX3_spread_47 hl (by decide) rfl (fun ls hl => ?_)
      refine lv_iinc (v := (x3 + (1 : Int32))) (lv' := [(5, .int (x3 + (1 : Int32))), (4, .int (if x2 < (rt x3.toNatClampNeg) then (rt x3.toNatClampNeg) else x2)), (3, .int (if (rt x3.toNatClampNeg) < x1 then (rt x3.toNatClampNeg) else x1)), (0, .ref (ad 0)), (1, .int a1), (2, .int a2)]) hx hb dX3_spread_49 hl (k := 5) rfl rfl (by decide) rfl (fun ls hl => ?_)
      refine lv_goto (tgt := 8) hx hb dX3_spread_52 (by decide) ?_
      obtain ⟨n20, hn19, hI21⟩ := h
      exact ih8 n20 ((if (rt x3.toNatClampNeg) < x1 then (rt x3.toNatClampNeg) else x1), (if x2 < (rt x3.toNatClampNeg) then (rt x3.toNatClampNeg) else x2), (x3 + (1 : Int32))) hn19 hI21 _ _ _ ⟨hP, hD, hS, lv_sub hl [3, 4, 5, 2, 1, 0] rfl⟩
def wp_X0_mostOfKind (a1 : Int32) (a2 : Int32) (K : Int32 → Prop) : Prop :=
 wp_J6_bitCount_0f7a4 (jshr a1 a2) (fun (r1 : Int32) => wp_J6_bitCount_0f7a4 a1 (fun (r2 : Int32) => K (if (r2 / (nI 2)) < r1 then (r2 / (nI 2)) else r1)))
abbrev rm_X0_mostOfKind : Room := { frames := 1, cells := 0, slots := 0, locals := 40 }
set_option maxHeartbeats 4000000 in
set_option maxRecDepth 100000 in
theorem c_X0_mostOfKind (l : Launch) (G : GG) (sz : Nat) (a1 : Int32) (a2 : Int32) {K : Int32 → Prop} (h : wp_X0_mostOfKind a1 a2 K) : CI l yX0_mostOfKind wsX0_mostOfKind rm_X0_mostOfKind G [.int a1, .int a2] (([] : va_W)) sz (fun u : Unit => ([] : va_W)) (fun r u => K r ) := by
  refine Met.ofW (cc := cX0_mostOfKind) (maxL := 3) (ret := (some .int)) (by decide) rfl ?_
  intro p e s m args below meth c s₁ B hml hv
  obtain ⟨rfl, hsz, hP, hK, hD0, hZ⟩ := hv
  have hx := B.exec
  have hb := B.bytes
  have hr := B.returns
  have hts := atoms_spec (ws := wsX0_mostOfKind) B.pre
  have hown : s.vm.findClass RX0 = some m.cls := findClass_of_methodNamed B.named
  have hlocks := B.notSynchronized
  subst hsz
  have hD := hD0.self (sz := s.heap.size)
  generalize hAe : va_A (([] : va_W)) s.heap.size = A at hD hZ ⊢
  have hA : ∀ q : Nat, s.heap.size ≤ q → A q := fun q h => by rw [← hAe]; exact Or.inr h
  have hS : va_S A s.heap s.heap [] := va_S.rf
  have hl := lv_entry ([.int a1, .int a2]) (n := 3) (Nat.le_of_ble_eq_true rfl)
  rw [lg_entry_eq]
  generalize (lg_sl ([.int a1, .int a2]) ++ List.replicate (3 - (lg_sl ([.int a1, .int a2])).length) Slot.unset).toArray = ls at hl ⊢
  have hl : lv_has ls 3 [(0, .int a1), (1, .int a2)] := hl
  unfold wp_X0_mostOfKind at h
  refine lv_iload_n hx hb dX0_mostOfKind_0 rfl (lv_at hl 0 rfl) ?_
  refine lv_iload_n hx hb dX0_mostOfKind_1 rfl (lv_at hl 1 rfl) ?_
  refine lv_ishr hx hb dX0_mostOfKind_2 ?_
  refine kc_i (wr := ([] : va_W)) (va_runS (As := [.int (jshr a1 a2)]) (rest := []) ⟨hx, hb, hml, hown, hts⟩ (c_J6_bitCount_0f7a4 l G  _  (jshr a1 a2) h) (va_cwS 1 hts gX0_mostOfKind_J6_bitCount_0f7a4 rfl rfl rfl (by decide +kernel) ⟨Nat.le_of_ble_eq_true rfl, Nat.le_of_ble_eq_true rfl⟩) (kpS hK hP hD hZ hS hA [] rfl (by decide)) rfl rfl hl.1 rfl (lv_room (Nat.le_of_ble_eq_true rfl)) dX0_mostOfKind_3 ⟨Nat.zero_le _, Nat.zero_le _⟩) hP hD hS hA [] [] rfl rfl (by decide) (by decide) (fun r1 w4 H locs h hP hD hS => ?_)
  have hP : va_P G.1 vwCl (([] : va_W)) H := hP
  have hD : va_D A (([] : va_W)) := hD
  try dsimp only at h
  refine lv_istore_n (lv' := [(2, .int r1), (0, .int a1), (1, .int a2)]) hx hb dX0_mostOfKind_6 rfl hl (by decide) rfl (fun ls hl => ?_)
  refine lv_iload_n hx hb dX0_mostOfKind_7 rfl (lv_at hl 0 rfl) ?_
  refine lv_iload_n hx hb dX0_mostOfKind_8 rfl (lv_at hl 1 rfl) ?_
  refine kc_i (wr := ([] : va_W)) (va_runS (As := [.int a1]) (rest := [.int r1]) ⟨hx, hb, hml, hown, hts⟩ (c_J6_bitCount_0f7a4 l G  _  a1 h) (va_cwS 1 hts gX0_mostOfKind_J6_bitCount_0f7a4 rfl rfl rfl (by decide +kernel) ⟨Nat.le_of_ble_eq_true rfl, Nat.le_of_ble_eq_true rfl⟩) (kpS hK hP hD hZ hS hA [] rfl (by decide)) rfl rfl hl.1 rfl (lv_room (Nat.le_of_ble_eq_true rfl)) dX0_mostOfKind_9 ⟨Nat.zero_le _, Nat.zero_le _⟩) hP hD hS hA [] [] rfl rfl (by decide) (by decide) (fun r2 w3 H locs h hP hD hS => ?_)
  have hP : va_P G.1 vwCl (([] : va_W)) H := hP
  have hD : va_D A (([] : va_W)) := hD
  try dsimp only at h
  refine lv_iconst (v := (nI 2)) hx hb dX0_mostOfKind_12 (by decide) ?_
  refine lv_idiv hx hb dX0_mostOfKind_13 (by decide) ?_
  refine va_mmin hx hb (by rw [hml]; exact hl.1.symm) hown (hts (.methodLink RX0 110 yJ9_min_7cf53) (by decide +kernel)) (hts (.static yJ9_min_7cf53) (by decide +kernel)) (hts (.initialized RJ9) (by decide +kernel)) (hts (.code yJ9_min_7cf53 cJ9_min_7cf53 2 (some .int)) (by decide +kernel)) (Nat.le_of_ble_eq_true rfl) (Nat.le_of_ble_eq_true rfl) (Nat.zero_le _) (Nat.zero_le _) dX0_mostOfKind_14 ?_
  exact W.iret hx hb hr (fun t ht hW => ⟨⟨_, (), rfl, h, by rw [ht]; exact hP, hD⟩, hS.F ht⟩) hS.2.2 dX0_mostOfKind_17
def wp_X0_mostFolds (a1 : Int32) (a2 : Int32) (K : Int32 → Prop) : Prop :=
 wp_X0_mostOfKind (a1 &&& (nI 63)) a2 (fun (r1 : Int32) => wp_X0_mostOfKind (a1 &&& (nI 960)) a2 (fun (r2 : Int32) => K (r1 + r2)))
abbrev rm_X0_mostFolds : Room := { frames := 2, cells := 0, slots := 0, locals := 62 }
set_option maxHeartbeats 4000000 in
set_option maxRecDepth 100000 in
theorem c_X0_mostFolds (l : Launch) (G : GG) (sz : Nat) (a1 : Int32) (a2 : Int32) {K : Int32 → Prop} (h : wp_X0_mostFolds a1 a2 K) : CI l yX0_mostFolds wsX0_mostFolds rm_X0_mostFolds G [.int a1, .int a2] (([] : va_W)) sz (fun u : Unit => ([] : va_W)) (fun r u => K r ) := by
  refine Met.ofW (cc := cX0_mostFolds) (maxL := 2) (ret := (some .int)) (by decide) rfl ?_
  intro p e s m args below meth c s₁ B hml hv
  obtain ⟨rfl, hsz, hP, hK, hD0, hZ⟩ := hv
  have hx := B.exec
  have hb := B.bytes
  have hr := B.returns
  have hts := atoms_spec (ws := wsX0_mostFolds) B.pre
  have hown : s.vm.findClass RX0 = some m.cls := findClass_of_methodNamed B.named
  have hlocks := B.notSynchronized
  subst hsz
  have hD := hD0.self (sz := s.heap.size)
  generalize hAe : va_A (([] : va_W)) s.heap.size = A at hD hZ ⊢
  have hA : ∀ q : Nat, s.heap.size ≤ q → A q := fun q h => by rw [← hAe]; exact Or.inr h
  have hS : va_S A s.heap s.heap [] := va_S.rf
  have hl := lv_entry ([.int a1, .int a2]) (n := 2) (Nat.le_of_ble_eq_true rfl)
  rw [lg_entry_eq]
  generalize (lg_sl ([.int a1, .int a2]) ++ List.replicate (2 - (lg_sl ([.int a1, .int a2])).length) Slot.unset).toArray = ls at hl ⊢
  have hl : lv_has ls 2 [(0, .int a1), (1, .int a2)] := hl
  unfold wp_X0_mostFolds at h
  refine lv_iload_n hx hb dX0_mostFolds_0 rfl (lv_at hl 0 rfl) ?_
  refine lv_bipush (v := (nI 63)) hx hb dX0_mostFolds_1 (by decide) ?_
  refine lv_iand hx hb dX0_mostFolds_3 ?_
  refine lv_iload_n hx hb dX0_mostFolds_4 rfl (lv_at hl 1 rfl) ?_
  refine kc_i (wr := ([] : va_W)) (va_runS (As := [.int (a1 &&& (nI 63)), .int a2]) (rest := []) ⟨hx, hb, hml, hown, hts⟩ (c_X0_mostOfKind l G  _  (a1 &&& (nI 63)) a2 h) (va_cwS 2 hts gX0_mostFolds_X0_mostOfKind rfl rfl rfl (by decide +kernel) ⟨Nat.le_of_ble_eq_true rfl, Nat.le_of_ble_eq_true rfl⟩) (kpS hK hP hD hZ hS hA [] rfl (by decide)) rfl rfl hl.1 rfl (lv_room (Nat.le_of_ble_eq_true rfl)) dX0_mostFolds_5 ⟨Nat.zero_le _, Nat.zero_le _⟩) hP hD hS hA [] [] rfl rfl (by decide) (by decide) (fun r1 w4 H locs h hP hD hS => ?_)
  have hP : va_P G.1 vwCl (([] : va_W)) H := hP
  have hD : va_D A (([] : va_W)) := hD
  try dsimp only at h
  refine lv_iload_n hx hb dX0_mostFolds_8 rfl (lv_at hl 0 rfl) ?_
  refine lv_sipush (v := (nI 960)) hx hb dX0_mostFolds_9 (by decide) ?_
  refine lv_iand hx hb dX0_mostFolds_12 ?_
  refine lv_iload_n hx hb dX0_mostFolds_13 rfl (lv_at hl 1 rfl) ?_
  refine kc_i (wr := ([] : va_W)) (va_runS (As := [.int (a1 &&& (nI 960)), .int a2]) (rest := [.int r1]) ⟨hx, hb, hml, hown, hts⟩ (c_X0_mostOfKind l G  _  (a1 &&& (nI 960)) a2 h) (va_cwS 2 hts gX0_mostFolds_X0_mostOfKind rfl rfl rfl (by decide +kernel) ⟨Nat.le_of_ble_eq_true rfl, Nat.le_of_ble_eq_true rfl⟩) (kpS hK hP hD hZ hS hA [] rfl (by decide)) rfl rfl hl.1 rfl (lv_room (Nat.le_of_ble_eq_true rfl)) dX0_mostFolds_14 ⟨Nat.zero_le _, Nat.zero_le _⟩) hP hD hS hA [] [] rfl rfl (by decide) (by decide) (fun r2 w3 H locs h hP hD hS => ?_)
  have hP : va_P G.1 vwCl (([] : va_W)) H := hP
  have hD : va_D A (([] : va_W)) := hD
  try dsimp only at h
  refine lv_iadd hx hb dX0_mostFolds_17 ?_
  exact W.iret hx hb hr (fun t ht hW => ⟨⟨_, (), rfl, h, by rw [ht]; exact hP, hD⟩, hS.F ht⟩) hS.2.2 dX0_mostFolds_18
def wp_X0_matesOf (a2 : Int32) (inp : Int32) (otp : Int32) (tc : Int32) (on : Nat → Int32) (ze : Nat → Int32) (ou : Nat → Int32) (K : Int32 → Prop) : Prop :=
 (Lp2 (0 : Int32) (0 : Int32) (fun (x1 : Int32) (x2 : Int32) (J6 : Int32 → Int32 → Prop) => (((nI 10) ≤ x2 → K x1) ∧
 (¬ ((nI 10) ≤ x2) → wp_X4_hasColumn a2 inp otp (fun (r10 : Int32) => ((r10 = 0 → J6 x1 (x2 + (1 : Int32))) ∧
 (¬ (r10 = 0) → wp_X4_hasColumn x2 inp otp (fun (r15 : Int32) => ((r15 = 0 → J6 x1 (x2 + (1 : Int32))) ∧
 (¬ (r15 = 0) → wp_X4_isPair a2 x2 tc on ze ou (fun (r20 : Int32) => ((r20 = 0 → J6 x1 (x2 + (1 : Int32))) ∧
 (¬ (r20 = 0) → J6 (x1 ||| (jshl (1 : Int32) x2)) (x2 + (1 : Int32)))))))))))))))
abbrev rm_X0_matesOf : Room := { frames := 3, cells := 0, slots := 0, locals := 68 }
set_option maxHeartbeats 4000000 in
set_option maxRecDepth 100000 in
theorem c_X0_matesOf (l : Launch) (G : GG) (ad : Nat → Nat) (sz : Nat) (inp : Int32) (otp : Int32) (tc : Int32) (fc : Int32) (on : Nat → Int32) (ze : Nat → Int32) (ou : Nat → Int32) (wd : Nat → Int64) (lo : Nat → Int32) (up : Nat → Int32) (a2 : Int32) {K : Int32 → Prop} (h : wp_X0_matesOf a2 inp otp tc on ze ou K) : CI l yX0_matesOf wsX0_matesOf rm_X0_matesOf G [.ref (ad 0), .int a2] (wS G ad inp otp tc fc on ze ou wd lo up) sz (fun u : Unit => wS G ad inp otp tc fc on ze ou wd lo up) (fun r u => K r ) := by
  refine Met.ofW (cc := cX0_matesOf) (maxL := 4) (ret := (some .int)) (by decide) rfl ?_
  intro p e s m args below meth c s₁ B hml hv
  obtain ⟨rfl, hsz, hP, hK, hD0, hZ⟩ := hv
  have hx := B.exec
  have hb := B.bytes
  have hr := B.returns
  have hts := atoms_spec (ws := wsX0_matesOf) B.pre
  have hown : s.vm.findClass RX0 = some m.cls := findClass_of_methodNamed B.named
  have hlocks := B.notSynchronized
  subst hsz
  have hD := hD0.self (sz := s.heap.size)
  generalize hAe : va_A (wS G ad inp otp tc fc on ze ou wd lo up) s.heap.size = A at hD hZ ⊢
  have hA : ∀ q : Nat, s.heap.size ≤ q → A q := fun q h => by rw [← hAe]; exact Or.inr h
  have hS : va_S A s.heap s.heap [] := va_S.rf
  have hl := lv_entry ([.ref (ad 0), .int a2]) (n := 4) (Nat.le_of_ble_eq_true rfl)
  rw [lg_entry_eq]
  generalize (lg_sl ([.ref (ad 0), .int a2]) ++ List.replicate (4 - (lg_sl ([.ref (ad 0), .int a2])).length) Slot.unset).toArray = ls at hl ⊢
  have hl : lv_has ls 4 [(0, .ref (ad 0)), (1, .int a2)] := hl
  unfold wp_X0_matesOf at h
  refine lv_iconst (v := (0 : Int32)) hx hb dX0_matesOf_0 (by decide) ?_
  refine lv_istore_n (lv' := [(2, .int (0 : Int32)), (0, .ref (ad 0)), (1, .int a2)]) hx hb dX0_matesOf_1 rfl hl (by decide) rfl (fun ls hl => ?_)
  refine lv_iconst (v := (0 : Int32)) hx hb dX0_matesOf_2 (by decide) ?_
  refine lv_istore_n (lv' := [(3, .int (0 : Int32)), (2, .int (0 : Int32)), (0, .ref (ad 0)), (1, .int a2)]) hx hb dX0_matesOf_3 rfl hl (by decide) rfl (fun ls hl => ?_)
  obtain ⟨I3, n4, h0, hst5⟩ := h
  refine loopW (σ := Int32 × Int32) (P := fun q H locs ls => va_P G.1 vwCl (wS G ad inp otp tc fc on ze ou wd lo up) H ∧ va_D A (wS G ad inp otp tc fc on ze ou wd lo up) ∧ va_S A s.heap H locs ∧ lv_has ls 4 [(0, .ref (ad 0)), (1, .int a2), (2, .int q.1), (3, .int q.2)]) (I := fun n q => I3 n q.1 q.2) n4 ((0 : Int32), (0 : Int32)) h0 _ _ _ ⟨hP, hD, hS, lv_sub hl [2, 3, 1, 0] rfl⟩ ?_
  rintro n8 ⟨x1, x2⟩ hI ih7 H locs ls ⟨hP, hD, hS, hl⟩
  have hP : va_P G.1 vwCl (wS G ad inp otp tc fc on ze ou wd lo up) H := hP
  have hD : va_D A (wS G ad inp otp tc fc on ze ou wd lo up) := hD
  have hl : lv_has ls 4 [(0, .ref (ad 0)), (1, .int a2), (2, .int x1), (3, .int x2)] := hl
  have h := hst5 n8 x1 x2 hI
  refine lv_iload_n hx hb dX0_matesOf_4 rfl (lv_at hl 3 rfl) ?_
  refine lv_bipush (v := (nI 10)) hx hb dX0_matesOf_5 (by decide) ?_
  refine lv_icmp_ge (tgt := 47) hx hb dX0_matesOf_7 (by decide) (fun c_9 => ?_) (fun c_9 => ?_)
  · have h := h.1 c_9
    refine lv_iload_n hx hb dX0_matesOf_47 rfl (lv_at hl 2 rfl) ?_
    exact W.iret hx hb hr (fun t ht hW => ⟨⟨_, (), rfl, h, by rw [ht]; exact hP, hD⟩, hS.F ht⟩) hS.2.2 dX0_matesOf_48
  · have h := h.2 c_9
    refine lv_aload_n hx hb dX0_matesOf_10 rfl (lv_at hl 0 rfl) ?_
    refine lv_iload_n hx hb dX0_matesOf_11 rfl (lv_at hl 1 rfl) ?_
    refine kc_i (wr := ([] : va_W)) (va_runVN (As := [.int a2]) (rest := []) ⟨hx, hb, hml, hown, hts⟩ (c_X4_hasColumn l G ad _ inp otp tc fc on ze ou wd lo up a2 h) ⟨va_cnB 1 hts gX0_matesOf_X4_hasColumn_n63 rfl rfl rfl (hK.2.M 33 (q := ("PlaFolder$BestFolding", 63, ⟨"PlaFolder$State", "hasColumn", "(I)Z"⟩, "PlaFolder")) rfl) (hts (.initialized RX4) (by decide +kernel)) (by decide +kernel) ⟨Nat.le_of_ble_eq_true rfl, Nat.le_of_ble_eq_true rfl⟩, hts (.instanceMethod yX4_hasColumn) (by decide +kernel), hts (.selects RX4 yX4_hasColumn yX4_hasColumn) (by decide +kernel)⟩ (kpV hK hP hD hZ hS hA [0, 1, 2, 3, 4, 5, 6] rfl (by decide) (q0 := 0) (ci := 4) rfl rfl) rfl rfl hl.1 rfl (lv_room (Nat.le_of_ble_eq_true rfl)) dX0_matesOf_12 ⟨Nat.zero_le _, Nat.zero_le _⟩) hP hD hS hA [0, 1, 2, 3, 4, 5, 6] [] rfl rfl (by decide) (by decide) (fun r10 w30 H locs h hP hD hS => ?_)
    have hP : va_P G.1 vwCl (wS G ad inp otp tc fc on ze ou wd lo up) H := hP
    have hD : va_D A (wS G ad inp otp tc fc on ze ou wd lo up) := hD
    try dsimp only at h
    refine lv_if_eq (tgt := 41) hx hb dX0_matesOf_15 (by decide) (fun c_11 => ?_) (fun c_11 => ?_)
    · have h := h.1 c_11
      refine lv_iinc (v := (x2 + (1 : Int32))) (lv' := [(3, .int (x2 + (1 : Int32))), (0, .ref (ad 0)), (1, .int a2), (2, .int x1)]) hx hb dX0_matesOf_41 hl (k := 3) rfl rfl (by decide) rfl (fun ls hl => ?_)
      refine lv_goto (tgt := 4) hx hb dX0_matesOf_44 (by decide) ?_
      obtain ⟨n13, hn12, hI14⟩ := h
      exact ih7 n13 (x1, (x2 + (1 : Int32))) hn12 hI14 _ _ _ ⟨hP, hD, hS, lv_sub hl [1, 2, 3, 0] rfl⟩
    · have h := h.2 c_11
      refine lv_aload_n hx hb dX0_matesOf_18 rfl (lv_at hl 0 rfl) ?_
      refine lv_iload_n hx hb dX0_matesOf_19 rfl (lv_at hl 3 rfl) ?_
      refine kc_i (wr := ([] : va_W)) (va_runVN (As := [.int x2]) (rest := []) ⟨hx, hb, hml, hown, hts⟩ (c_X4_hasColumn l G ad _ inp otp tc fc on ze ou wd lo up x2 h) ⟨va_cnB 1 hts gX0_matesOf_X4_hasColumn_n63 rfl rfl rfl (hK.2.M 33 (q := ("PlaFolder$BestFolding", 63, ⟨"PlaFolder$State", "hasColumn", "(I)Z"⟩, "PlaFolder")) rfl) (hts (.initialized RX4) (by decide +kernel)) (by decide +kernel) ⟨Nat.le_of_ble_eq_true rfl, Nat.le_of_ble_eq_true rfl⟩, hts (.instanceMethod yX4_hasColumn) (by decide +kernel), hts (.selects RX4 yX4_hasColumn yX4_hasColumn) (by decide +kernel)⟩ (kpV hK hP hD hZ hS hA [0, 1, 2, 3, 4, 5, 6] rfl (by decide) (q0 := 0) (ci := 4) rfl rfl) rfl rfl hl.1 rfl (lv_room (Nat.le_of_ble_eq_true rfl)) dX0_matesOf_20 ⟨Nat.zero_le _, Nat.zero_le _⟩) hP hD hS hA [0, 1, 2, 3, 4, 5, 6] [] rfl rfl (by decide) (by decide) (fun r15 w29 H locs h hP hD hS => ?_)
      have hP : va_P G.1 vwCl (wS G ad inp otp tc fc on ze ou wd lo up) H := hP
      have hD : va_D A (wS G ad inp otp tc fc on ze ou wd lo up) := hD
      try dsimp only at h
      refine lv_if_eq (tgt := 41) hx hb dX0_matesOf_23 (by decide) (fun c_16 => ?_) (fun c_16 => ?_)
      · have h := h.1 c_16
        refine lv_iinc (v := (x2 + (1 : Int32))) (lv' := [(3, .int (x2 + (1 : Int32))), (0, .ref (ad 0)), (1, .int a2), (2, .int x1)]) hx hb dX0_matesOf_41 hl (k := 3) rfl rfl (by decide) rfl (fun ls hl => ?_)
        refine lv_goto (tgt := 4) hx hb dX0_matesOf_44 (by decide) ?_
        obtain ⟨n18, hn17, hI19⟩ := h
        exact ih7 n18 (x1, (x2 + (1 : Int32))) hn17 hI19 _ _ _ ⟨hP, hD, hS, lv_sub hl [1, 2, 3, 0] rfl⟩
      · have h := h.2 c_16
        refine lv_aload_n hx hb dX0_matesOf_26 rfl (lv_at hl 0 rfl) ?_
        refine lv_iload_n hx hb dX0_matesOf_27 rfl (lv_at hl 1 rfl) ?_
        refine lv_iload_n hx hb dX0_matesOf_28 rfl (lv_at hl 3 rfl) ?_
        refine kc_i (wr := ([] : va_W)) (va_runVN (As := [.int a2, .int x2]) (rest := []) ⟨hx, hb, hml, hown, hts⟩ (c_X4_isPair l G ad _ inp otp tc fc on ze ou wd lo up a2 x2 h) ⟨va_cnB 2 hts gX0_matesOf_X4_isPair_n67 rfl rfl rfl (hK.2.M 34 (q := ("PlaFolder$BestFolding", 67, ⟨"PlaFolder$State", "isPair", "(II)Z"⟩, "PlaFolder")) rfl) (hts (.initialized RX4) (by decide +kernel)) (by decide +kernel) ⟨Nat.le_of_ble_eq_true rfl, Nat.le_of_ble_eq_true rfl⟩, hts (.instanceMethod yX4_isPair) (by decide +kernel), hts (.selects RX4 yX4_isPair yX4_isPair) (by decide +kernel)⟩ (kpV hK hP hD hZ hS hA [0, 1, 2, 3, 4, 5, 6] rfl (by decide) (q0 := 0) (ci := 4) rfl rfl) rfl rfl hl.1 rfl (lv_room (Nat.le_of_ble_eq_true rfl)) dX0_matesOf_29 ⟨Nat.zero_le _, Nat.zero_le _⟩) hP hD hS hA [0, 1, 2, 3, 4, 5, 6] [] rfl rfl (by decide) (by decide) (fun r20 w28 H locs h hP hD hS => ?_)
        have hP : va_P G.1 vwCl (wS G ad inp otp tc fc on ze ou wd lo up) H := hP
        have hD : va_D A (wS G ad inp otp tc fc on ze ou wd lo up) := hD
        try dsimp only at h
        refine lv_if_eq (tgt := 41) hx hb dX0_matesOf_32 (by decide) (fun c_21 => ?_) (fun c_21 => ?_)
        · have h := h.1 c_21
          refine lv_iinc (v := (x2 + (1 : Int32))) (lv' := [(3, .int (x2 + (1 : Int32))), (0, .ref (ad 0)), (1, .int a2), (2, .int x1)]) hx hb dX0_matesOf_41 hl (k := 3) rfl rfl (by decide) rfl (fun ls hl => ?_)
          refine lv_goto (tgt := 4) hx hb dX0_matesOf_44 (by decide) ?_
          obtain ⟨n23, hn22, hI24⟩ := h
          exact ih7 n23 (x1, (x2 + (1 : Int32))) hn22 hI24 _ _ _ ⟨hP, hD, hS, lv_sub hl [1, 2, 3, 0] rfl⟩
        · have h := h.2 c_21
          refine lv_iload_n hx hb dX0_matesOf_35 rfl (lv_at hl 2 rfl) ?_
          refine lv_iconst (v := (1 : Int32)) hx hb dX0_matesOf_36 (by decide) ?_
          refine lv_iload_n hx hb dX0_matesOf_37 rfl (lv_at hl 3 rfl) ?_
          refine lv_ishl hx hb dX0_matesOf_38 ?_
          refine lv_ior hx hb dX0_matesOf_39 ?_
          refine lv_istore_n (lv' := [(2, .int (x1 ||| (jshl (1 : Int32) x2))), (0, .ref (ad 0)), (1, .int a2), (3, .int x2)]) hx hb dX0_matesOf_40 rfl hl (by decide) rfl (fun ls hl => ?_)
          refine lv_iinc (v := (x2 + (1 : Int32))) (lv' := [(3, .int (x2 + (1 : Int32))), (2, .int (x1 ||| (jshl (1 : Int32) x2))), (0, .ref (ad 0)), (1, .int a2)]) hx hb dX0_matesOf_41 hl (k := 3) rfl rfl (by decide) rfl (fun ls hl => ?_)
          refine lv_goto (tgt := 4) hx hb dX0_matesOf_44 (by decide) ?_
          obtain ⟨n26, hn25, hI27⟩ := h
          exact ih7 n26 ((x1 ||| (jshl (1 : Int32) x2)), (x2 + (1 : Int32))) hn25 hI27 _ _ _ ⟨hP, hD, hS, lv_sub hl [2, 3, 1, 0] rfl⟩
