def wp_J7_fill_53178 (a2 : Int32) (fa : Nat → Int32) (K : (Nat → Int32) → Prop) : Prop :=
 (Lp2 (0 : Int32) fa (fun (x1 : Int32) (z2 : Nat → Int32) (J6 : Int32 → (Nat → Int32) → Prop) => (((nI 10) ≤ x1 → K z2) ∧
 (¬ ((nI 10) ≤ x1) → (vp_in x1 10 ∧ J6 (x1 + (1 : Int32)) (upd z2 x1.toNatClampNeg a2))))))
abbrev rm_J7_fill_53178 : Room := { frames := 0, cells := 0, slots := 0, locals := 0 }
set_option maxHeartbeats 4000000 in
set_option maxRecDepth 100000 in
theorem c_J7_fill_53178 (l : Launch) (G : GG) (b : Nat) (sz : Nat) (fa : Nat → Int32) (a2 : Int32) {K : (Nat → Int32) → Prop} (h : wp_J7_fill_53178 a2 fa K) : CV l yJ7_fill_53178 wsJ7_fill_53178 rm_J7_fill_53178 G [.ref b, .int a2] (wA G b fa) sz (fun u : (Nat → Int32) => wA G b u) (fun u => K u) := by
  refine Met.ofW (cc := cJ7_fill_53178) (maxL := 4) (ret := none) (by decide) rfl ?_
  intro p e s m args below meth c s₁ B hml hv
  obtain ⟨rfl, hsz, hP, hK, hD0, hZ⟩ := hv
  have hx := B.exec
  have hb := B.bytes
  have hr := B.returns
  have hts := atoms_spec (ws := wsJ7_fill_53178) B.pre
  have hown : s.vm.findClass RJ7 = some m.cls := findClass_of_methodNamed B.named
  have hlocks := B.notSynchronized
  subst hsz
  have hD := hD0.self (sz := s.heap.size)
  generalize hAe : va_A (wA G b fa) s.heap.size = A at hD hZ ⊢
  have hA : ∀ q : Nat, s.heap.size ≤ q → A q := fun q h => by rw [← hAe]; exact Or.inr h
  have hS : va_S A s.heap s.heap [] := va_S.rf
  have hl := lv_entry ([.ref b, .int a2]) (n := 4) (Nat.le_of_ble_eq_true rfl)
  rw [lg_entry_eq]
  generalize (lg_sl ([.ref b, .int a2]) ++ List.replicate (4 - (lg_sl ([.ref b, .int a2])).length) Slot.unset).toArray = ls at hl ⊢
  have hl : lv_has ls 4 [(0, .ref b), (1, .int a2)] := hl
  unfold wp_J7_fill_53178 at h
  refine lv_iconst (v := (0 : Int32)) hx hb dJ7_fill_53178_0 (by decide) ?_
  refine lv_istore_n (lv' := [(2, .int (0 : Int32)), (0, .ref b), (1, .int a2)]) hx hb dJ7_fill_53178_1 rfl hl (by decide) rfl (fun ls hl => ?_)
  refine lv_aload_n hx hb dJ7_fill_53178_2 rfl (lv_at hl 1 rfl) ?_
  refine va_alen (v := (nI 10)) hx hb hK.1 hP 0 0 rfl rfl rfl dJ7_fill_53178_3 ?_
  refine lv_istore_n (lv' := [(3, .int (nI 10)), (2, .int (0 : Int32)), (0, .ref b), (1, .int a2)]) hx hb dJ7_fill_53178_4 rfl hl (by decide) rfl (fun ls hl => ?_)
  obtain ⟨I3, n4, h0, hst5⟩ := h
  refine loopW (σ := Int32 × (Nat → Int32)) (P := fun q H locs ls => va_P G.1 vwCl (wA G b q.2) H ∧ va_D A (wA G b q.2) ∧ va_S A s.heap H locs ∧ lv_has ls 4 [(0, .ref b), (1, .int a2), (2, .int q.1), (3, .int (nI 10))]) (I := fun n q => I3 n q.1 q.2) n4 ((0 : Int32), fa) h0 _ _ _ ⟨hP, hD, hS, lv_sub hl [2, 3, 1, 0] rfl⟩ ?_
  rintro n8 ⟨x1, z2⟩ hI ih7 H locs ls ⟨hP, hD, hS, hl⟩
  have hP : va_P G.1 vwCl (wA G b z2) H := hP
  have hD : va_D A (wA G b z2) := hD
  have hl : lv_has ls 4 [(0, .ref b), (1, .int a2), (2, .int x1), (3, .int (nI 10))] := hl
  have h := hst5 n8 x1 z2 hI
  refine lv_iload_n hx hb dJ7_fill_53178_5 rfl (lv_at hl 2 rfl) ?_
  refine lv_iload_n hx hb dJ7_fill_53178_6 rfl (lv_at hl 3 rfl) ?_
  refine lv_icmp_ge (tgt := 20) hx hb dJ7_fill_53178_7 (by decide) (fun c_9 => ?_) (fun c_9 => ?_)
  · have h := h.1 c_9
    exact W.vret hx hb hr (fun t ht hW => ⟨⟨z2, rfl, h, by rw [ht]; exact hP, hD⟩, hS.F ht⟩) hS.2.2 dJ7_fill_53178_20
  · have h := h.2 c_9
    refine lv_aload_n hx hb dJ7_fill_53178_10 rfl (lv_at hl 0 rfl) ?_
    refine lv_iload_n hx hb dJ7_fill_53178_11 rfl (lv_at hl 2 rfl) ?_
    refine lv_iload_n hx hb dJ7_fill_53178_12 rfl (lv_at hl 1 rfl) ?_
    obtain ⟨hi10, h⟩ := h
    refine x_iast hx hb hK hP hD hS 0 rfl hi10 rfl dJ7_fill_53178_13 (fun H locs hP hD hS => ?_)
    have hP : va_P G.1 vwCl (wA G b (upd z2 x1.toNatClampNeg a2)) H := hP
    have hD : va_D A (wA G b (upd z2 x1.toNatClampNeg a2)) := hD
    refine lv_iinc (v := (x1 + (1 : Int32))) (lv' := [(2, .int (x1 + (1 : Int32))), (0, .ref b), (1, .int a2), (3, .int (nI 10))]) hx hb dJ7_fill_53178_14 hl (k := 2) rfl rfl (by decide) rfl (fun ls hl => ?_)
    refine lv_goto (tgt := 5) hx hb dJ7_fill_53178_17 (by decide) ?_
    obtain ⟨n12, hn11, hI13⟩ := h
    exact ih7 n12 ((x1 + (1 : Int32)), (upd z2 x1.toNatClampNeg a2)) hn11 hI13 _ _ _ ⟨hP, hD, hS, lv_sub hl [1, 2, 0, 3] rfl⟩
def wp_X5_contains (a1 : Int32) (a2 : Int32) (K : Int32 → Prop) : Prop :=
 ((¬ ((jshr a1 a2) &&& (1 : Int32)) = (1 : Int32) → K (0 : Int32)) ∧
 (((jshr a1 a2) &&& (1 : Int32)) = (1 : Int32) → K (1 : Int32)))
abbrev rm_X5_contains : Room := { frames := 0, cells := 0, slots := 0, locals := 0 }
set_option maxHeartbeats 4000000 in
set_option maxRecDepth 100000 in
theorem c_X5_contains (l : Launch) (G : GG) (sz : Nat) (a1 : Int32) (a2 : Int32) {K : Int32 → Prop} (h : wp_X5_contains a1 a2 K) : CI l yX5_contains wsX5_contains rm_X5_contains G [.int a1, .int a2] (([] : va_W)) sz (fun u : Unit => ([] : va_W)) (fun r u => K r ) := by
  refine Met.ofW (cc := cX5_contains) (maxL := 2) (ret := (some .boolean)) (by decide) rfl ?_
  intro p e s m args below meth c s₁ B hml hv
  obtain ⟨rfl, hsz, hP, hK, hD0, hZ⟩ := hv
  have hx := B.exec
  have hb := B.bytes
  have hr := B.returns
  have hts := atoms_spec (ws := wsX5_contains) B.pre
  have hown : s.vm.findClass RX5 = some m.cls := findClass_of_methodNamed B.named
  have hlocks := B.notSynchronized
  subst hsz
  have hD := hD0.self (sz := s.heap.size)
  generalize hAe : va_A (([] : va_W)) s.heap.size = A at hD hZ ⊢
  have hA : ∀ q : Nat, s.heap.size ≤ q → A q := fun q h => by rw [← hAe]; exact Or.inr h
  have hS : va_S A s.heap s.heap [] := va_S.rf
  have hl := lv_entry ([.int a1, .int a2]) (n := 2) (Nat.le_of_ble_eq_true rfl)
  rw [lg_entry_eq]
  generalize (lg_sl ([.int a1, .int a2]) ++ List.replicate (2 - (lg_sl ([.int a1, .int a2])).length) Slot.unset).toArray = ls at hl ⊢
  have hl : lv_has ls 2 [(0, .int a1), (1, .int a2)] := hl
  unfold wp_X5_contains at h
  refine lv_iload_n hx hb dX5_contains_0 rfl (lv_at hl 0 rfl) ?_
  refine lv_iload_n hx hb dX5_contains_1 rfl (lv_at hl 1 rfl) ?_
  refine lv_ishr hx hb dX5_contains_2 ?_
  refine lv_iconst (v := (1 : Int32)) hx hb dX5_contains_3 (by decide) ?_
  refine lv_iand hx hb dX5_contains_4 ?_
  refine lv_iconst (v := (1 : Int32)) hx hb dX5_contains_5 (by decide) ?_
  refine lv_icmp_ne (tgt := 13) hx hb dX5_contains_6 (by decide) (fun c_1 => ?_) (fun c_1 => ?_)
  · have h := h.1 c_1
    refine lv_iconst (v := (0 : Int32)) hx hb dX5_contains_13 (by decide) ?_
    exact W.zret hx hb hr (by decide) (fun t ht hW => ⟨⟨_, (), rfl, h, by rw [ht]; exact hP, hD⟩, hS.F ht⟩) hS.2.2 dX5_contains_14
  · have h := h.2 c_1
    refine lv_iconst (v := (1 : Int32)) hx hb dX5_contains_9 (by decide) ?_
    refine lv_goto (tgt := 14) hx hb dX5_contains_10 (by decide) ?_
    exact W.zret hx hb hr (by decide) (fun t ht hW => ⟨⟨_, (), rfl, h, by rw [ht]; exact hP, hD⟩, hS.F ht⟩) hS.2.2 dX5_contains_14
def wp_X5_flag (a1 : Int32) (K : Int32 → Prop) : Prop :=
 ((a1 = 0 → K (0 : Int32)) ∧
 (¬ (a1 = 0) → K (1 : Int32)))
abbrev rm_X5_flag : Room := { frames := 0, cells := 0, slots := 0, locals := 0 }
set_option maxHeartbeats 4000000 in
set_option maxRecDepth 100000 in
theorem c_X5_flag (l : Launch) (G : GG) (sz : Nat) (a1 : Int32) {K : Int32 → Prop} (h : wp_X5_flag a1 K) : CI l yX5_flag wsX5_flag rm_X5_flag G [.int a1] (([] : va_W)) sz (fun u : Unit => ([] : va_W)) (fun r u => K r ) := by
  refine Met.ofW (cc := cX5_flag) (maxL := 1) (ret := (some .int)) (by decide) rfl ?_
  intro p e s m args below meth c s₁ B hml hv
  obtain ⟨rfl, hsz, hP, hK, hD0, hZ⟩ := hv
  have hx := B.exec
  have hb := B.bytes
  have hr := B.returns
  have hts := atoms_spec (ws := wsX5_flag) B.pre
  have hown : s.vm.findClass RX5 = some m.cls := findClass_of_methodNamed B.named
  have hlocks := B.notSynchronized
  subst hsz
  have hD := hD0.self (sz := s.heap.size)
  generalize hAe : va_A (([] : va_W)) s.heap.size = A at hD hZ ⊢
  have hA : ∀ q : Nat, s.heap.size ≤ q → A q := fun q h => by rw [← hAe]; exact Or.inr h
  have hS : va_S A s.heap s.heap [] := va_S.rf
  have hl := lv_entry ([.int a1]) (n := 1) (Nat.le_of_ble_eq_true rfl)
  rw [lg_entry_eq]
  generalize (lg_sl ([.int a1]) ++ List.replicate (1 - (lg_sl ([.int a1])).length) Slot.unset).toArray = ls at hl ⊢
  have hl : lv_has ls 1 [(0, .int a1)] := hl
  unfold wp_X5_flag at h
  refine lv_iload_n hx hb dX5_flag_0 rfl (lv_at hl 0 rfl) ?_
  refine lv_if_eq (tgt := 8) hx hb dX5_flag_1 (by decide) (fun c_1 => ?_) (fun c_1 => ?_)
  · have h := h.1 c_1
    refine lv_iconst (v := (0 : Int32)) hx hb dX5_flag_8 (by decide) ?_
    exact W.iret hx hb hr (fun t ht hW => ⟨⟨_, (), rfl, h, by rw [ht]; exact hP, hD⟩, hS.F ht⟩) hS.2.2 dX5_flag_9
  · have h := h.2 c_1
    refine lv_iconst (v := (1 : Int32)) hx hb dX5_flag_4 (by decide) ?_
    refine lv_goto (tgt := 9) hx hb dX5_flag_5 (by decide) ?_
    exact W.iret hx hb hr (fun t ht hW => ⟨⟨_, (), rfl, h, by rw [ht]; exact hP, hD⟩, hS.F ht⟩) hS.2.2 dX5_flag_9
def wp_X5_mix (a1 : Int64) (a2 : Int64) (K : Int64 → Prop) : Prop :=
 K (((31 : Int64) * a1) + a2)
abbrev rm_X5_mix : Room := { frames := 0, cells := 0, slots := 0, locals := 0 }
set_option maxHeartbeats 4000000 in
set_option maxRecDepth 100000 in
theorem c_X5_mix (l : Launch) (G : GG) (sz : Nat) (a1 : Int64) (a2 : Int64) {K : Int64 → Prop} (h : wp_X5_mix a1 a2 K) : CL l yX5_mix wsX5_mix rm_X5_mix G [.long a1, .long a2] (([] : va_W)) sz (fun u : Unit => ([] : va_W)) (fun r u => K r ) := by
  refine Met.ofW (cc := cX5_mix) (maxL := 4) (ret := (some .long)) (by decide) rfl ?_
  intro p e s m args below meth c s₁ B hml hv
  obtain ⟨rfl, hsz, hP, hK, hD0, hZ⟩ := hv
  have hx := B.exec
  have hb := B.bytes
  have hr := B.returns
  have hts := atoms_spec (ws := wsX5_mix) B.pre
  have hown : s.vm.findClass RX5 = some m.cls := findClass_of_methodNamed B.named
  have hlocks := B.notSynchronized
  subst hsz
  have hD := hD0.self (sz := s.heap.size)
  generalize hAe : va_A (([] : va_W)) s.heap.size = A at hD hZ ⊢
  have hA : ∀ q : Nat, s.heap.size ≤ q → A q := fun q h => by rw [← hAe]; exact Or.inr h
  have hS : va_S A s.heap s.heap [] := va_S.rf
  have hl := lv_entry ([.long a1, .long a2]) (n := 4) (Nat.le_of_ble_eq_true rfl)
  rw [lg_entry_eq]
  generalize (lg_sl ([.long a1, .long a2]) ++ List.replicate (4 - (lg_sl ([.long a1, .long a2])).length) Slot.unset).toArray = ls at hl ⊢
  have hl : lv_has ls 4 [(0, .long a1), (2, .long a2)] := hl
  unfold wp_X5_mix at h
  refine lv_ldc2 (v := (31 : Int64)) hx hb hown (hts (.constantLong RX5 219 (31)) (by decide +kernel)) dX5_mix_0 ?_
  refine lv_lload_n hx hb dX5_mix_3 rfl (lv_at hl 0 rfl) ?_
  refine lv_lmul hx hb dX5_mix_4 ?_
  refine lv_lload_n hx hb dX5_mix_5 rfl (lv_at hl 1 rfl) ?_
  refine lv_ladd hx hb dX5_mix_6 ?_
  exact W.lret hx hb hr (fun t ht hW => ⟨⟨_, (), rfl, h, by rw [ht]; exact hP, hD⟩, hS.F ht⟩) hS.2.2 dX5_mix_7
def wp_J6_bitCount_0f7a4 (a1 : Int32) (K : Int32 → Prop) : Prop :=
 K ((((((((a1 - ((jushr a1 (1 : Int32)) &&& (nI 1431655765))) &&& (nI 858993459)) + ((jushr (a1 - ((jushr a1 (1 : Int32)) &&& (nI 1431655765))) (nI 2)) &&& (nI 858993459))) + (jushr (((a1 - ((jushr a1 (1 : Int32)) &&& (nI 1431655765))) &&& (nI 858993459)) + ((jushr (a1 - ((jushr a1 (1 : Int32)) &&& (nI 1431655765))) (nI 2)) &&& (nI 858993459))) (nI 4))) &&& (nI 252645135)) + (jushr (((((a1 - ((jushr a1 (1 : Int32)) &&& (nI 1431655765))) &&& (nI 858993459)) + ((jushr (a1 - ((jushr a1 (1 : Int32)) &&& (nI 1431655765))) (nI 2)) &&& (nI 858993459))) + (jushr (((a1 - ((jushr a1 (1 : Int32)) &&& (nI 1431655765))) &&& (nI 858993459)) + ((jushr (a1 - ((jushr a1 (1 : Int32)) &&& (nI 1431655765))) (nI 2)) &&& (nI 858993459))) (nI 4))) &&& (nI 252645135)) (nI 8))) + (jushr ((((((a1 - ((jushr a1 (1 : Int32)) &&& (nI 1431655765))) &&& (nI 858993459)) + ((jushr (a1 - ((jushr a1 (1 : Int32)) &&& (nI 1431655765))) (nI 2)) &&& (nI 858993459))) + (jushr (((a1 - ((jushr a1 (1 : Int32)) &&& (nI 1431655765))) &&& (nI 858993459)) + ((jushr (a1 - ((jushr a1 (1 : Int32)) &&& (nI 1431655765))) (nI 2)) &&& (nI 858993459))) (nI 4))) &&& (nI 252645135)) + (jushr (((((a1 - ((jushr a1 (1 : Int32)) &&& (nI 1431655765))) &&& (nI 858993459)) + ((jushr (a1 - ((jushr a1 (1 : Int32)) &&& (nI 1431655765))) (nI 2)) &&& (nI 858993459))) + (jushr (((a1 - ((jushr a1 (1 : Int32)) &&& (nI 1431655765))) &&& (nI 858993459)) + ((jushr (a1 - ((jushr a1 (1 : Int32)) &&& (nI 1431655765))) (nI 2)) &&& (nI 858993459))) (nI 4))) &&& (nI 252645135)) (nI 8))) (nI 16))) &&& (nI 63))
abbrev rm_J6_bitCount_0f7a4 : Room := { frames := 0, cells := 0, slots := 0, locals := 0 }
set_option maxHeartbeats 4000000 in
set_option maxRecDepth 100000 in
theorem c_J6_bitCount_0f7a4 (l : Launch) (G : GG) (sz : Nat) (a1 : Int32) {K : Int32 → Prop} (h : wp_J6_bitCount_0f7a4 a1 K) : CI l yJ6_bitCount_0f7a4 wsJ6_bitCount_0f7a4 rm_J6_bitCount_0f7a4 G [.int a1] (([] : va_W)) sz (fun u : Unit => ([] : va_W)) (fun r u => K r ) := by
  refine Met.ofW (cc := cJ6_bitCount_0f7a4) (maxL := 1) (ret := (some .int)) (by decide) rfl ?_
  intro p e s m args below meth c s₁ B hml hv
  obtain ⟨rfl, hsz, hP, hK, hD0, hZ⟩ := hv
  have hx := B.exec
  have hb := B.bytes
  have hr := B.returns
  have hts := atoms_spec (ws := wsJ6_bitCount_0f7a4) B.pre
  have hown : s.vm.findClass RJ6 = some m.cls := findClass_of_methodNamed B.named
  have hlocks := B.notSynchronized
  subst hsz
  have hD := hD0.self (sz := s.heap.size)
  generalize hAe : va_A (([] : va_W)) s.heap.size = A at hD hZ ⊢
  have hA : ∀ q : Nat, s.heap.size ≤ q → A q := fun q h => by rw [← hAe]; exact Or.inr h
  have hS : va_S A s.heap s.heap [] := va_S.rf
  have hl := lv_entry ([.int a1]) (n := 1) (Nat.le_of_ble_eq_true rfl)
  rw [lg_entry_eq]
  generalize (lg_sl ([.int a1]) ++ List.replicate (1 - (lg_sl ([.int a1])).length) Slot.unset).toArray = ls at hl ⊢
  have hl : lv_has ls 1 [(0, .int a1)] := hl
  unfold wp_J6_bitCount_0f7a4 at h
  refine lv_iload_n hx hb dJ6_bitCount_0f7a4_0 rfl (lv_at hl 0 rfl) ?_
  refine lv_iload_n hx hb dJ6_bitCount_0f7a4_1 rfl (lv_at hl 0 rfl) ?_
  refine lv_iconst (v := (1 : Int32)) hx hb dJ6_bitCount_0f7a4_2 (by decide) ?_
  refine lv_iushr hx hb dJ6_bitCount_0f7a4_3 (v := (jushr a1 (1 : Int32))) rfl ?_
  refine lv_ldcw (v := (nI 1431655765)) hx hb hown (hts (.constant RJ6 265 (1431655765)) (by decide +kernel)) dJ6_bitCount_0f7a4_4 ?_
  refine lv_iand hx hb dJ6_bitCount_0f7a4_7 ?_
  refine lv_isub hx hb dJ6_bitCount_0f7a4_8 ?_
  refine lv_istore_n (lv' := [(0, .int (a1 - ((jushr a1 (1 : Int32)) &&& (nI 1431655765))))]) hx hb dJ6_bitCount_0f7a4_9 rfl hl (by decide) rfl (fun ls hl => ?_)
  refine lv_iload_n hx hb dJ6_bitCount_0f7a4_10 rfl (lv_at hl 0 rfl) ?_
  refine lv_ldcw (v := (nI 858993459)) hx hb hown (hts (.constant RJ6 266 (858993459)) (by decide +kernel)) dJ6_bitCount_0f7a4_11 ?_
  refine lv_iand hx hb dJ6_bitCount_0f7a4_14 ?_
  refine lv_iload_n hx hb dJ6_bitCount_0f7a4_15 rfl (lv_at hl 0 rfl) ?_
  refine lv_iconst (v := (nI 2)) hx hb dJ6_bitCount_0f7a4_16 (by decide) ?_
  refine lv_iushr hx hb dJ6_bitCount_0f7a4_17 (v := (jushr (a1 - ((jushr a1 (1 : Int32)) &&& (nI 1431655765))) (nI 2))) rfl ?_
  refine lv_ldcw (v := (nI 858993459)) hx hb hown (hts (.constant RJ6 266 (858993459)) (by decide +kernel)) dJ6_bitCount_0f7a4_18 ?_
  refine lv_iand hx hb dJ6_bitCount_0f7a4_21 ?_
  refine lv_iadd hx hb dJ6_bitCount_0f7a4_22 ?_
  refine lv_istore_n (lv' := [(0, .int (((a1 - ((jushr a1 (1 : Int32)) &&& (nI 1431655765))) &&& (nI 858993459)) + ((jushr (a1 - ((jushr a1 (1 : Int32)) &&& (nI 1431655765))) (nI 2)) &&& (nI 858993459))))]) hx hb dJ6_bitCount_0f7a4_23 rfl hl (by decide) rfl (fun ls hl => ?_)
  refine lv_iload_n hx hb dJ6_bitCount_0f7a4_24 rfl (lv_at hl 0 rfl) ?_
  refine lv_iload_n hx hb dJ6_bitCount_0f7a4_25 rfl (lv_at hl 0 rfl) ?_
  refine lv_iconst (v := (nI 4)) hx hb dJ6_bitCount_0f7a4_26 (by decide) ?_
  refine lv_iushr hx hb dJ6_bitCount_0f7a4_27 (v := (jushr (((a1 - ((jushr a1 (1 : Int32)) &&& (nI 1431655765))) &&& (nI 858993459)) + ((jushr (a1 - ((jushr a1 (1 : Int32)) &&& (nI 1431655765))) (nI 2)) &&& (nI 858993459))) (nI 4))) rfl ?_
  refine lv_iadd hx hb dJ6_bitCount_0f7a4_28 ?_
  refine lv_ldcw (v := (nI 252645135)) hx hb hown (hts (.constant RJ6 267 (252645135)) (by decide +kernel)) dJ6_bitCount_0f7a4_29 ?_
  refine lv_iand hx hb dJ6_bitCount_0f7a4_32 ?_
  refine lv_istore_n (lv' := [(0, .int (((((a1 - ((jushr a1 (1 : Int32)) &&& (nI 1431655765))) &&& (nI 858993459)) + ((jushr (a1 - ((jushr a1 (1 : Int32)) &&& (nI 1431655765))) (nI 2)) &&& (nI 858993459))) + (jushr (((a1 - ((jushr a1 (1 : Int32)) &&& (nI 1431655765))) &&& (nI 858993459)) + ((jushr (a1 - ((jushr a1 (1 : Int32)) &&& (nI 1431655765))) (nI 2)) &&& (nI 858993459))) (nI 4))) &&& (nI 252645135)))]) hx hb dJ6_bitCount_0f7a4_33 rfl hl (by decide) rfl (fun ls hl => ?_)
  refine lv_iload_n hx hb dJ6_bitCount_0f7a4_34 rfl (lv_at hl 0 rfl) ?_
  refine lv_iload_n hx hb dJ6_bitCount_0f7a4_35 rfl (lv_at hl 0 rfl) ?_
  refine lv_bipush (v := (nI 8)) hx hb dJ6_bitCount_0f7a4_36 (by decide) ?_
  refine lv_iushr hx hb dJ6_bitCount_0f7a4_38 (v := (jushr (((((a1 - ((jushr a1 (1 : Int32)) &&& (nI 1431655765))) &&& (nI 858993459)) + ((jushr (a1 - ((jushr a1 (1 : Int32)) &&& (nI 1431655765))) (nI 2)) &&& (nI 858993459))) + (jushr (((a1 - ((jushr a1 (1 : Int32)) &&& (nI 1431655765))) &&& (nI 858993459)) + ((jushr (a1 - ((jushr a1 (1 : Int32)) &&& (nI 1431655765))) (nI 2)) &&& (nI 858993459))) (nI 4))) &&& (nI 252645135)) (nI 8))) rfl ?_
  refine lv_iadd hx hb dJ6_bitCount_0f7a4_39 ?_
  refine lv_istore_n (lv' := [(0, .int ((((((a1 - ((jushr a1 (1 : Int32)) &&& (nI 1431655765))) &&& (nI 858993459)) + ((jushr (a1 - ((jushr a1 (1 : Int32)) &&& (nI 1431655765))) (nI 2)) &&& (nI 858993459))) + (jushr (((a1 - ((jushr a1 (1 : Int32)) &&& (nI 1431655765))) &&& (nI 858993459)) + ((jushr (a1 - ((jushr a1 (1 : Int32)) &&& (nI 1431655765))) (nI 2)) &&& (nI 858993459))) (nI 4))) &&& (nI 252645135)) + (jushr (((((a1 - ((jushr a1 (1 : Int32)) &&& (nI 1431655765))) &&& (nI 858993459)) + ((jushr (a1 - ((jushr a1 (1 : Int32)) &&& (nI 1431655765))) (nI 2)) &&& (nI 858993459))) + (jushr (((a1 - ((jushr a1 (1 : Int32)) &&& (nI 1431655765))) &&& (nI 858993459)) + ((jushr (a1 - ((jushr a1 (1 : Int32)) &&& (nI 1431655765))) (nI 2)) &&& (nI 858993459))) (nI 4))) &&& (nI 252645135)) (nI 8))))]) hx hb dJ6_bitCount_0f7a4_40 rfl hl (by decide) rfl (fun ls hl => ?_)
  refine lv_iload_n hx hb dJ6_bitCount_0f7a4_41 rfl (lv_at hl 0 rfl) ?_
  refine lv_iload_n hx hb dJ6_bitCount_0f7a4_42 rfl (lv_at hl 0 rfl) ?_
  refine lv_bipush (v := (nI 16)) hx hb dJ6_bitCount_0f7a4_43 (by decide) ?_
  refine lv_iushr hx hb dJ6_bitCount_0f7a4_45 (v := (jushr ((((((a1 - ((jushr a1 (1 : Int32)) &&& (nI 1431655765))) &&& (nI 858993459)) + ((jushr (a1 - ((jushr a1 (1 : Int32)) &&& (nI 1431655765))) (nI 2)) &&& (nI 858993459))) + (jushr (((a1 - ((jushr a1 (1 : Int32)) &&& (nI 1431655765))) &&& (nI 858993459)) + ((jushr (a1 - ((jushr a1 (1 : Int32)) &&& (nI 1431655765))) (nI 2)) &&& (nI 858993459))) (nI 4))) &&& (nI 252645135)) + (jushr (((((a1 - ((jushr a1 (1 : Int32)) &&& (nI 1431655765))) &&& (nI 858993459)) + ((jushr (a1 - ((jushr a1 (1 : Int32)) &&& (nI 1431655765))) (nI 2)) &&& (nI 858993459))) + (jushr (((a1 - ((jushr a1 (1 : Int32)) &&& (nI 1431655765))) &&& (nI 858993459)) + ((jushr (a1 - ((jushr a1 (1 : Int32)) &&& (nI 1431655765))) (nI 2)) &&& (nI 858993459))) (nI 4))) &&& (nI 252645135)) (nI 8))) (nI 16))) rfl ?_
  refine lv_iadd hx hb dJ6_bitCount_0f7a4_46 ?_
  refine lv_istore_n (lv' := [(0, .int (((((((a1 - ((jushr a1 (1 : Int32)) &&& (nI 1431655765))) &&& (nI 858993459)) + ((jushr (a1 - ((jushr a1 (1 : Int32)) &&& (nI 1431655765))) (nI 2)) &&& (nI 858993459))) + (jushr (((a1 - ((jushr a1 (1 : Int32)) &&& (nI 1431655765))) &&& (nI 858993459)) + ((jushr (a1 - ((jushr a1 (1 : Int32)) &&& (nI 1431655765))) (nI 2)) &&& (nI 858993459))) (nI 4))) &&& (nI 252645135)) + (jushr (((((a1 - ((jushr a1 (1 : Int32)) &&& (nI 1431655765))) &&& (nI 858993459)) + ((jushr (a1 - ((jushr a1 (1 : Int32)) &&& (nI 1431655765))) (nI 2)) &&& (nI 858993459))) + (jushr (((a1 - ((jushr a1 (1 : Int32)) &&& (nI 1431655765))) &&& (nI 858993459)) + ((jushr (a1 - ((jushr a1 (1 : Int32)) &&& (nI 1431655765))) (nI 2)) &&& (nI 858993459))) (nI 4))) &&& (nI 252645135)) (nI 8))) + (jushr ((((((a1 - ((jushr a1 (1 : Int32)) &&& (nI 1431655765))) &&& (nI 858993459)) + ((jushr (a1 - ((jushr a1 (1 : Int32)) &&& (nI 1431655765))) (nI 2)) &&& (nI 858993459))) + (jushr (((a1 - ((jushr a1 (1 : Int32)) &&& (nI 1431655765))) &&& (nI 858993459)) + ((jushr (a1 - ((jushr a1 (1 : Int32)) &&& (nI 1431655765))) (nI 2)) &&& (nI 858993459))) (nI 4))) &&& (nI 252645135)) + (jushr (((((a1 - ((jushr a1 (1 : Int32)) &&& (nI 1431655765))) &&& (nI 858993459)) + ((jushr (a1 - ((jushr a1 (1 : Int32)) &&& (nI 1431655765))) (nI 2)) &&& (nI 858993459))) + (jushr (((a1 - ((jushr a1 (1 : Int32)) &&& (nI 1431655765))) &&& (nI 858993459)) + ((jushr (a1 - ((jushr a1 (1 : Int32)) &&& (nI 1431655765))) (nI 2)) &&& (nI 858993459))) (nI 4))) &&& (nI 252645135)) (nI 8))) (nI 16))))]) hx hb dJ6_bitCount_0f7a4_47 rfl hl (by decide) rfl (fun ls hl => ?_)
  refine lv_iload_n hx hb dJ6_bitCount_0f7a4_48 rfl (lv_at hl 0 rfl) ?_
  refine lv_bipush (v := (nI 63)) hx hb dJ6_bitCount_0f7a4_49 (by decide) ?_
  refine lv_iand hx hb dJ6_bitCount_0f7a4_51 ?_
  exact W.iret hx hb hr (fun t ht hW => ⟨⟨_, (), rfl, h, by rw [ht]; exact hP, hD⟩, hS.F ht⟩) hS.2.2 dJ6_bitCount_0f7a4_52
def wp_J13_bitCount_95d88 (a1 : Int64) (K : Int32 → Prop) : Prop :=
 K (((((((((a1 - ((jlushr a1 (1 : Int32)) &&& (6148914691236517205 : Int64))) &&& (3689348814741910323 : Int64)) + ((jlushr (a1 - ((jlushr a1 (1 : Int32)) &&& (6148914691236517205 : Int64))) (nI 2)) &&& (3689348814741910323 : Int64))) + (jlushr (((a1 - ((jlushr a1 (1 : Int32)) &&& (6148914691236517205 : Int64))) &&& (3689348814741910323 : Int64)) + ((jlushr (a1 - ((jlushr a1 (1 : Int32)) &&& (6148914691236517205 : Int64))) (nI 2)) &&& (3689348814741910323 : Int64))) (nI 4))) &&& (1085102592571150095 : Int64)) + (jlushr (((((a1 - ((jlushr a1 (1 : Int32)) &&& (6148914691236517205 : Int64))) &&& (3689348814741910323 : Int64)) + ((jlushr (a1 - ((jlushr a1 (1 : Int32)) &&& (6148914691236517205 : Int64))) (nI 2)) &&& (3689348814741910323 : Int64))) + (jlushr (((a1 - ((jlushr a1 (1 : Int32)) &&& (6148914691236517205 : Int64))) &&& (3689348814741910323 : Int64)) + ((jlushr (a1 - ((jlushr a1 (1 : Int32)) &&& (6148914691236517205 : Int64))) (nI 2)) &&& (3689348814741910323 : Int64))) (nI 4))) &&& (1085102592571150095 : Int64)) (nI 8))) + (jlushr ((((((a1 - ((jlushr a1 (1 : Int32)) &&& (6148914691236517205 : Int64))) &&& (3689348814741910323 : Int64)) + ((jlushr (a1 - ((jlushr a1 (1 : Int32)) &&& (6148914691236517205 : Int64))) (nI 2)) &&& (3689348814741910323 : Int64))) + (jlushr (((a1 - ((jlushr a1 (1 : Int32)) &&& (6148914691236517205 : Int64))) &&& (3689348814741910323 : Int64)) + ((jlushr (a1 - ((jlushr a1 (1 : Int32)) &&& (6148914691236517205 : Int64))) (nI 2)) &&& (3689348814741910323 : Int64))) (nI 4))) &&& (1085102592571150095 : Int64)) + (jlushr (((((a1 - ((jlushr a1 (1 : Int32)) &&& (6148914691236517205 : Int64))) &&& (3689348814741910323 : Int64)) + ((jlushr (a1 - ((jlushr a1 (1 : Int32)) &&& (6148914691236517205 : Int64))) (nI 2)) &&& (3689348814741910323 : Int64))) + (jlushr (((a1 - ((jlushr a1 (1 : Int32)) &&& (6148914691236517205 : Int64))) &&& (3689348814741910323 : Int64)) + ((jlushr (a1 - ((jlushr a1 (1 : Int32)) &&& (6148914691236517205 : Int64))) (nI 2)) &&& (3689348814741910323 : Int64))) (nI 4))) &&& (1085102592571150095 : Int64)) (nI 8))) (nI 16))) + (jlushr (((((((a1 - ((jlushr a1 (1 : Int32)) &&& (6148914691236517205 : Int64))) &&& (3689348814741910323 : Int64)) + ((jlushr (a1 - ((jlushr a1 (1 : Int32)) &&& (6148914691236517205 : Int64))) (nI 2)) &&& (3689348814741910323 : Int64))) + (jlushr (((a1 - ((jlushr a1 (1 : Int32)) &&& (6148914691236517205 : Int64))) &&& (3689348814741910323 : Int64)) + ((jlushr (a1 - ((jlushr a1 (1 : Int32)) &&& (6148914691236517205 : Int64))) (nI 2)) &&& (3689348814741910323 : Int64))) (nI 4))) &&& (1085102592571150095 : Int64)) + (jlushr (((((a1 - ((jlushr a1 (1 : Int32)) &&& (6148914691236517205 : Int64))) &&& (3689348814741910323 : Int64)) + ((jlushr (a1 - ((jlushr a1 (1 : Int32)) &&& (6148914691236517205 : Int64))) (nI 2)) &&& (3689348814741910323 : Int64))) + (jlushr (((a1 - ((jlushr a1 (1 : Int32)) &&& (6148914691236517205 : Int64))) &&& (3689348814741910323 : Int64)) + ((jlushr (a1 - ((jlushr a1 (1 : Int32)) &&& (6148914691236517205 : Int64))) (nI 2)) &&& (3689348814741910323 : Int64))) (nI 4))) &&& (1085102592571150095 : Int64)) (nI 8))) + (jlushr ((((((a1 - ((jlushr a1 (1 : Int32)) &&& (6148914691236517205 : Int64))) &&& (3689348814741910323 : Int64)) + ((jlushr (a1 - ((jlushr a1 (1 : Int32)) &&& (6148914691236517205 : Int64))) (nI 2)) &&& (3689348814741910323 : Int64))) + (jlushr (((a1 - ((jlushr a1 (1 : Int32)) &&& (6148914691236517205 : Int64))) &&& (3689348814741910323 : Int64)) + ((jlushr (a1 - ((jlushr a1 (1 : Int32)) &&& (6148914691236517205 : Int64))) (nI 2)) &&& (3689348814741910323 : Int64))) (nI 4))) &&& (1085102592571150095 : Int64)) + (jlushr (((((a1 - ((jlushr a1 (1 : Int32)) &&& (6148914691236517205 : Int64))) &&& (3689348814741910323 : Int64)) + ((jlushr (a1 - ((jlushr a1 (1 : Int32)) &&& (6148914691236517205 : Int64))) (nI 2)) &&& (3689348814741910323 : Int64))) + (jlushr (((a1 - ((jlushr a1 (1 : Int32)) &&& (6148914691236517205 : Int64))) &&& (3689348814741910323 : Int64)) + ((jlushr (a1 - ((jlushr a1 (1 : Int32)) &&& (6148914691236517205 : Int64))) (nI 2)) &&& (3689348814741910323 : Int64))) (nI 4))) &&& (1085102592571150095 : Int64)) (nI 8))) (nI 16))) (nI 32))).toInt32 &&& (nI 127))
abbrev rm_J13_bitCount_95d88 : Room := { frames := 0, cells := 0, slots := 0, locals := 0 }
set_option maxHeartbeats 4000000 in
set_option maxRecDepth 100000 in
theorem c_J13_bitCount_95d88 (l : Launch) (G : GG) (sz : Nat) (a1 : Int64) {K : Int32 → Prop} (h : wp_J13_bitCount_95d88 a1 K) : CI l yJ13_bitCount_95d88 wsJ13_bitCount_95d88 rm_J13_bitCount_95d88 G [.long a1] (([] : va_W)) sz (fun u : Unit => ([] : va_W)) (fun r u => K r ) := by
  refine Met.ofW (cc := cJ13_bitCount_95d88) (maxL := 2) (ret := (some .int)) (by decide) rfl ?_
  intro p e s m args below meth c s₁ B hml hv
  obtain ⟨rfl, hsz, hP, hK, hD0, hZ⟩ := hv
  have hx := B.exec
  have hb := B.bytes
  have hr := B.returns
  have hts := atoms_spec (ws := wsJ13_bitCount_95d88) B.pre
  have hown : s.vm.findClass RJ13 = some m.cls := findClass_of_methodNamed B.named
  have hlocks := B.notSynchronized
  subst hsz
  have hD := hD0.self (sz := s.heap.size)
  generalize hAe : va_A (([] : va_W)) s.heap.size = A at hD hZ ⊢
  have hA : ∀ q : Nat, s.heap.size ≤ q → A q := fun q h => by rw [← hAe]; exact Or.inr h
  have hS : va_S A s.heap s.heap [] := va_S.rf
  have hl := lv_entry ([.long a1]) (n := 2) (Nat.le_of_ble_eq_true rfl)
  rw [lg_entry_eq]
  generalize (lg_sl ([.long a1]) ++ List.replicate (2 - (lg_sl ([.long a1])).length) Slot.unset).toArray = ls at hl ⊢
  have hl : lv_has ls 2 [(0, .long a1)] := hl
  unfold wp_J13_bitCount_95d88 at h
  refine lv_lload_n hx hb dJ13_bitCount_95d88_0 rfl (lv_at hl 0 rfl) ?_
  refine lv_lload_n hx hb dJ13_bitCount_95d88_1 rfl (lv_at hl 0 rfl) ?_
  refine lv_iconst (v := (1 : Int32)) hx hb dJ13_bitCount_95d88_2 (by decide) ?_
  refine lv_lushr (v := (jlushr a1 (1 : Int32))) hx hb dJ13_bitCount_95d88_3 rfl ?_
  refine lv_ldc2 (v := (6148914691236517205 : Int64)) hx hb hown (hts (.constantLong RJ13 314 (6148914691236517205)) (by decide +kernel)) dJ13_bitCount_95d88_4 ?_
  refine lv_land hx hb dJ13_bitCount_95d88_7 ?_
  refine lv_lsub hx hb dJ13_bitCount_95d88_8 ?_
  refine lv_lstore_n (lv' := [(0, .long (a1 - ((jlushr a1 (1 : Int32)) &&& (6148914691236517205 : Int64))))]) hx hb dJ13_bitCount_95d88_9 rfl hl (by decide) rfl (fun ls hl => ?_)
  refine lv_lload_n hx hb dJ13_bitCount_95d88_10 rfl (lv_at hl 0 rfl) ?_
  refine lv_ldc2 (v := (3689348814741910323 : Int64)) hx hb hown (hts (.constantLong RJ13 316 (3689348814741910323)) (by decide +kernel)) dJ13_bitCount_95d88_11 ?_
  refine lv_land hx hb dJ13_bitCount_95d88_14 ?_
  refine lv_lload_n hx hb dJ13_bitCount_95d88_15 rfl (lv_at hl 0 rfl) ?_
  refine lv_iconst (v := (nI 2)) hx hb dJ13_bitCount_95d88_16 (by decide) ?_
  refine lv_lushr (v := (jlushr (a1 - ((jlushr a1 (1 : Int32)) &&& (6148914691236517205 : Int64))) (nI 2))) hx hb dJ13_bitCount_95d88_17 rfl ?_
  refine lv_ldc2 (v := (3689348814741910323 : Int64)) hx hb hown (hts (.constantLong RJ13 316 (3689348814741910323)) (by decide +kernel)) dJ13_bitCount_95d88_18 ?_
  refine lv_land hx hb dJ13_bitCount_95d88_21 ?_
  refine lv_ladd hx hb dJ13_bitCount_95d88_22 ?_
  refine lv_lstore_n (lv' := [(0, .long (((a1 - ((jlushr a1 (1 : Int32)) &&& (6148914691236517205 : Int64))) &&& (3689348814741910323 : Int64)) + ((jlushr (a1 - ((jlushr a1 (1 : Int32)) &&& (6148914691236517205 : Int64))) (nI 2)) &&& (3689348814741910323 : Int64))))]) hx hb dJ13_bitCount_95d88_23 rfl hl (by decide) rfl (fun ls hl => ?_)
  refine lv_lload_n hx hb dJ13_bitCount_95d88_24 rfl (lv_at hl 0 rfl) ?_
  refine lv_lload_n hx hb dJ13_bitCount_95d88_25 rfl (lv_at hl 0 rfl) ?_
  refine lv_iconst (v := (nI 4)) hx hb dJ13_bitCount_95d88_26 (by decide) ?_
  refine lv_lushr (v := (jlushr (((a1 - ((jlushr a1 (1 : Int32)) &&& (6148914691236517205 : Int64))) &&& (3689348814741910323 : Int64)) + ((jlushr (a1 - ((jlushr a1 (1 : Int32)) &&& (6148914691236517205 : Int64))) (nI 2)) &&& (3689348814741910323 : Int64))) (nI 4))) hx hb dJ13_bitCount_95d88_27 rfl ?_
  refine lv_ladd hx hb dJ13_bitCount_95d88_28 ?_
  refine lv_ldc2 (v := (1085102592571150095 : Int64)) hx hb hown (hts (.constantLong RJ13 318 (1085102592571150095)) (by decide +kernel)) dJ13_bitCount_95d88_29 ?_
  refine lv_land hx hb dJ13_bitCount_95d88_32 ?_
  refine lv_lstore_n (lv' := [(0, .long (((((a1 - ((jlushr a1 (1 : Int32)) &&& (6148914691236517205 : Int64))) &&& (3689348814741910323 : Int64)) + ((jlushr (a1 - ((jlushr a1 (1 : Int32)) &&& (6148914691236517205 : Int64))) (nI 2)) &&& (3689348814741910323 : Int64))) + (jlushr (((a1 - ((jlushr a1 (1 : Int32)) &&& (6148914691236517205 : Int64))) &&& (3689348814741910323 : Int64)) + ((jlushr (a1 - ((jlushr a1 (1 : Int32)) &&& (6148914691236517205 : Int64))) (nI 2)) &&& (3689348814741910323 : Int64))) (nI 4))) &&& (1085102592571150095 : Int64)))]) hx hb dJ13_bitCount_95d88_33 rfl hl (by decide) rfl (fun ls hl => ?_)
  refine lv_lload_n hx hb dJ13_bitCount_95d88_34 rfl (lv_at hl 0 rfl) ?_
  refine lv_lload_n hx hb dJ13_bitCount_95d88_35 rfl (lv_at hl 0 rfl) ?_
  refine lv_bipush (v := (nI 8)) hx hb dJ13_bitCount_95d88_36 (by decide) ?_
  refine lv_lushr (v := (jlushr (((((a1 - ((jlushr a1 (1 : Int32)) &&& (6148914691236517205 : Int64))) &&& (3689348814741910323 : Int64)) + ((jlushr (a1 - ((jlushr a1 (1 : Int32)) &&& (6148914691236517205 : Int64))) (nI 2)) &&& (3689348814741910323 : Int64))) + (jlushr (((a1 - ((jlushr a1 (1 : Int32)) &&& (6148914691236517205 : Int64))) &&& (3689348814741910323 : Int64)) + ((jlushr (a1 - ((jlushr a1 (1 : Int32)) &&& (6148914691236517205 : Int64))) (nI 2)) &&& (3689348814741910323 : Int64))) (nI 4))) &&& (1085102592571150095 : Int64)) (nI 8))) hx hb dJ13_bitCount_95d88_38 rfl ?_
  refine lv_ladd hx hb dJ13_bitCount_95d88_39 ?_
  refine lv_lstore_n (lv' := [(0, .long ((((((a1 - ((jlushr a1 (1 : Int32)) &&& (6148914691236517205 : Int64))) &&& (3689348814741910323 : Int64)) + ((jlushr (a1 - ((jlushr a1 (1 : Int32)) &&& (6148914691236517205 : Int64))) (nI 2)) &&& (3689348814741910323 : Int64))) + (jlushr (((a1 - ((jlushr a1 (1 : Int32)) &&& (6148914691236517205 : Int64))) &&& (3689348814741910323 : Int64)) + ((jlushr (a1 - ((jlushr a1 (1 : Int32)) &&& (6148914691236517205 : Int64))) (nI 2)) &&& (3689348814741910323 : Int64))) (nI 4))) &&& (1085102592571150095 : Int64)) + (jlushr (((((a1 - ((jlushr a1 (1 : Int32)) &&& (6148914691236517205 : Int64))) &&& (3689348814741910323 : Int64)) + ((jlushr (a1 - ((jlushr a1 (1 : Int32)) &&& (6148914691236517205 : Int64))) (nI 2)) &&& (3689348814741910323 : Int64))) + (jlushr (((a1 - ((jlushr a1 (1 : Int32)) &&& (6148914691236517205 : Int64))) &&& (3689348814741910323 : Int64)) + ((jlushr (a1 - ((jlushr a1 (1 : Int32)) &&& (6148914691236517205 : Int64))) (nI 2)) &&& (3689348814741910323 : Int64))) (nI 4))) &&& (1085102592571150095 : Int64)) (nI 8))))]) hx hb dJ13_bitCount_95d88_40 rfl hl (by decide) rfl (fun ls hl => ?_)
  refine lv_lload_n hx hb dJ13_bitCount_95d88_41 rfl (lv_at hl 0 rfl) ?_
  refine lv_lload_n hx hb dJ13_bitCount_95d88_42 rfl (lv_at hl 0 rfl) ?_
  refine lv_bipush (v := (nI 16)) hx hb dJ13_bitCount_95d88_43 (by decide) ?_
  refine lv_lushr (v := (jlushr ((((((a1 - ((jlushr a1 (1 : Int32)) &&& (6148914691236517205 : Int64))) &&& (3689348814741910323 : Int64)) + ((jlushr (a1 - ((jlushr a1 (1 : Int32)) &&& (6148914691236517205 : Int64))) (nI 2)) &&& (3689348814741910323 : Int64))) + (jlushr (((a1 - ((jlushr a1 (1 : Int32)) &&& (6148914691236517205 : Int64))) &&& (3689348814741910323 : Int64)) + ((jlushr (a1 - ((jlushr a1 (1 : Int32)) &&& (6148914691236517205 : Int64))) (nI 2)) &&& (3689348814741910323 : Int64))) (nI 4))) &&& (1085102592571150095 : Int64)) + (jlushr (((((a1 - ((jlushr a1 (1 : Int32)) &&& (6148914691236517205 : Int64))) &&& (3689348814741910323 : Int64)) + ((jlushr (a1 - ((jlushr a1 (1 : Int32)) &&& (6148914691236517205 : Int64))) (nI 2)) &&& (3689348814741910323 : Int64))) + (jlushr (((a1 - ((jlushr a1 (1 : Int32)) &&& (6148914691236517205 : Int64))) &&& (3689348814741910323 : Int64)) + ((jlushr (a1 - ((jlushr a1 (1 : Int32)) &&& (6148914691236517205 : Int64))) (nI 2)) &&& (3689348814741910323 : Int64))) (nI 4))) &&& (1085102592571150095 : Int64)) (nI 8))) (nI 16))) hx hb dJ13_bitCount_95d88_45 rfl ?_
  refine lv_ladd hx hb dJ13_bitCount_95d88_46 ?_
  refine lv_lstore_n (lv' := [(0, .long (((((((a1 - ((jlushr a1 (1 : Int32)) &&& (6148914691236517205 : Int64))) &&& (3689348814741910323 : Int64)) + ((jlushr (a1 - ((jlushr a1 (1 : Int32)) &&& (6148914691236517205 : Int64))) (nI 2)) &&& (3689348814741910323 : Int64))) + (jlushr (((a1 - ((jlushr a1 (1 : Int32)) &&& (6148914691236517205 : Int64))) &&& (3689348814741910323 : Int64)) + ((jlushr (a1 - ((jlushr a1 (1 : Int32)) &&& (6148914691236517205 : Int64))) (nI 2)) &&& (3689348814741910323 : Int64))) (nI 4))) &&& (1085102592571150095 : Int64)) + (jlushr (((((a1 - ((jlushr a1 (1 : Int32)) &&& (6148914691236517205 : Int64))) &&& (3689348814741910323 : Int64)) + ((jlushr (a1 - ((jlushr a1 (1 : Int32)) &&& (6148914691236517205 : Int64))) (nI 2)) &&& (3689348814741910323 : Int64))) + (jlushr (((a1 - ((jlushr a1 (1 : Int32)) &&& (6148914691236517205 : Int64))) &&& (3689348814741910323 : Int64)) + ((jlushr (a1 - ((jlushr a1 (1 : Int32)) &&& (6148914691236517205 : Int64))) (nI 2)) &&& (3689348814741910323 : Int64))) (nI 4))) &&& (1085102592571150095 : Int64)) (nI 8))) + (jlushr ((((((a1 - ((jlushr a1 (1 : Int32)) &&& (6148914691236517205 : Int64))) &&& (3689348814741910323 : Int64)) + ((jlushr (a1 - ((jlushr a1 (1 : Int32)) &&& (6148914691236517205 : Int64))) (nI 2)) &&& (3689348814741910323 : Int64))) + (jlushr (((a1 - ((jlushr a1 (1 : Int32)) &&& (6148914691236517205 : Int64))) &&& (3689348814741910323 : Int64)) + ((jlushr (a1 - ((jlushr a1 (1 : Int32)) &&& (6148914691236517205 : Int64))) (nI 2)) &&& (3689348814741910323 : Int64))) (nI 4))) &&& (1085102592571150095 : Int64)) + (jlushr (((((a1 - ((jlushr a1 (1 : Int32)) &&& (6148914691236517205 : Int64))) &&& (3689348814741910323 : Int64)) + ((jlushr (a1 - ((jlushr a1 (1 : Int32)) &&& (6148914691236517205 : Int64))) (nI 2)) &&& (3689348814741910323 : Int64))) + (jlushr (((a1 - ((jlushr a1 (1 : Int32)) &&& (6148914691236517205 : Int64))) &&& (3689348814741910323 : Int64)) + ((jlushr (a1 - ((jlushr a1 (1 : Int32)) &&& (6148914691236517205 : Int64))) (nI 2)) &&& (3689348814741910323 : Int64))) (nI 4))) &&& (1085102592571150095 : Int64)) (nI 8))) (nI 16))))]) hx hb dJ13_bitCount_95d88_47 rfl hl (by decide) rfl (fun ls hl => ?_)
  refine lv_lload_n hx hb dJ13_bitCount_95d88_48 rfl (lv_at hl 0 rfl) ?_
  refine lv_lload_n hx hb dJ13_bitCount_95d88_49 rfl (lv_at hl 0 rfl) ?_
  refine lv_bipush (v := (nI 32)) hx hb dJ13_bitCount_95d88_50 (by decide) ?_
  refine lv_lushr (v := (jlushr (((((((a1 - ((jlushr a1 (1 : Int32)) &&& (6148914691236517205 : Int64))) &&& (3689348814741910323 : Int64)) + ((jlushr (a1 - ((jlushr a1 (1 : Int32)) &&& (6148914691236517205 : Int64))) (nI 2)) &&& (3689348814741910323 : Int64))) + (jlushr (((a1 - ((jlushr a1 (1 : Int32)) &&& (6148914691236517205 : Int64))) &&& (3689348814741910323 : Int64)) + ((jlushr (a1 - ((jlushr a1 (1 : Int32)) &&& (6148914691236517205 : Int64))) (nI 2)) &&& (3689348814741910323 : Int64))) (nI 4))) &&& (1085102592571150095 : Int64)) + (jlushr (((((a1 - ((jlushr a1 (1 : Int32)) &&& (6148914691236517205 : Int64))) &&& (3689348814741910323 : Int64)) + ((jlushr (a1 - ((jlushr a1 (1 : Int32)) &&& (6148914691236517205 : Int64))) (nI 2)) &&& (3689348814741910323 : Int64))) + (jlushr (((a1 - ((jlushr a1 (1 : Int32)) &&& (6148914691236517205 : Int64))) &&& (3689348814741910323 : Int64)) + ((jlushr (a1 - ((jlushr a1 (1 : Int32)) &&& (6148914691236517205 : Int64))) (nI 2)) &&& (3689348814741910323 : Int64))) (nI 4))) &&& (1085102592571150095 : Int64)) (nI 8))) + (jlushr ((((((a1 - ((jlushr a1 (1 : Int32)) &&& (6148914691236517205 : Int64))) &&& (3689348814741910323 : Int64)) + ((jlushr (a1 - ((jlushr a1 (1 : Int32)) &&& (6148914691236517205 : Int64))) (nI 2)) &&& (3689348814741910323 : Int64))) + (jlushr (((a1 - ((jlushr a1 (1 : Int32)) &&& (6148914691236517205 : Int64))) &&& (3689348814741910323 : Int64)) + ((jlushr (a1 - ((jlushr a1 (1 : Int32)) &&& (6148914691236517205 : Int64))) (nI 2)) &&& (3689348814741910323 : Int64))) (nI 4))) &&& (1085102592571150095 : Int64)) + (jlushr (((((a1 - ((jlushr a1 (1 : Int32)) &&& (6148914691236517205 : Int64))) &&& (3689348814741910323 : Int64)) + ((jlushr (a1 - ((jlushr a1 (1 : Int32)) &&& (6148914691236517205 : Int64))) (nI 2)) &&& (3689348814741910323 : Int64))) + (jlushr (((a1 - ((jlushr a1 (1 : Int32)) &&& (6148914691236517205 : Int64))) &&& (3689348814741910323 : Int64)) + ((jlushr (a1 - ((jlushr a1 (1 : Int32)) &&& (6148914691236517205 : Int64))) (nI 2)) &&& (3689348814741910323 : Int64))) (nI 4))) &&& (1085102592571150095 : Int64)) (nI 8))) (nI 16))) (nI 32))) hx hb dJ13_bitCount_95d88_52 rfl ?_
  refine lv_ladd hx hb dJ13_bitCount_95d88_53 ?_
  refine lv_lstore_n (lv' := [(0, .long ((((((((a1 - ((jlushr a1 (1 : Int32)) &&& (6148914691236517205 : Int64))) &&& (3689348814741910323 : Int64)) + ((jlushr (a1 - ((jlushr a1 (1 : Int32)) &&& (6148914691236517205 : Int64))) (nI 2)) &&& (3689348814741910323 : Int64))) + (jlushr (((a1 - ((jlushr a1 (1 : Int32)) &&& (6148914691236517205 : Int64))) &&& (3689348814741910323 : Int64)) + ((jlushr (a1 - ((jlushr a1 (1 : Int32)) &&& (6148914691236517205 : Int64))) (nI 2)) &&& (3689348814741910323 : Int64))) (nI 4))) &&& (1085102592571150095 : Int64)) + (jlushr (((((a1 - ((jlushr a1 (1 : Int32)) &&& (6148914691236517205 : Int64))) &&& (3689348814741910323 : Int64)) + ((jlushr (a1 - ((jlushr a1 (1 : Int32)) &&& (6148914691236517205 : Int64))) (nI 2)) &&& (3689348814741910323 : Int64))) + (jlushr (((a1 - ((jlushr a1 (1 : Int32)) &&& (6148914691236517205 : Int64))) &&& (3689348814741910323 : Int64)) + ((jlushr (a1 - ((jlushr a1 (1 : Int32)) &&& (6148914691236517205 : Int64))) (nI 2)) &&& (3689348814741910323 : Int64))) (nI 4))) &&& (1085102592571150095 : Int64)) (nI 8))) + (jlushr ((((((a1 - ((jlushr a1 (1 : Int32)) &&& (6148914691236517205 : Int64))) &&& (3689348814741910323 : Int64)) + ((jlushr (a1 - ((jlushr a1 (1 : Int32)) &&& (6148914691236517205 : Int64))) (nI 2)) &&& (3689348814741910323 : Int64))) + (jlushr (((a1 - ((jlushr a1 (1 : Int32)) &&& (6148914691236517205 : Int64))) &&& (3689348814741910323 : Int64)) + ((jlushr (a1 - ((jlushr a1 (1 : Int32)) &&& (6148914691236517205 : Int64))) (nI 2)) &&& (3689348814741910323 : Int64))) (nI 4))) &&& (1085102592571150095 : Int64)) + (jlushr (((((a1 - ((jlushr a1 (1 : Int32)) &&& (6148914691236517205 : Int64))) &&& (3689348814741910323 : Int64)) + ((jlushr (a1 - ((jlushr a1 (1 : Int32)) &&& (6148914691236517205 : Int64))) (nI 2)) &&& (3689348814741910323 : Int64))) + (jlushr (((a1 - ((jlushr a1 (1 : Int32)) &&& (6148914691236517205 : Int64))) &&& (3689348814741910323 : Int64)) + ((jlushr (a1 - ((jlushr a1 (1 : Int32)) &&& (6148914691236517205 : Int64))) (nI 2)) &&& (3689348814741910323 : Int64))) (nI 4))) &&& (1085102592571150095 : Int64)) (nI 8))) (nI 16))) + (jlushr (((((((a1 - ((jlushr a1 (1 : Int32)) &&& (6148914691236517205 : Int64))) &&& (3689348814741910323 : Int64)) + ((jlushr (a1 - ((jlushr a1 (1 : Int32)) &&& (6148914691236517205 : Int64))) (nI 2)) &&& (3689348814741910323 : Int64))) + (jlushr (((a1 - ((jlushr a1 (1 : Int32)) &&& (6148914691236517205 : Int64))) &&& (3689348814741910323 : Int64)) + ((jlushr (a1 - ((jlushr a1 (1 : Int32)) &&& (6148914691236517205 : Int64))) (nI 2)) &&& (3689348814741910323 : Int64))) (nI 4))) &&& (1085102592571150095 : Int64)) + (jlushr (((((a1 - ((jlushr a1 (1 : Int32)) &&& (6148914691236517205 : Int64))) &&& (3689348814741910323 : Int64)) + ((jlushr (a1 - ((jlushr a1 (1 : Int32)) &&& (6148914691236517205 : Int64))) (nI 2)) &&& (3689348814741910323 : Int64))) + (jlushr (((a1 - ((jlushr a1 (1 : Int32)) &&& (6148914691236517205 : Int64))) &&& (3689348814741910323 : Int64)) + ((jlushr (a1 - ((jlushr a1 (1 : Int32)) &&& (6148914691236517205 : Int64))) (nI 2)) &&& (3689348814741910323 : Int64))) (nI 4))) &&& (1085102592571150095 : Int64)) (nI 8))) + (jlushr ((((((a1 - ((jlushr a1 (1 : Int32)) &&& (6148914691236517205 : Int64))) &&& (3689348814741910323 : Int64)) + ((jlushr (a1 - ((jlushr a1 (1 : Int32)) &&& (6148914691236517205 : Int64))) (nI 2)) &&& (3689348814741910323 : Int64))) + (jlushr (((a1 - ((jlushr a1 (1 : Int32)) &&& (6148914691236517205 : Int64))) &&& (3689348814741910323 : Int64)) + ((jlushr (a1 - ((jlushr a1 (1 : Int32)) &&& (6148914691236517205 : Int64))) (nI 2)) &&& (3689348814741910323 : Int64))) (nI 4))) &&& (1085102592571150095 : Int64)) + (jlushr (((((a1 - ((jlushr a1 (1 : Int32)) &&& (6148914691236517205 : Int64))) &&& (3689348814741910323 : Int64)) + ((jlushr (a1 - ((jlushr a1 (1 : Int32)) &&& (6148914691236517205 : Int64))) (nI 2)) &&& (3689348814741910323 : Int64))) + (jlushr (((a1 - ((jlushr a1 (1 : Int32)) &&& (6148914691236517205 : Int64))) &&& (3689348814741910323 : Int64)) + ((jlushr (a1 - ((jlushr a1 (1 : Int32)) &&& (6148914691236517205 : Int64))) (nI 2)) &&& (3689348814741910323 : Int64))) (nI 4))) &&& (1085102592571150095 : Int64)) (nI 8))) (nI 16))) (nI 32))))]) hx hb dJ13_bitCount_95d88_54 rfl hl (by decide) rfl (fun ls hl => ?_)
  refine lv_lload_n hx hb dJ13_bitCount_95d88_55 rfl (lv_at hl 0 rfl) ?_
  refine lv_l2i (v := ((((((((a1 - ((jlushr a1 (1 : Int32)) &&& (6148914691236517205 : Int64))) &&& (3689348814741910323 : Int64)) + ((jlushr (a1 - ((jlushr a1 (1 : Int32)) &&& (6148914691236517205 : Int64))) (nI 2)) &&& (3689348814741910323 : Int64))) + (jlushr (((a1 - ((jlushr a1 (1 : Int32)) &&& (6148914691236517205 : Int64))) &&& (3689348814741910323 : Int64)) + ((jlushr (a1 - ((jlushr a1 (1 : Int32)) &&& (6148914691236517205 : Int64))) (nI 2)) &&& (3689348814741910323 : Int64))) (nI 4))) &&& (1085102592571150095 : Int64)) + (jlushr (((((a1 - ((jlushr a1 (1 : Int32)) &&& (6148914691236517205 : Int64))) &&& (3689348814741910323 : Int64)) + ((jlushr (a1 - ((jlushr a1 (1 : Int32)) &&& (6148914691236517205 : Int64))) (nI 2)) &&& (3689348814741910323 : Int64))) + (jlushr (((a1 - ((jlushr a1 (1 : Int32)) &&& (6148914691236517205 : Int64))) &&& (3689348814741910323 : Int64)) + ((jlushr (a1 - ((jlushr a1 (1 : Int32)) &&& (6148914691236517205 : Int64))) (nI 2)) &&& (3689348814741910323 : Int64))) (nI 4))) &&& (1085102592571150095 : Int64)) (nI 8))) + (jlushr ((((((a1 - ((jlushr a1 (1 : Int32)) &&& (6148914691236517205 : Int64))) &&& (3689348814741910323 : Int64)) + ((jlushr (a1 - ((jlushr a1 (1 : Int32)) &&& (6148914691236517205 : Int64))) (nI 2)) &&& (3689348814741910323 : Int64))) + (jlushr (((a1 - ((jlushr a1 (1 : Int32)) &&& (6148914691236517205 : Int64))) &&& (3689348814741910323 : Int64)) + ((jlushr (a1 - ((jlushr a1 (1 : Int32)) &&& (6148914691236517205 : Int64))) (nI 2)) &&& (3689348814741910323 : Int64))) (nI 4))) &&& (1085102592571150095 : Int64)) + (jlushr (((((a1 - ((jlushr a1 (1 : Int32)) &&& (6148914691236517205 : Int64))) &&& (3689348814741910323 : Int64)) + ((jlushr (a1 - ((jlushr a1 (1 : Int32)) &&& (6148914691236517205 : Int64))) (nI 2)) &&& (3689348814741910323 : Int64))) + (jlushr (((a1 - ((jlushr a1 (1 : Int32)) &&& (6148914691236517205 : Int64))) &&& (3689348814741910323 : Int64)) + ((jlushr (a1 - ((jlushr a1 (1 : Int32)) &&& (6148914691236517205 : Int64))) (nI 2)) &&& (3689348814741910323 : Int64))) (nI 4))) &&& (1085102592571150095 : Int64)) (nI 8))) (nI 16))) + (jlushr (((((((a1 - ((jlushr a1 (1 : Int32)) &&& (6148914691236517205 : Int64))) &&& (3689348814741910323 : Int64)) + ((jlushr (a1 - ((jlushr a1 (1 : Int32)) &&& (6148914691236517205 : Int64))) (nI 2)) &&& (3689348814741910323 : Int64))) + (jlushr (((a1 - ((jlushr a1 (1 : Int32)) &&& (6148914691236517205 : Int64))) &&& (3689348814741910323 : Int64)) + ((jlushr (a1 - ((jlushr a1 (1 : Int32)) &&& (6148914691236517205 : Int64))) (nI 2)) &&& (3689348814741910323 : Int64))) (nI 4))) &&& (1085102592571150095 : Int64)) + (jlushr (((((a1 - ((jlushr a1 (1 : Int32)) &&& (6148914691236517205 : Int64))) &&& (3689348814741910323 : Int64)) + ((jlushr (a1 - ((jlushr a1 (1 : Int32)) &&& (6148914691236517205 : Int64))) (nI 2)) &&& (3689348814741910323 : Int64))) + (jlushr (((a1 - ((jlushr a1 (1 : Int32)) &&& (6148914691236517205 : Int64))) &&& (3689348814741910323 : Int64)) + ((jlushr (a1 - ((jlushr a1 (1 : Int32)) &&& (6148914691236517205 : Int64))) (nI 2)) &&& (3689348814741910323 : Int64))) (nI 4))) &&& (1085102592571150095 : Int64)) (nI 8))) + (jlushr ((((((a1 - ((jlushr a1 (1 : Int32)) &&& (6148914691236517205 : Int64))) &&& (3689348814741910323 : Int64)) + ((jlushr (a1 - ((jlushr a1 (1 : Int32)) &&& (6148914691236517205 : Int64))) (nI 2)) &&& (3689348814741910323 : Int64))) + (jlushr (((a1 - ((jlushr a1 (1 : Int32)) &&& (6148914691236517205 : Int64))) &&& (3689348814741910323 : Int64)) + ((jlushr (a1 - ((jlushr a1 (1 : Int32)) &&& (6148914691236517205 : Int64))) (nI 2)) &&& (3689348814741910323 : Int64))) (nI 4))) &&& (1085102592571150095 : Int64)) + (jlushr (((((a1 - ((jlushr a1 (1 : Int32)) &&& (6148914691236517205 : Int64))) &&& (3689348814741910323 : Int64)) + ((jlushr (a1 - ((jlushr a1 (1 : Int32)) &&& (6148914691236517205 : Int64))) (nI 2)) &&& (3689348814741910323 : Int64))) + (jlushr (((a1 - ((jlushr a1 (1 : Int32)) &&& (6148914691236517205 : Int64))) &&& (3689348814741910323 : Int64)) + ((jlushr (a1 - ((jlushr a1 (1 : Int32)) &&& (6148914691236517205 : Int64))) (nI 2)) &&& (3689348814741910323 : Int64))) (nI 4))) &&& (1085102592571150095 : Int64)) (nI 8))) (nI 16))) (nI 32))).toInt32) hx hb dJ13_bitCount_95d88_56 rfl ?_
  refine lv_bipush (v := (nI 127)) hx hb dJ13_bitCount_95d88_57 (by decide) ?_
  refine lv_iand hx hb dJ13_bitCount_95d88_59 ?_
  exact W.iret hx hb hr (fun t ht hW => ⟨⟨_, (), rfl, h, by rw [ht]; exact hP, hD⟩, hS.F ht⟩) hS.2.2 dJ13_bitCount_95d88_60
def wp_X4_hasTerm (a1 : Int32) (tc : Int32) (K : Int32 → Prop) : Prop :=
 ((a1 < 0 → K (0 : Int32)) ∧
 (¬ (a1 < 0) → ((tc ≤ a1 → K (0 : Int32)) ∧
 (¬ (tc ≤ a1) → K (1 : Int32)))))
abbrev rm_X4_hasTerm : Room := { frames := 0, cells := 0, slots := 0, locals := 0 }
set_option maxHeartbeats 4000000 in
set_option maxRecDepth 100000 in
theorem c_X4_hasTerm (l : Launch) (G : GG) (ad : Nat → Nat) (sz : Nat) (inp : Int32) (otp : Int32) (tc : Int32) (fc : Int32) (on : Nat → Int32) (ze : Nat → Int32) (ou : Nat → Int32) (wd : Nat → Int64) (lo : Nat → Int32) (up : Nat → Int32) (a1 : Int32) {K : Int32 → Prop} (h : wp_X4_hasTerm a1 tc K) : CI l yX4_hasTerm wsX4_hasTerm rm_X4_hasTerm G [.ref (ad 0), .int a1] (wS G ad inp otp tc fc on ze ou wd lo up) sz (fun u : Unit => wS G ad inp otp tc fc on ze ou wd lo up) (fun r u => K r ) := by
  refine Met.ofW (cc := cX4_hasTerm) (maxL := 2) (ret := (some .boolean)) (by decide) rfl ?_
  intro p e s m args below meth c s₁ B hml hv
  obtain ⟨rfl, hsz, hP, hK, hD0, hZ⟩ := hv
  have hx := B.exec
  have hb := B.bytes
  have hr := B.returns
  have hts := atoms_spec (ws := wsX4_hasTerm) B.pre
  have hown : s.vm.findClass RX4 = some m.cls := findClass_of_methodNamed B.named
  have hlocks := B.notSynchronized
  subst hsz
  have hD := hD0.self (sz := s.heap.size)
  generalize hAe : va_A (wS G ad inp otp tc fc on ze ou wd lo up) s.heap.size = A at hD hZ ⊢
  have hA : ∀ q : Nat, s.heap.size ≤ q → A q := fun q h => by rw [← hAe]; exact Or.inr h
  have hS : va_S A s.heap s.heap [] := va_S.rf
  have hl := lv_entry ([.ref (ad 0), .int a1]) (n := 2) (Nat.le_of_ble_eq_true rfl)
  rw [lg_entry_eq]
  generalize (lg_sl ([.ref (ad 0), .int a1]) ++ List.replicate (2 - (lg_sl ([.ref (ad 0), .int a1])).length) Slot.unset).toArray = ls at hl ⊢
  have hl : lv_has ls 2 [(0, .ref (ad 0)), (1, .int a1)] := hl
  unfold wp_X4_hasTerm at h
  have hinX4 : ∀ w ∈ wsX40, w ∈ wsX4_hasTerm := by decide +kernel
  refine lv_iload_n hx hb dX4_hasTerm_0 rfl (lv_at hl 1 rfl) ?_
  refine lv_if_lt (tgt := 16) hx hb dX4_hasTerm_1 (by decide) (fun c_1 => ?_) (fun c_1 => ?_)
  · have h := h.1 c_1
    refine lv_iconst (v := (0 : Int32)) hx hb dX4_hasTerm_16 (by decide) ?_
    exact W.zret hx hb hr (by decide) (fun t ht hW => ⟨⟨_, (), rfl, h, by rw [ht]; exact hP, hD⟩, hS.F ht⟩) hS.2.2 dX4_hasTerm_17
  · have h := h.2 c_1
    refine lv_iload_n hx hb dX4_hasTerm_4 rfl (lv_at hl 1 rfl) ?_
    refine lv_aload_n hx hb dX4_hasTerm_5 rfl (lv_at hl 0 rfl) ?_
    refine va_get (D := G.1) (ci := 4) (v := .int tc) (C := RX4) (T := TX4) (N := 10) hx hb hts hinX4 hown hK.1 hP 0 rfl rfl 2 (by decide) (hts (.fieldLink RX4 18 "PlaFolder$State" "termCount" "I") (by decide +kernel)) (fun _ h9 => h9) rfl dX4_hasTerm_6 ?_
    refine lv_icmp_ge (tgt := 16) hx hb dX4_hasTerm_9 (by decide) (fun c_2 => ?_) (fun c_2 => ?_)
    · have h := h.1 c_2
      refine lv_iconst (v := (0 : Int32)) hx hb dX4_hasTerm_16 (by decide) ?_
      exact W.zret hx hb hr (by decide) (fun t ht hW => ⟨⟨_, (), rfl, h, by rw [ht]; exact hP, hD⟩, hS.F ht⟩) hS.2.2 dX4_hasTerm_17
    · have h := h.2 c_2
      refine lv_iconst (v := (1 : Int32)) hx hb dX4_hasTerm_12 (by decide) ?_
      refine lv_goto (tgt := 17) hx hb dX4_hasTerm_13 (by decide) ?_
      exact W.zret hx hb hr (by decide) (fun t ht hW => ⟨⟨_, (), rfl, h, by rw [ht]; exact hP, hD⟩, hS.F ht⟩) hS.2.2 dX4_hasTerm_17
def wp_X4_hasColumn (a1 : Int32) (inp : Int32) (otp : Int32) (K : Int32 → Prop) : Prop :=
 (((nI 6) ≤ a1 → ((otp ≤ (a1 - (nI 6)) → K (0 : Int32)) ∧
 (¬ (otp ≤ (a1 - (nI 6))) → K (1 : Int32)))) ∧
 (¬ ((nI 6) ≤ a1) → ((a1 < 0 → K (0 : Int32)) ∧
 (¬ (a1 < 0) → ((inp ≤ a1 → K (0 : Int32)) ∧
 (¬ (inp ≤ a1) → K (1 : Int32)))))))
abbrev rm_X4_hasColumn : Room := { frames := 0, cells := 0, slots := 0, locals := 0 }
set_option maxHeartbeats 4000000 in
set_option maxRecDepth 100000 in
theorem c_X4_hasColumn (l : Launch) (G : GG) (ad : Nat → Nat) (sz : Nat) (inp : Int32) (otp : Int32) (tc : Int32) (fc : Int32) (on : Nat → Int32) (ze : Nat → Int32) (ou : Nat → Int32) (wd : Nat → Int64) (lo : Nat → Int32) (up : Nat → Int32) (a1 : Int32) {K : Int32 → Prop} (h : wp_X4_hasColumn a1 inp otp K) : CI l yX4_hasColumn wsX4_hasColumn rm_X4_hasColumn G [.ref (ad 0), .int a1] (wS G ad inp otp tc fc on ze ou wd lo up) sz (fun u : Unit => wS G ad inp otp tc fc on ze ou wd lo up) (fun r u => K r ) := by
  refine Met.ofW (cc := cX4_hasColumn) (maxL := 2) (ret := (some .boolean)) (by decide) rfl ?_
  intro p e s m args below meth c s₁ B hml hv
  obtain ⟨rfl, hsz, hP, hK, hD0, hZ⟩ := hv
  have hx := B.exec
  have hb := B.bytes
  have hr := B.returns
  have hts := atoms_spec (ws := wsX4_hasColumn) B.pre
  have hown : s.vm.findClass RX4 = some m.cls := findClass_of_methodNamed B.named
  have hlocks := B.notSynchronized
  subst hsz
  have hD := hD0.self (sz := s.heap.size)
  generalize hAe : va_A (wS G ad inp otp tc fc on ze ou wd lo up) s.heap.size = A at hD hZ ⊢
  have hA : ∀ q : Nat, s.heap.size ≤ q → A q := fun q h => by rw [← hAe]; exact Or.inr h
  have hS : va_S A s.heap s.heap [] := va_S.rf
  have hl := lv_entry ([.ref (ad 0), .int a1]) (n := 2) (Nat.le_of_ble_eq_true rfl)
  rw [lg_entry_eq]
  generalize (lg_sl ([.ref (ad 0), .int a1]) ++ List.replicate (2 - (lg_sl ([.ref (ad 0), .int a1])).length) Slot.unset).toArray = ls at hl ⊢
  have hl : lv_has ls 2 [(0, .ref (ad 0)), (1, .int a1)] := hl
  unfold wp_X4_hasColumn at h
  have hinX4 : ∀ w ∈ wsX40, w ∈ wsX4_hasColumn := by decide +kernel
  refine lv_iload_n hx hb dX4_hasColumn_0 rfl (lv_at hl 1 rfl) ?_
  refine lv_bipush (v := (nI 6)) hx hb dX4_hasColumn_1 (by decide) ?_
  refine lv_icmp_ge (tgt := 24) hx hb dX4_hasColumn_3 (by decide) (fun c_1 => ?_) (fun c_1 => ?_)
  · have h := h.1 c_1
    refine lv_iload_n hx hb dX4_hasColumn_24 rfl (lv_at hl 1 rfl) ?_
    refine lv_bipush (v := (nI 6)) hx hb dX4_hasColumn_25 (by decide) ?_
    refine lv_isub hx hb dX4_hasColumn_27 ?_
    refine lv_aload_n hx hb dX4_hasColumn_28 rfl (lv_at hl 0 rfl) ?_
    refine va_get (D := G.1) (ci := 4) (v := .int otp) (C := RX4) (T := TX4) (N := 10) hx hb hts hinX4 hown hK.1 hP 0 rfl rfl 1 (by decide) (hts (.fieldLink RX4 15 "PlaFolder$State" "outputs" "I") (by decide +kernel)) (fun _ h9 => h9) rfl dX4_hasColumn_29 ?_
    refine lv_icmp_ge (tgt := 39) hx hb dX4_hasColumn_32 (by decide) (fun c_2 => ?_) (fun c_2 => ?_)
    · have h := h.1 c_2
      refine lv_iconst (v := (0 : Int32)) hx hb dX4_hasColumn_39 (by decide) ?_
      exact W.zret hx hb hr (by decide) (fun t ht hW => ⟨⟨_, (), rfl, h, by rw [ht]; exact hP, hD⟩, hS.F ht⟩) hS.2.2 dX4_hasColumn_40
    · have h := h.2 c_2
      refine lv_iconst (v := (1 : Int32)) hx hb dX4_hasColumn_35 (by decide) ?_
      refine lv_goto (tgt := 40) hx hb dX4_hasColumn_36 (by decide) ?_
      exact W.zret hx hb hr (by decide) (fun t ht hW => ⟨⟨_, (), rfl, h, by rw [ht]; exact hP, hD⟩, hS.F ht⟩) hS.2.2 dX4_hasColumn_40
  · have h := h.2 c_1
    refine lv_iload_n hx hb dX4_hasColumn_6 rfl (lv_at hl 1 rfl) ?_
    refine lv_if_lt (tgt := 22) hx hb dX4_hasColumn_7 (by decide) (fun c_3 => ?_) (fun c_3 => ?_)
    · have h := h.1 c_3
      refine lv_iconst (v := (0 : Int32)) hx hb dX4_hasColumn_22 (by decide) ?_
      exact W.zret hx hb hr (by decide) (fun t ht hW => ⟨⟨_, (), rfl, h, by rw [ht]; exact hP, hD⟩, hS.F ht⟩) hS.2.2 dX4_hasColumn_23
    · have h := h.2 c_3
      refine lv_iload_n hx hb dX4_hasColumn_10 rfl (lv_at hl 1 rfl) ?_
      refine lv_aload_n hx hb dX4_hasColumn_11 rfl (lv_at hl 0 rfl) ?_
      refine va_get (D := G.1) (ci := 4) (v := .int inp) (C := RX4) (T := TX4) (N := 10) hx hb hts hinX4 hown hK.1 hP 0 rfl rfl 0 (by decide) (hts (.fieldLink RX4 9 "PlaFolder$State" "inputs" "I") (by decide +kernel)) (fun _ h9 => h9) rfl dX4_hasColumn_12 ?_
      refine lv_icmp_ge (tgt := 22) hx hb dX4_hasColumn_15 (by decide) (fun c_4 => ?_) (fun c_4 => ?_)
      · have h := h.1 c_4
        refine lv_iconst (v := (0 : Int32)) hx hb dX4_hasColumn_22 (by decide) ?_
        exact W.zret hx hb hr (by decide) (fun t ht hW => ⟨⟨_, (), rfl, h, by rw [ht]; exact hP, hD⟩, hS.F ht⟩) hS.2.2 dX4_hasColumn_23
      · have h := h.2 c_4
        refine lv_iconst (v := (1 : Int32)) hx hb dX4_hasColumn_18 (by decide) ?_
        refine lv_goto (tgt := 23) hx hb dX4_hasColumn_19 (by decide) ?_
        exact W.zret hx hb hr (by decide) (fun t ht hW => ⟨⟨_, (), rfl, h, by rw [ht]; exact hP, hD⟩, hS.F ht⟩) hS.2.2 dX4_hasColumn_23
def wp_X4_takesTerm (a1 : Int32) (a2 : Int32) (a3 : Int32) (inp : Int32) (otp : Int32) (K : Int32 → Prop) : Prop :=
 (Jn1 (fun (y2 : Int32) => (Jn1 (fun (y6 : Int32) => ((y2 = 0 → K (0 : Int32)) ∧
 (¬ (y2 = 0) → ((y6 = 0 → K (0 : Int32)) ∧
 (¬ (y6 = 0) → ((¬ (a1 &&& a2) = 0 → K (0 : Int32)) ∧
 ((a1 &&& a2) = 0 → ((a3 = 0 → K (0 : Int32)) ∧
 (¬ (a3 = 0) → K (1 : Int32))))))))))
 (fun (J7 : Int32 → Prop) => ((¬ (jushr a3 otp) = 0 → J7 (0 : Int32)) ∧
 ((jushr a3 otp) = 0 → J7 (1 : Int32))))))
 (fun (J3 : Int32 → Prop) => ((¬ (jushr (a1 ||| a2) inp) = 0 → J3 (0 : Int32)) ∧
 ((jushr (a1 ||| a2) inp) = 0 → J3 (1 : Int32)))))
abbrev rm_X4_takesTerm : Room := { frames := 0, cells := 0, slots := 0, locals := 0 }
set_option maxHeartbeats 4000000 in
set_option maxRecDepth 100000 in
theorem c_X4_takesTerm (l : Launch) (G : GG) (ad : Nat → Nat) (sz : Nat) (inp : Int32) (otp : Int32) (tc : Int32) (fc : Int32) (on : Nat → Int32) (ze : Nat → Int32) (ou : Nat → Int32) (wd : Nat → Int64) (lo : Nat → Int32) (up : Nat → Int32) (a1 : Int32) (a2 : Int32) (a3 : Int32) {K : Int32 → Prop} (h : wp_X4_takesTerm a1 a2 a3 inp otp K) : CI l yX4_takesTerm wsX4_takesTerm rm_X4_takesTerm G [.ref (ad 0), .int a1, .int a2, .int a3] (wS G ad inp otp tc fc on ze ou wd lo up) sz (fun u : Unit => wS G ad inp otp tc fc on ze ou wd lo up) (fun r u => K r ) := by
  refine Met.ofW (cc := cX4_takesTerm) (maxL := 6) (ret := (some .boolean)) (by decide) rfl ?_
  intro p e s m args below meth c s₁ B hml hv
  obtain ⟨rfl, hsz, hP, hK, hD0, hZ⟩ := hv
  have hx := B.exec
  have hb := B.bytes
  have hr := B.returns
  have hts := atoms_spec (ws := wsX4_takesTerm) B.pre
  have hown : s.vm.findClass RX4 = some m.cls := findClass_of_methodNamed B.named
  have hlocks := B.notSynchronized
  subst hsz
  have hD := hD0.self (sz := s.heap.size)
  generalize hAe : va_A (wS G ad inp otp tc fc on ze ou wd lo up) s.heap.size = A at hD hZ ⊢
  have hA : ∀ q : Nat, s.heap.size ≤ q → A q := fun q h => by rw [← hAe]; exact Or.inr h
  have hS : va_S A s.heap s.heap [] := va_S.rf
  have hl := lv_entry ([.ref (ad 0), .int a1, .int a2, .int a3]) (n := 6) (Nat.le_of_ble_eq_true rfl)
  rw [lg_entry_eq]
  generalize (lg_sl ([.ref (ad 0), .int a1, .int a2, .int a3]) ++ List.replicate (6 - (lg_sl ([.ref (ad 0), .int a1, .int a2, .int a3])).length) Slot.unset).toArray = ls at hl ⊢
  have hl : lv_has ls 6 [(0, .ref (ad 0)), (1, .int a1), (2, .int a2), (3, .int a3)] := hl
  unfold wp_X4_takesTerm at h
  have hinX4 : ∀ w ∈ wsX40, w ∈ wsX4_takesTerm := by decide +kernel
  refine lv_iload_n hx hb dX4_takesTerm_0 rfl (lv_at hl 1 rfl) ?_
  refine lv_iload_n hx hb dX4_takesTerm_1 rfl (lv_at hl 2 rfl) ?_
  refine lv_ior hx hb dX4_takesTerm_2 ?_
  refine lv_aload_n hx hb dX4_takesTerm_3 rfl (lv_at hl 0 rfl) ?_
  refine va_get (D := G.1) (ci := 4) (v := .int inp) (C := RX4) (T := TX4) (N := 10) hx hb hts hinX4 hown hK.1 hP 0 rfl rfl 0 (by decide) (hts (.fieldLink RX4 9 "PlaFolder$State" "inputs" "I") (by decide +kernel)) (fun _ h9 => h9) rfl dX4_takesTerm_4 ?_
  refine lv_iushr hx hb dX4_takesTerm_7 (v := (jushr (a1 ||| a2) inp)) rfl ?_
  obtain ⟨J3, hJ14, h⟩ := h
  refine joinW (σ := Int32) (J := fun q => J3 q) (pc := 16) (st := fun q => .int q :: []) (P := fun q H locs ls => va_P G.1 vwCl (wS G ad inp otp tc fc on ze ou wd lo up) H ∧ va_D A (wS G ad inp otp tc fc on ze ou wd lo up) ∧ va_S A s.heap H locs ∧ lv_has ls 6 [(0, .ref (ad 0)), (1, .int a1), (2, .int a2), (3, .int a3)]) ?_ (fun join4 => ?_)
  · rintro y2 h H locs ls ⟨hP, hD, hS, hl⟩
    have hP : va_P G.1 vwCl (wS G ad inp otp tc fc on ze ou wd lo up) H := hP
    have hD : va_D A (wS G ad inp otp tc fc on ze ou wd lo up) := hD
    have hl : lv_has ls 6 [(0, .ref (ad 0)), (1, .int a1), (2, .int a2), (3, .int a3)] := hl
    have h := hJ14 y2 h
    refine W.eq (g2 := F0 m 16 ls (.int y2 :: [])) rfl ?_
    refine lv_istore (lv' := [(4, .int y2), (0, .ref (ad 0)), (1, .int a1), (2, .int a2), (3, .int a3)]) hx hb dX4_takesTerm_16 hl (by decide) rfl (fun ls hl => ?_)
    refine lv_iload_n hx hb dX4_takesTerm_18 rfl (lv_at hl 4 rfl) ?_
    refine lv_aload_n hx hb dX4_takesTerm_19 rfl (lv_at hl 1 rfl) ?_
    refine va_get (D := G.1) (ci := 4) (v := .int otp) (C := RX4) (T := TX4) (N := 10) hx hb hts hinX4 hown hK.1 hP 0 rfl rfl 1 (by decide) (hts (.fieldLink RX4 15 "PlaFolder$State" "outputs" "I") (by decide +kernel)) (fun _ h9 => h9) rfl dX4_takesTerm_20 ?_
    refine lv_iushr hx hb dX4_takesTerm_23 (v := (jushr a3 otp)) rfl ?_
    obtain ⟨J7, hJ13, h⟩ := h
    refine joinW (σ := Int32) (J := fun q => J7 q) (pc := 32) (st := fun q => .int q :: []) (P := fun q H locs ls => va_P G.1 vwCl (wS G ad inp otp tc fc on ze ou wd lo up) H ∧ va_D A (wS G ad inp otp tc fc on ze ou wd lo up) ∧ va_S A s.heap H locs ∧ lv_has ls 6 [(1, .int a1), (2, .int a2), (3, .int a3), (4, .int y2)]) ?_ (fun join8 => ?_)
    · rintro y6 h H locs ls ⟨hP, hD, hS, hl⟩
      have hP : va_P G.1 vwCl (wS G ad inp otp tc fc on ze ou wd lo up) H := hP
      have hD : va_D A (wS G ad inp otp tc fc on ze ou wd lo up) := hD
      have hl : lv_has ls 6 [(1, .int a1), (2, .int a2), (3, .int a3), (4, .int y2)] := hl
      have h := hJ13 y6 h
      refine W.eq (g2 := F0 m 32 ls (.int y6 :: [])) rfl ?_
      refine lv_istore (lv' := [(5, .int y6), (1, .int a1), (2, .int a2), (3, .int a3), (4, .int y2)]) hx hb dX4_takesTerm_32 hl (by decide) rfl (fun ls hl => ?_)
      refine lv_iload hx hb dX4_takesTerm_34 (lv_at hl 4 rfl) ?_
      refine lv_if_eq (tgt := 58) hx hb dX4_takesTerm_36 (by decide) (fun c_9 => ?_) (fun c_9 => ?_)
      · have h := h.1 c_9
        refine lv_iconst (v := (0 : Int32)) hx hb dX4_takesTerm_58 (by decide) ?_
        exact W.zret hx hb hr (by decide) (fun t ht hW => ⟨⟨_, (), rfl, h, by rw [ht]; exact hP, hD⟩, hS.F ht⟩) hS.2.2 dX4_takesTerm_59
      · have h := h.2 c_9
        refine lv_iload hx hb dX4_takesTerm_39 (lv_at hl 0 rfl) ?_
        refine lv_if_eq (tgt := 58) hx hb dX4_takesTerm_41 (by decide) (fun c_10 => ?_) (fun c_10 => ?_)
        · have h := h.1 c_10
          refine lv_iconst (v := (0 : Int32)) hx hb dX4_takesTerm_58 (by decide) ?_
          exact W.zret hx hb hr (by decide) (fun t ht hW => ⟨⟨_, (), rfl, h, by rw [ht]; exact hP, hD⟩, hS.F ht⟩) hS.2.2 dX4_takesTerm_59
        · have h := h.2 c_10
          refine lv_iload_n hx hb dX4_takesTerm_44 rfl (lv_at hl 1 rfl) ?_
          refine lv_iload_n hx hb dX4_takesTerm_45 rfl (lv_at hl 2 rfl) ?_
          refine lv_iand hx hb dX4_takesTerm_46 ?_
          refine lv_if_ne (tgt := 58) hx hb dX4_takesTerm_47 (by decide) (fun c_11 => ?_) (fun c_11 => ?_)
          · have h := h.1 c_11
            refine lv_iconst (v := (0 : Int32)) hx hb dX4_takesTerm_58 (by decide) ?_
            exact W.zret hx hb hr (by decide) (fun t ht hW => ⟨⟨_, (), rfl, h, by rw [ht]; exact hP, hD⟩, hS.F ht⟩) hS.2.2 dX4_takesTerm_59
          · have h := h.2 c_11
            refine lv_iload_n hx hb dX4_takesTerm_50 rfl (lv_at hl 3 rfl) ?_
            refine lv_if_eq (tgt := 58) hx hb dX4_takesTerm_51 (by decide) (fun c_12 => ?_) (fun c_12 => ?_)
            · have h := h.1 c_12
              refine lv_iconst (v := (0 : Int32)) hx hb dX4_takesTerm_58 (by decide) ?_
              exact W.zret hx hb hr (by decide) (fun t ht hW => ⟨⟨_, (), rfl, h, by rw [ht]; exact hP, hD⟩, hS.F ht⟩) hS.2.2 dX4_takesTerm_59
            · have h := h.2 c_12
              refine lv_iconst (v := (1 : Int32)) hx hb dX4_takesTerm_54 (by decide) ?_
              refine lv_goto (tgt := 59) hx hb dX4_takesTerm_55 (by decide) ?_
              exact W.zret hx hb hr (by decide) (fun t ht hW => ⟨⟨_, (), rfl, h, by rw [ht]; exact hP, hD⟩, hS.F ht⟩) hS.2.2 dX4_takesTerm_59
    · refine lv_if_ne (tgt := 31) hx hb dX4_takesTerm_24 (by decide) (fun c_5 => ?_) (fun c_5 => ?_)
      · have h := h.1 c_5
        refine lv_iconst (v := (0 : Int32)) hx hb dX4_takesTerm_31 (by decide) ?_
        exact join8 (0 : Int32) h _ _ _ ⟨hP, hD, hS, lv_sub hl [2, 3, 4, 0] rfl⟩
      · have h := h.2 c_5
        refine lv_iconst (v := (1 : Int32)) hx hb dX4_takesTerm_27 (by decide) ?_
        refine lv_goto (tgt := 32) hx hb dX4_takesTerm_28 (by decide) ?_
        exact join8 (1 : Int32) h _ _ _ ⟨hP, hD, hS, lv_sub hl [2, 3, 4, 0] rfl⟩
  · refine lv_if_ne (tgt := 15) hx hb dX4_takesTerm_8 (by decide) (fun c_1 => ?_) (fun c_1 => ?_)
    · have h := h.1 c_1
      refine lv_iconst (v := (0 : Int32)) hx hb dX4_takesTerm_15 (by decide) ?_
      exact join4 (0 : Int32) h _ _ _ ⟨hP, hD, hS, lv_sub hl [0, 1, 2, 3] rfl⟩
    · have h := h.2 c_1
      refine lv_iconst (v := (1 : Int32)) hx hb dX4_takesTerm_11 (by decide) ?_
      refine lv_goto (tgt := 16) hx hb dX4_takesTerm_12 (by decide) ?_
      exact join4 (1 : Int32) h _ _ _ ⟨hP, hD, hS, lv_sub hl [0, 1, 2, 3] rfl⟩
def wp_X4_allWords (inp : Int32) (K : Int64 → Prop) : Prop :=
 ((¬ inp = (nI 6) → K ((jlshl (1 : Int64) (jshl (1 : Int32) inp)) - (1 : Int64))) ∧
 (inp = (nI 6) → K (-1 : Int64)))
abbrev rm_X4_allWords : Room := { frames := 0, cells := 0, slots := 0, locals := 0 }
set_option maxHeartbeats 4000000 in
set_option maxRecDepth 100000 in
theorem c_X4_allWords (l : Launch) (G : GG) (ad : Nat → Nat) (sz : Nat) (inp : Int32) (otp : Int32) (tc : Int32) (fc : Int32) (on : Nat → Int32) (ze : Nat → Int32) (ou : Nat → Int32) (wd : Nat → Int64) (lo : Nat → Int32) (up : Nat → Int32) {K : Int64 → Prop} (h : wp_X4_allWords inp K) : CL l yX4_allWords wsX4_allWords rm_X4_allWords G [.ref (ad 0)] (wS G ad inp otp tc fc on ze ou wd lo up) sz (fun u : Unit => wS G ad inp otp tc fc on ze ou wd lo up) (fun r u => K r ) := by
  refine Met.ofW (cc := cX4_allWords) (maxL := 1) (ret := (some .long)) (by decide) rfl ?_
  intro p e s m args below meth c s₁ B hml hv
  obtain ⟨rfl, hsz, hP, hK, hD0, hZ⟩ := hv
  have hx := B.exec
  have hb := B.bytes
  have hr := B.returns
  have hts := atoms_spec (ws := wsX4_allWords) B.pre
  have hown : s.vm.findClass RX4 = some m.cls := findClass_of_methodNamed B.named
  have hlocks := B.notSynchronized
  subst hsz
  have hD := hD0.self (sz := s.heap.size)
  generalize hAe : va_A (wS G ad inp otp tc fc on ze ou wd lo up) s.heap.size = A at hD hZ ⊢
  have hA : ∀ q : Nat, s.heap.size ≤ q → A q := fun q h => by rw [← hAe]; exact Or.inr h
  have hS : va_S A s.heap s.heap [] := va_S.rf
  have hl := lv_entry ([.ref (ad 0)]) (n := 1) (Nat.le_of_ble_eq_true rfl)
  rw [lg_entry_eq]
  generalize (lg_sl ([.ref (ad 0)]) ++ List.replicate (1 - (lg_sl ([.ref (ad 0)])).length) Slot.unset).toArray = ls at hl ⊢
  have hl : lv_has ls 1 [(0, .ref (ad 0))] := hl
  unfold wp_X4_allWords at h
  have hinX4 : ∀ w ∈ wsX40, w ∈ wsX4_allWords := by decide +kernel
  refine lv_aload_n hx hb dX4_allWords_0 rfl (lv_at hl 0 rfl) ?_
  refine va_get (D := G.1) (ci := 4) (v := .int inp) (C := RX4) (T := TX4) (N := 10) hx hb hts hinX4 hown hK.1 hP 0 rfl rfl 0 (by decide) (hts (.fieldLink RX4 9 "PlaFolder$State" "inputs" "I") (by decide +kernel)) (fun _ h9 => h9) rfl dX4_allWords_1 ?_
  refine lv_bipush (v := (nI 6)) hx hb dX4_allWords_4 (by decide) ?_
  refine lv_icmp_ne (tgt := 15) hx hb dX4_allWords_6 (by decide) (fun c_1 => ?_) (fun c_1 => ?_)
  · have h := h.1 c_1
    refine lv_lconst (v := (1 : Int64)) hx hb dX4_allWords_15 (by decide) ?_
    refine lv_iconst (v := (1 : Int32)) hx hb dX4_allWords_16 (by decide) ?_
    refine lv_aload_n hx hb dX4_allWords_17 rfl (lv_at hl 0 rfl) ?_
    refine va_get (D := G.1) (ci := 4) (v := .int inp) (C := RX4) (T := TX4) (N := 10) hx hb hts hinX4 hown hK.1 hP 0 rfl rfl 0 (by decide) (hts (.fieldLink RX4 9 "PlaFolder$State" "inputs" "I") (by decide +kernel)) (fun _ h9 => h9) rfl dX4_allWords_18 ?_
    refine lv_ishl hx hb dX4_allWords_21 ?_
    refine lv_lshl (v := (jlshl (1 : Int64) (jshl (1 : Int32) inp))) hx hb dX4_allWords_22 rfl ?_
    refine lv_lconst (v := (1 : Int64)) hx hb dX4_allWords_23 (by decide) ?_
    refine lv_lsub hx hb dX4_allWords_24 ?_
    exact W.lret hx hb hr (fun t ht hW => ⟨⟨_, (), rfl, h, by rw [ht]; exact hP, hD⟩, hS.F ht⟩) hS.2.2 dX4_allWords_25
  · have h := h.2 c_1
    refine lv_ldc2 (v := (-1 : Int64)) hx hb hown (hts (.constantLong RX4 74 (-1)) (by decide +kernel)) dX4_allWords_9 ?_
    refine lv_goto (tgt := 25) hx hb dX4_allWords_12 (by decide) ?_
    exact W.lret hx hb hr (fun t ht hW => ⟨⟨_, (), rfl, h, by rw [ht]; exact hP, hD⟩, hS.F ht⟩) hS.2.2 dX4_allWords_25
def wp_X4_wordsOfTerm (a1 : Int32) (a2 : Int32) (inp : Int32) (K : Int64 → Prop) : Prop :=
 wp_X4_allWords inp (fun (r1 : Int64) => (Lp2 r1 (0 : Int32) (fun (x2 : Int64) (x3 : Int32) (J7 : Int64 → Int32 → Prop) => ((inp ≤ x3 → K x2) ∧
 (¬ (inp ≤ x3) → wp_X5_contains a1 x3 (fun (r11 : Int32) => (Jn1 (fun (x13 : Int64) => wp_X5_contains a2 x3 (fun (r16 : Int32) => ((r16 = 0 → J7 x13 (x3 + (1 : Int32))) ∧
 (¬ (r16 = 0) → (vp_in x3 6 ∧ J7 (x13 &&& ((wwL x3.toNatClampNeg) ^^^ (-1 : Int64))) (x3 + (1 : Int32)))))))
 (fun (J14 : Int64 → Prop) => ((r11 = 0 → J14 x2) ∧
 (¬ (r11 = 0) → (vp_in x3 6 ∧ J14 (x2 &&& (wwL x3.toNatClampNeg)))))))))))))
abbrev rm_X4_wordsOfTerm : Room := { frames := 1, cells := 0, slots := 0, locals := 21 }
set_option maxHeartbeats 4000000 in
set_option maxRecDepth 100000 in
theorem c_X4_wordsOfTerm (l : Launch) (G : GG) (ad : Nat → Nat) (sz : Nat) (inp : Int32) (otp : Int32) (tc : Int32) (fc : Int32) (on : Nat → Int32) (ze : Nat → Int32) (ou : Nat → Int32) (wd : Nat → Int64) (lo : Nat → Int32) (up : Nat → Int32) (a1 : Int32) (a2 : Int32) {K : Int64 → Prop} (h : wp_X4_wordsOfTerm a1 a2 inp K) : CL l yX4_wordsOfTerm wsX4_wordsOfTerm rm_X4_wordsOfTerm G [.ref (ad 0), .int a1, .int a2] (wS G ad inp otp tc fc on ze ou wd lo up) sz (fun u : Unit => wS G ad inp otp tc fc on ze ou wd lo up) (fun r u => K r ) := by
  refine Met.ofW (cc := cX4_wordsOfTerm) (maxL := 6) (ret := (some .long)) (by decide) rfl ?_
  intro p e s m args below meth c s₁ B hml hv
  obtain ⟨rfl, hsz, hP, hK, hD0, hZ⟩ := hv
  have hx := B.exec
  have hb := B.bytes
  have hr := B.returns
  have hts := atoms_spec (ws := wsX4_wordsOfTerm) B.pre
  have hown : s.vm.findClass RX4 = some m.cls := findClass_of_methodNamed B.named
  have hlocks := B.notSynchronized
  subst hsz
  have hD := hD0.self (sz := s.heap.size)
  generalize hAe : va_A (wS G ad inp otp tc fc on ze ou wd lo up) s.heap.size = A at hD hZ ⊢
  have hA : ∀ q : Nat, s.heap.size ≤ q → A q := fun q h => by rw [← hAe]; exact Or.inr h
  have hS : va_S A s.heap s.heap [] := va_S.rf
  have hl := lv_entry ([.ref (ad 0), .int a1, .int a2]) (n := 6) (Nat.le_of_ble_eq_true rfl)
  rw [lg_entry_eq]
  generalize (lg_sl ([.ref (ad 0), .int a1, .int a2]) ++ List.replicate (6 - (lg_sl ([.ref (ad 0), .int a1, .int a2])).length) Slot.unset).toArray = ls at hl ⊢
  have hl : lv_has ls 6 [(0, .ref (ad 0)), (1, .int a1), (2, .int a2)] := hl
  unfold wp_X4_wordsOfTerm at h
  have hinX4 : ∀ w ∈ wsX40, w ∈ wsX4_wordsOfTerm := by decide +kernel
  refine lv_aload_n hx hb dX4_wordsOfTerm_0 rfl (lv_at hl 0 rfl) ?_
  refine kc_l (wr := ([] : va_W)) (va_runV (As := []) (rest := []) ⟨hx, hb, hml, hown, hts⟩ (c_X4_allWords l G ad _ inp otp tc fc on ze ou wd lo up  h) (cwV 0 hts gX4_wordsOfTerm_X4_allWords rfl rfl rfl (by decide +kernel) ⟨Nat.le_of_ble_eq_true rfl, Nat.le_of_ble_eq_true rfl⟩) (kpV hK hP hD hZ hS hA [0, 1, 2, 3, 4, 5, 6] rfl (by decide) (q0 := 0) (ci := 4) rfl rfl) rfl rfl hl.1 rfl (lv_room (Nat.le_of_ble_eq_true rfl)) dX4_wordsOfTerm_1 ⟨Nat.zero_le _, Nat.zero_le _⟩) hP hD hS hA [0, 1, 2, 3, 4, 5, 6] [] rfl rfl (by decide) (by decide) (fun r1 w29 H locs h hP hD hS => ?_)
  have hP : va_P G.1 vwCl (wS G ad inp otp tc fc on ze ou wd lo up) H := hP
  have hD : va_D A (wS G ad inp otp tc fc on ze ou wd lo up) := hD
  try dsimp only at h
  refine lv_lstore_n (lv' := [(3, .long r1), (0, .ref (ad 0)), (1, .int a1), (2, .int a2)]) hx hb dX4_wordsOfTerm_4 rfl hl (by decide) rfl (fun ls hl => ?_)
  refine lv_iconst (v := (0 : Int32)) hx hb dX4_wordsOfTerm_5 (by decide) ?_
  refine lv_istore (lv' := [(5, .int (0 : Int32)), (3, .long r1), (0, .ref (ad 0)), (1, .int a1), (2, .int a2)]) hx hb dX4_wordsOfTerm_6 hl (by decide) rfl (fun ls hl => ?_)
  obtain ⟨I4, n5, h0, hst6⟩ := h
  refine loopW (σ := Int64 × Int32) (P := fun q H locs ls => va_P G.1 vwCl (wS G ad inp otp tc fc on ze ou wd lo up) H ∧ va_D A (wS G ad inp otp tc fc on ze ou wd lo up) ∧ va_S A s.heap H locs ∧ lv_has ls 6 [(0, .ref (ad 0)), (1, .int a1), (2, .int a2), (3, .long q.1), (5, .int q.2)]) (I := fun n q => I4 n q.1 q.2) n5 (r1, (0 : Int32)) h0 _ _ _ ⟨hP, hD, hS, lv_sub hl [2, 3, 4, 1, 0] rfl⟩ ?_
  rintro n9 ⟨x2, x3⟩ hI ih8 H locs ls ⟨hP, hD, hS, hl⟩
  have hP : va_P G.1 vwCl (wS G ad inp otp tc fc on ze ou wd lo up) H := hP
  have hD : va_D A (wS G ad inp otp tc fc on ze ou wd lo up) := hD
  have hl : lv_has ls 6 [(0, .ref (ad 0)), (1, .int a1), (2, .int a2), (3, .long x2), (5, .int x3)] := hl
  have h := hst6 n9 x2 x3 hI
  refine lv_iload hx hb dX4_wordsOfTerm_8 (lv_at hl 4 rfl) ?_
  refine lv_aload_n hx hb dX4_wordsOfTerm_10 rfl (lv_at hl 0 rfl) ?_
  refine va_get (D := G.1) (ci := 4) (v := .int inp) (C := RX4) (T := TX4) (N := 10) hx hb hts hinX4 hown hK.1 hP 0 rfl rfl 0 (by decide) (hts (.fieldLink RX4 9 "PlaFolder$State" "inputs" "I") (by decide +kernel)) (fun _ h9 => h9) rfl dX4_wordsOfTerm_11 ?_
  refine lv_icmp_ge (tgt := 63) hx hb dX4_wordsOfTerm_14 (by decide) (fun c_10 => ?_) (fun c_10 => ?_)
  · have h := h.1 c_10
    refine lv_lload_n hx hb dX4_wordsOfTerm_63 rfl (lv_at hl 3 rfl) ?_
    exact W.lret hx hb hr (fun t ht hW => ⟨⟨_, (), rfl, h, by rw [ht]; exact hP, hD⟩, hS.F ht⟩) hS.2.2 dX4_wordsOfTerm_64
  · have h := h.2 c_10
    refine lv_iload_n hx hb dX4_wordsOfTerm_17 rfl (lv_at hl 1 rfl) ?_
    refine lv_iload hx hb dX4_wordsOfTerm_18 (lv_at hl 4 rfl) ?_
    refine kc_i (wr := ([0, 1, 2, 3, 4, 5, 6] : List Nat).filterMap (fun i => (wS G ad inp otp tc fc on ze ou wd lo up)[i]?)) (va_runSN (As := [.int a1, .int x3]) (rest := []) ⟨hx, hb, hml, hown, hts⟩ (c_X5_contains l G  _  a1 x3 h) ⟨va_cnB 2 hts gX4_wordsOfTerm_X5_contains_n67 rfl rfl rfl (hK.2.M 12 (q := ("PlaFolder$State", 67, ⟨"PlaFolder", "contains", "(II)Z"⟩, "PlaFolder")) rfl) (hts (.initialized RX5) (by decide +kernel)) (by decide +kernel) ⟨Nat.le_of_ble_eq_true rfl, Nat.le_of_ble_eq_true rfl⟩, hts (.static yX5_contains) (by decide +kernel), trivial⟩ (kpS hK hP hD hZ hS hA [] rfl (by decide)) rfl rfl hl.1 rfl (lv_room (Nat.le_of_ble_eq_true rfl)) dX4_wordsOfTerm_20 ⟨Nat.zero_le _, Nat.zero_le _⟩) hP hD hS hA [] [0, 1, 2, 3, 4, 5, 6] rfl rfl (by decide) (by decide) (fun r11 w28 H locs h hP hD hS => ?_)
    have hP : va_P G.1 vwCl (wS G ad inp otp tc fc on ze ou wd lo up) H := hP
    have hD : va_D A (wS G ad inp otp tc fc on ze ou wd lo up) := hD
    try dsimp only at h
    obtain ⟨J14, hJ27, h⟩ := h
    refine joinW (σ := Int64) (J := fun q => J14 q) (pc := 35) (st := fun q => []) (P := fun q H locs ls => va_P G.1 vwCl (wS G ad inp otp tc fc on ze ou wd lo up) H ∧ va_D A (wS G ad inp otp tc fc on ze ou wd lo up) ∧ va_S A s.heap H locs ∧ lv_has ls 6 [(0, .ref (ad 0)), (1, .int a1), (2, .int a2), (3, .long q), (5, .int x3)]) ?_ (fun join15 => ?_)
    · rintro x13 h H locs ls ⟨hP, hD, hS, hl⟩
      have hP : va_P G.1 vwCl (wS G ad inp otp tc fc on ze ou wd lo up) H := hP
      have hD : va_D A (wS G ad inp otp tc fc on ze ou wd lo up) := hD
      have hl : lv_has ls 6 [(0, .ref (ad 0)), (1, .int a1), (2, .int a2), (3, .long x13), (5, .int x3)] := hl
      have h := hJ27 x13 h
      refine W.eq (g2 := F0 m 35 ls ([])) rfl ?_
      refine lv_iload_n hx hb dX4_wordsOfTerm_35 rfl (lv_at hl 2 rfl) ?_
      refine lv_iload hx hb dX4_wordsOfTerm_36 (lv_at hl 4 rfl) ?_
      refine kc_i (wr := ([0, 1, 2, 3, 4, 5, 6] : List Nat).filterMap (fun i => (wS G ad inp otp tc fc on ze ou wd lo up)[i]?)) (va_runSN (As := [.int a2, .int x3]) (rest := []) ⟨hx, hb, hml, hown, hts⟩ (c_X5_contains l G  _  a2 x3 h) ⟨va_cnB 2 hts gX4_wordsOfTerm_X5_contains_n67 rfl rfl rfl (hK.2.M 12 (q := ("PlaFolder$State", 67, ⟨"PlaFolder", "contains", "(II)Z"⟩, "PlaFolder")) rfl) (hts (.initialized RX5) (by decide +kernel)) (by decide +kernel) ⟨Nat.le_of_ble_eq_true rfl, Nat.le_of_ble_eq_true rfl⟩, hts (.static yX5_contains) (by decide +kernel), trivial⟩ (kpS hK hP hD hZ hS hA [] rfl (by decide)) rfl rfl hl.1 rfl (lv_room (Nat.le_of_ble_eq_true rfl)) dX4_wordsOfTerm_38 ⟨Nat.zero_le _, Nat.zero_le _⟩) hP hD hS hA [] [0, 1, 2, 3, 4, 5, 6] rfl rfl (by decide) (by decide) (fun r16 w25 H locs h hP hD hS => ?_)
      have hP : va_P G.1 vwCl (wS G ad inp otp tc fc on ze ou wd lo up) H := hP
      have hD : va_D A (wS G ad inp otp tc fc on ze ou wd lo up) := hD
      try dsimp only at h
      refine lv_if_eq (tgt := 57) hx hb dX4_wordsOfTerm_41 (by decide) (fun c_17 => ?_) (fun c_17 => ?_)
      · have h := h.1 c_17
        refine lv_iinc (v := (x3 + (1 : Int32))) (lv' := [(5, .int (x3 + (1 : Int32))), (0, .ref (ad 0)), (1, .int a1), (2, .int a2), (3, .long x13)]) hx hb dX4_wordsOfTerm_57 hl (k := 4) rfl rfl (by decide) rfl (fun ls hl => ?_)
        refine lv_goto (tgt := 8) hx hb dX4_wordsOfTerm_60 (by decide) ?_
        obtain ⟨n19, hn18, hI20⟩ := h
        exact ih8 n19 (x13, (x3 + (1 : Int32))) hn18 hI20 _ _ _ ⟨hP, hD, hS, lv_sub hl [1, 2, 3, 4, 0] rfl⟩
      · have h := h.2 c_17
        refine lv_lload_n hx hb dX4_wordsOfTerm_44 rfl (lv_at hl 3 rfl) ?_
        obtain ⟨tW, hZ1, hT1⟩ := id hZ
        refine va_getsN hx hb hZ1 hS hown (hK.2.F 17 (q := ("PlaFolder$State", 71, "PlaFolder", "WORDS_WITH_INPUT", "[J", "PlaFolder")) rfl) (fun _ h9 => h9) dX4_wordsOfTerm_45 ?_
        refine lv_iload hx hb dX4_wordsOfTerm_48 (lv_at hl 4 rfl) ?_
        obtain ⟨hi21, h⟩ := h
        refine va_tl (v := .long (wwL x3.toNatClampNeg)) hx hb hT1 hS hi21 rfl dX4_wordsOfTerm_50 ?_
        refine lv_ldc2 (v := (-1 : Int64)) hx hb hown (hts (.constantLong RX4 74 (-1)) (by decide +kernel)) dX4_wordsOfTerm_51 ?_
        refine lv_lxor hx hb dX4_wordsOfTerm_54 ?_
        refine lv_land hx hb dX4_wordsOfTerm_55 ?_
        refine lv_lstore_n (lv' := [(3, .long (x13 &&& ((wwL x3.toNatClampNeg) ^^^ (-1 : Int64)))), (0, .ref (ad 0)), (1, .int a1), (2, .int a2), (5, .int x3)]) hx hb dX4_wordsOfTerm_56 rfl hl (by decide) rfl (fun ls hl => ?_)
        refine lv_iinc (v := (x3 + (1 : Int32))) (lv' := [(5, .int (x3 + (1 : Int32))), (3, .long (x13 &&& ((wwL x3.toNatClampNeg) ^^^ (-1 : Int64)))), (0, .ref (ad 0)), (1, .int a1), (2, .int a2)]) hx hb dX4_wordsOfTerm_57 hl (k := 4) rfl rfl (by decide) rfl (fun ls hl => ?_)
        refine lv_goto (tgt := 8) hx hb dX4_wordsOfTerm_60 (by decide) ?_
        obtain ⟨n23, hn22, hI24⟩ := h
        exact ih8 n23 ((x13 &&& ((wwL x3.toNatClampNeg) ^^^ (-1 : Int64))), (x3 + (1 : Int32))) hn22 hI24 _ _ _ ⟨hP, hD, hS, lv_sub hl [2, 3, 4, 1, 0] rfl⟩
    · refine lv_if_eq (tgt := 35) hx hb dX4_wordsOfTerm_23 (by decide) (fun c_12 => ?_) (fun c_12 => ?_)
      · have h := h.1 c_12
        exact join15 x2 h _ _ _ ⟨hP, hD, hS, lv_sub hl [0, 1, 2, 3, 4] rfl⟩
      · have h := h.2 c_12
        refine lv_lload_n hx hb dX4_wordsOfTerm_26 rfl (lv_at hl 3 rfl) ?_
        obtain ⟨tW, hZ1, hT1⟩ := id hZ
        refine va_getsN hx hb hZ1 hS hown (hK.2.F 17 (q := ("PlaFolder$State", 71, "PlaFolder", "WORDS_WITH_INPUT", "[J", "PlaFolder")) rfl) (fun _ h9 => h9) dX4_wordsOfTerm_27 ?_
        refine lv_iload hx hb dX4_wordsOfTerm_30 (lv_at hl 4 rfl) ?_
        obtain ⟨hi26, h⟩ := h
        refine va_tl (v := .long (wwL x3.toNatClampNeg)) hx hb hT1 hS hi26 rfl dX4_wordsOfTerm_32 ?_
        refine lv_land hx hb dX4_wordsOfTerm_33 ?_
        refine lv_lstore_n (lv' := [(3, .long (x2 &&& (wwL x3.toNatClampNeg))), (0, .ref (ad 0)), (1, .int a1), (2, .int a2), (5, .int x3)]) hx hb dX4_wordsOfTerm_34 rfl hl (by decide) rfl (fun ls hl => ?_)
        exact join15 (x2 &&& (wwL x3.toNatClampNeg)) h _ _ _ ⟨hP, hD, hS, lv_sub hl [1, 2, 3, 0, 4] rfl⟩
def wp_X4_partAll (fc : Int32) (lo : Nat → Int32) (up : Nat → Int32) (K : Int32 → (Nat → Int32) → (Nat → Int32) → Prop) : Prop :=
 wp_J7_fill_53178 (-1 : Int32) lo (fun (u2 : Nat → Int32) => wp_J7_fill_53178 (-1 : Int32) up (fun (u4 : Nat → Int32) => K (0 : Int32) u2 u4))
abbrev rm_X4_partAll : Room := { frames := 1, cells := 0, slots := 0, locals := 23 }
set_option maxHeartbeats 4000000 in
set_option maxRecDepth 100000 in
theorem c_X4_partAll (l : Launch) (G : GG) (ad : Nat → Nat) (sz : Nat) (inp : Int32) (otp : Int32) (tc : Int32) (fc : Int32) (on : Nat → Int32) (ze : Nat → Int32) (ou : Nat → Int32) (wd : Nat → Int64) (lo : Nat → Int32) (up : Nat → Int32) {K : Int32 → (Nat → Int32) → (Nat → Int32) → Prop} (h : wp_X4_partAll fc lo up K) : CV l yX4_partAll wsX4_partAll rm_X4_partAll G [.ref (ad 0)] (wS G ad inp otp tc fc on ze ou wd lo up) sz (fun u : Int32 × (Nat → Int32) × (Nat → Int32) => wS G ad inp otp tc u.1 on ze ou wd u.2.1 u.2.2) (fun u => K u.1 u.2.1 u.2.2) := by
  refine Met.ofW (cc := cX4_partAll) (maxL := 1) (ret := none) (by decide) rfl ?_
  intro p e s m args below meth c s₁ B hml hv
  obtain ⟨rfl, hsz, hP, hK, hD0, hZ⟩ := hv
  have hx := B.exec
  have hb := B.bytes
  have hr := B.returns
  have hts := atoms_spec (ws := wsX4_partAll) B.pre
  have hown : s.vm.findClass RX4 = some m.cls := findClass_of_methodNamed B.named
  have hlocks := B.notSynchronized
  subst hsz
  have hD := hD0.self (sz := s.heap.size)
  generalize hAe : va_A (wS G ad inp otp tc fc on ze ou wd lo up) s.heap.size = A at hD hZ ⊢
  have hA : ∀ q : Nat, s.heap.size ≤ q → A q := fun q h => by rw [← hAe]; exact Or.inr h
  have hS : va_S A s.heap s.heap [] := va_S.rf
  have hl := lv_entry ([.ref (ad 0)]) (n := 1) (Nat.le_of_ble_eq_true rfl)
  rw [lg_entry_eq]
  generalize (lg_sl ([.ref (ad 0)]) ++ List.replicate (1 - (lg_sl ([.ref (ad 0)])).length) Slot.unset).toArray = ls at hl ⊢
  have hl : lv_has ls 1 [(0, .ref (ad 0))] := hl
  unfold wp_X4_partAll at h
  have hinX4 : ∀ w ∈ wsX40, w ∈ wsX4_partAll := by decide +kernel
  refine lv_aload_n hx hb dX4_partAll_0 rfl (lv_at hl 0 rfl) ?_
  refine va_get (D := G.1) (ci := 4) (v := .ref (ad 5)) (C := RX4) (T := TX4) (N := 10) hx hb hts hinX4 hown hK.1 hP 0 rfl rfl 8 (by decide) (hts (.fieldLink RX4 38 "PlaFolder$State" "lowerOf" "[I") (by decide +kernel)) (fun _ h9 => h9) rfl dX4_partAll_1 ?_
  refine lv_iconst (v := (-1 : Int32)) hx hb dX4_partAll_4 (by decide) ?_
  refine kc_v (wr := ([0, 1, 2, 3, 4, 6] : List Nat).filterMap (fun i => (wS G ad inp otp tc fc on ze ou wd lo up)[i]?)) (va_runS (As := [.ref (ad 5), .int (-1 : Int32)]) (rest := []) ⟨hx, hb, hml, hown, hts⟩ (c_J7_fill_53178 l G (ad 5) _ lo (-1 : Int32) h) (va_cwS 2 hts gX4_partAll_J7_fill_53178 rfl rfl rfl (by decide +kernel) ⟨Nat.le_of_ble_eq_true rfl, Nat.le_of_ble_eq_true rfl⟩) (kpS hK hP hD hZ hS hA [5] rfl (by decide)) rfl rfl hl.1 rfl (lv_room (Nat.le_of_ble_eq_true rfl)) dX4_partAll_5 ⟨Nat.zero_le _, Nat.zero_le _⟩) hP hD hS hA [5] [0, 1, 2, 3, 4, 6] rfl rfl (by decide) (by decide) (fun w6 H locs h hP hD hS => ?_)
  obtain ⟨u2, rfl⟩ : ∃ z, z = w6 := ⟨_, rfl⟩
  have hP : va_P G.1 vwCl (wS G ad inp otp tc fc on ze ou wd u2 up) H := hP.sub [0, 1, 2, 3, 4, 6, 5] rfl
  have hD : va_D A (wS G ad inp otp tc fc on ze ou wd u2 up) := hD.sub [0, 1, 2, 3, 4, 6, 5] (by decide) rfl
  try dsimp only at h
  refine lv_aload_n hx hb dX4_partAll_8 rfl (lv_at hl 0 rfl) ?_
  refine va_get (D := G.1) (ci := 4) (v := .ref (ad 6)) (C := RX4) (T := TX4) (N := 10) hx hb hts hinX4 hown hK.1 hP 0 rfl rfl 9 (by decide) (hts (.fieldLink RX4 41 "PlaFolder$State" "upperOf" "[I") (by decide +kernel)) (fun _ h9 => h9) rfl dX4_partAll_9 ?_
  refine lv_iconst (v := (-1 : Int32)) hx hb dX4_partAll_12 (by decide) ?_
  refine kc_v (wr := ([0, 1, 2, 3, 4, 5] : List Nat).filterMap (fun i => (wS G ad inp otp tc fc on ze ou wd u2 up)[i]?)) (va_runS (As := [.ref (ad 6), .int (-1 : Int32)]) (rest := []) ⟨hx, hb, hml, hown, hts⟩ (c_J7_fill_53178 l G (ad 6) _ up (-1 : Int32) h) (va_cwS 2 hts gX4_partAll_J7_fill_53178 rfl rfl rfl (by decide +kernel) ⟨Nat.le_of_ble_eq_true rfl, Nat.le_of_ble_eq_true rfl⟩) (kpS hK hP hD hZ hS hA [6] rfl (by decide)) rfl rfl hl.1 rfl (lv_room (Nat.le_of_ble_eq_true rfl)) dX4_partAll_13 ⟨Nat.zero_le _, Nat.zero_le _⟩) hP hD hS hA [6] [0, 1, 2, 3, 4, 5] rfl rfl (by decide) (by decide) (fun w5 H locs h hP hD hS => ?_)
  obtain ⟨u4, rfl⟩ : ∃ z, z = w5 := ⟨_, rfl⟩
  have hP : va_P G.1 vwCl (wS G ad inp otp tc fc on ze ou wd u2 u4) H := hP
  have hD : va_D A (wS G ad inp otp tc fc on ze ou wd u2 u4) := hD
  try dsimp only at h
  refine lv_aload_n hx hb dX4_partAll_16 rfl (lv_at hl 0 rfl) ?_
  refine lv_iconst (v := (0 : Int32)) hx hb dX4_partAll_17 (by decide) ?_
  refine va_put (D := G.1) (ci := 4) (v := .int (0 : Int32)) (ty := .int) (C := RX4) (T := TX4) (N := 10) hx hb hts hinX4 tyX4 tyX4_ok nmX4 hown hK.1 hP hD hS 0 rfl rfl 3 (by decide) (hts (.fieldLink RX4 21 "PlaFolder$State" "foldCount" "I") (by decide +kernel)) (fun _ h9 => h9) rfl (by decide +kernel) rfl rfl (Nat.le_of_ble_eq_true rfl) dX4_partAll_18 (fun H locs hP hD hS => ?_)
  have hP : va_P G.1 vwCl (wS G ad inp otp tc (0 : Int32) on ze ou wd u2 u4) H := hP
  have hD : va_D A (wS G ad inp otp tc (0 : Int32) on ze ou wd u2 u4) := hD
  exact W.vret hx hb hr (fun t ht hW => ⟨⟨((0 : Int32), u2, u4), rfl, h, by rw [ht]; exact hP, hD⟩, hS.F ht⟩) hS.2.2 dX4_partAll_21
def wp_X4_resize (a1 : Int32) (a2 : Int32) (inp : Int32) (otp : Int32) (tc : Int32) (fc : Int32) (lo : Nat → Int32) (up : Nat → Int32) (K : Int32 → Int32 → Int32 → Int32 → (Nat → Int32) → (Nat → Int32) → Prop) : Prop :=
 wp_X4_partAll fc lo up (fun (u2 : Int32) (u3 : Nat → Int32) (u4 : Nat → Int32) => K a1 a2 (0 : Int32) u2 u3 u4)
abbrev rm_X4_resize : Room := { frames := 2, cells := 0, slots := 0, locals := 43 }
set_option maxHeartbeats 4000000 in
set_option maxRecDepth 100000 in
theorem c_X4_resize (l : Launch) (G : GG) (ad : Nat → Nat) (sz : Nat) (inp : Int32) (otp : Int32) (tc : Int32) (fc : Int32) (on : Nat → Int32) (ze : Nat → Int32) (ou : Nat → Int32) (wd : Nat → Int64) (lo : Nat → Int32) (up : Nat → Int32) (a1 : Int32) (a2 : Int32) {K : Int32 → Int32 → Int32 → Int32 → (Nat → Int32) → (Nat → Int32) → Prop} (h : wp_X4_resize a1 a2 inp otp tc fc lo up K) : CV l yX4_resize wsX4_resize rm_X4_resize G [.ref (ad 0), .int a1, .int a2] (wS G ad inp otp tc fc on ze ou wd lo up) sz (fun u : Int32 × Int32 × Int32 × Int32 × (Nat → Int32) × (Nat → Int32) => wS G ad u.1 u.2.1 u.2.2.1 u.2.2.2.1 on ze ou wd u.2.2.2.2.1 u.2.2.2.2.2) (fun u => K u.1 u.2.1 u.2.2.1 u.2.2.2.1 u.2.2.2.2.1 u.2.2.2.2.2) := by
  refine Met.ofW (cc := cX4_resize) (maxL := 3) (ret := none) (by decide) rfl ?_
  intro p e s m args below meth c s₁ B hml hv
  obtain ⟨rfl, hsz, hP, hK, hD0, hZ⟩ := hv
  have hx := B.exec
  have hb := B.bytes
  have hr := B.returns
  have hts := atoms_spec (ws := wsX4_resize) B.pre
  have hown : s.vm.findClass RX4 = some m.cls := findClass_of_methodNamed B.named
  have hlocks := B.notSynchronized
  subst hsz
  have hD := hD0.self (sz := s.heap.size)
  generalize hAe : va_A (wS G ad inp otp tc fc on ze ou wd lo up) s.heap.size = A at hD hZ ⊢
  have hA : ∀ q : Nat, s.heap.size ≤ q → A q := fun q h => by rw [← hAe]; exact Or.inr h
  have hS : va_S A s.heap s.heap [] := va_S.rf
  have hl := lv_entry ([.ref (ad 0), .int a1, .int a2]) (n := 3) (Nat.le_of_ble_eq_true rfl)
  rw [lg_entry_eq]
  generalize (lg_sl ([.ref (ad 0), .int a1, .int a2]) ++ List.replicate (3 - (lg_sl ([.ref (ad 0), .int a1, .int a2])).length) Slot.unset).toArray = ls at hl ⊢
  have hl : lv_has ls 3 [(0, .ref (ad 0)), (1, .int a1), (2, .int a2)] := hl
  unfold wp_X4_resize at h
  have hinX4 : ∀ w ∈ wsX40, w ∈ wsX4_resize := by decide +kernel
  refine lv_aload_n hx hb dX4_resize_0 rfl (lv_at hl 0 rfl) ?_
  refine lv_iload_n hx hb dX4_resize_1 rfl (lv_at hl 1 rfl) ?_
  refine va_put (D := G.1) (ci := 4) (v := .int a1) (ty := .int) (C := RX4) (T := TX4) (N := 10) hx hb hts hinX4 tyX4 tyX4_ok nmX4 hown hK.1 hP hD hS 0 rfl rfl 0 (by decide) (hts (.fieldLink RX4 9 "PlaFolder$State" "inputs" "I") (by decide +kernel)) (fun _ h9 => h9) rfl (by decide +kernel) rfl rfl (Nat.le_of_ble_eq_true rfl) dX4_resize_2 (fun H locs hP hD hS => ?_)
  have hP : va_P G.1 vwCl (wS G ad a1 otp tc fc on ze ou wd lo up) H := hP
  have hD : va_D A (wS G ad a1 otp tc fc on ze ou wd lo up) := hD
  refine lv_aload_n hx hb dX4_resize_5 rfl (lv_at hl 0 rfl) ?_
  refine lv_iload_n hx hb dX4_resize_6 rfl (lv_at hl 2 rfl) ?_
  refine va_put (D := G.1) (ci := 4) (v := .int a2) (ty := .int) (C := RX4) (T := TX4) (N := 10) hx hb hts hinX4 tyX4 tyX4_ok nmX4 hown hK.1 hP hD hS 0 rfl rfl 1 (by decide) (hts (.fieldLink RX4 15 "PlaFolder$State" "outputs" "I") (by decide +kernel)) (fun _ h9 => h9) rfl (by decide +kernel) rfl rfl (Nat.le_of_ble_eq_true rfl) dX4_resize_7 (fun H locs hP hD hS => ?_)
  have hP : va_P G.1 vwCl (wS G ad a1 a2 tc fc on ze ou wd lo up) H := hP
  have hD : va_D A (wS G ad a1 a2 tc fc on ze ou wd lo up) := hD
  refine lv_aload_n hx hb dX4_resize_10 rfl (lv_at hl 0 rfl) ?_
  refine lv_iconst (v := (0 : Int32)) hx hb dX4_resize_11 (by decide) ?_
  refine va_put (D := G.1) (ci := 4) (v := .int (0 : Int32)) (ty := .int) (C := RX4) (T := TX4) (N := 10) hx hb hts hinX4 tyX4 tyX4_ok nmX4 hown hK.1 hP hD hS 0 rfl rfl 2 (by decide) (hts (.fieldLink RX4 18 "PlaFolder$State" "termCount" "I") (by decide +kernel)) (fun _ h9 => h9) rfl (by decide +kernel) rfl rfl (Nat.le_of_ble_eq_true rfl) dX4_resize_12 (fun H locs hP hD hS => ?_)
  have hP : va_P G.1 vwCl (wS G ad a1 a2 (0 : Int32) fc on ze ou wd lo up) H := hP
  have hD : va_D A (wS G ad a1 a2 (0 : Int32) fc on ze ou wd lo up) := hD
  refine lv_aload_n hx hb dX4_resize_15 rfl (lv_at hl 0 rfl) ?_
  refine kc_v (wr := ([] : va_W)) (va_runV (As := []) (rest := []) ⟨hx, hb, hml, hown, hts⟩ (c_X4_partAll l G ad _ a1 a2 (0 : Int32) fc on ze ou wd lo up  h) (cwV 0 hts gX4_resize_X4_partAll rfl rfl rfl (by decide +kernel) ⟨Nat.le_of_ble_eq_true rfl, Nat.le_of_ble_eq_true rfl⟩) (kpV hK hP hD hZ hS hA [0, 1, 2, 3, 4, 5, 6] rfl (by decide) (q0 := 0) (ci := 4) rfl rfl) rfl rfl hl.1 rfl (lv_room (Nat.le_of_ble_eq_true rfl)) dX4_resize_16 ⟨Nat.zero_le _, Nat.zero_le _⟩) hP hD hS hA [0, 1, 2, 3, 4, 5, 6] [] rfl rfl (by decide) (by decide) (fun w5 H locs h hP hD hS => ?_)
  obtain ⟨u2, u3, u4⟩ := w5
  have hP : va_P G.1 vwCl (wS G ad a1 a2 (0 : Int32) u2 on ze ou wd u3 u4) H := hP
  have hD : va_D A (wS G ad a1 a2 (0 : Int32) u2 on ze ou wd u3 u4) := hD
  try dsimp only at h
  exact W.vret hx hb hr (fun t ht hW => ⟨⟨(a1, a2, (0 : Int32), u2, u3, u4), rfl, h, by rw [ht]; exact hP, hD⟩, hS.F ht⟩) hS.2.2 dX4_resize_19
def wp_X4_appendTerm (a1 : Int32) (a2 : Int32) (a3 : Int32) (inp : Int32) (tc : Int32) (fc : Int32) (on : Nat → Int32) (ze : Nat → Int32) (ou : Nat → Int32) (wd : Nat → Int64) (lo : Nat → Int32) (up : Nat → Int32) (K : Int32 → Int32 → (Nat → Int32) → (Nat → Int32) → (Nat → Int32) → (Nat → Int64) → (Nat → Int32) → (Nat → Int32) → Prop) : Prop :=
 ((tc < (nI 10) → (vp_in tc 10 ∧ (vp_in tc 10 ∧ (vp_in tc 10 ∧ wp_X4_wordsOfTerm a1 a2 inp (fun (r5 : Int64) => (vp_in tc 10 ∧ wp_X4_partAll fc lo up (fun (u8 : Int32) (u9 : Nat → Int32) (u10 : Nat → Int32) => K (tc + (1 : Int32)) u8 (upd on tc.toNatClampNeg a1) (upd ze tc.toNatClampNeg a2) (upd ou tc.toNatClampNeg a3) (vp_updL wd tc.toNatClampNeg r5) u9 u10))))))) ∧
 (¬ (tc < (nI 10)) → K tc fc on ze ou wd lo up))
abbrev rm_X4_appendTerm : Room := { frames := 2, cells := 0, slots := 0, locals := 46 }
set_option maxHeartbeats 4000000 in
set_option maxRecDepth 100000 in
theorem c_X4_appendTerm (l : Launch) (G : GG) (ad : Nat → Nat) (sz : Nat) (inp : Int32) (otp : Int32) (tc : Int32) (fc : Int32) (on : Nat → Int32) (ze : Nat → Int32) (ou : Nat → Int32) (wd : Nat → Int64) (lo : Nat → Int32) (up : Nat → Int32) (a1 : Int32) (a2 : Int32) (a3 : Int32) {K : Int32 → Int32 → (Nat → Int32) → (Nat → Int32) → (Nat → Int32) → (Nat → Int64) → (Nat → Int32) → (Nat → Int32) → Prop} (h : wp_X4_appendTerm a1 a2 a3 inp tc fc on ze ou wd lo up K) : CV l yX4_appendTerm wsX4_appendTerm rm_X4_appendTerm G [.ref (ad 0), .int a1, .int a2, .int a3] (wS G ad inp otp tc fc on ze ou wd lo up) sz (fun u : Int32 × Int32 × (Nat → Int32) × (Nat → Int32) × (Nat → Int32) × (Nat → Int64) × (Nat → Int32) × (Nat → Int32) => wS G ad inp otp u.1 u.2.1 u.2.2.1 u.2.2.2.1 u.2.2.2.2.1 u.2.2.2.2.2.1 u.2.2.2.2.2.2.1 u.2.2.2.2.2.2.2) (fun u => K u.1 u.2.1 u.2.2.1 u.2.2.2.1 u.2.2.2.2.1 u.2.2.2.2.2.1 u.2.2.2.2.2.2.1 u.2.2.2.2.2.2.2) := by
  refine Met.ofW (cc := cX4_appendTerm) (maxL := 4) (ret := none) (by decide) rfl ?_
  intro p e s m args below meth c s₁ B hml hv
  obtain ⟨rfl, hsz, hP, hK, hD0, hZ⟩ := hv
  have hx := B.exec
  have hb := B.bytes
  have hr := B.returns
  have hts := atoms_spec (ws := wsX4_appendTerm) B.pre
  have hown : s.vm.findClass RX4 = some m.cls := findClass_of_methodNamed B.named
  have hlocks := B.notSynchronized
  subst hsz
  have hD := hD0.self (sz := s.heap.size)
  generalize hAe : va_A (wS G ad inp otp tc fc on ze ou wd lo up) s.heap.size = A at hD hZ ⊢
  have hA : ∀ q : Nat, s.heap.size ≤ q → A q := fun q h => by rw [← hAe]; exact Or.inr h
  have hS : va_S A s.heap s.heap [] := va_S.rf
  have hl := lv_entry ([.ref (ad 0), .int a1, .int a2, .int a3]) (n := 4) (Nat.le_of_ble_eq_true rfl)
  rw [lg_entry_eq]
  generalize (lg_sl ([.ref (ad 0), .int a1, .int a2, .int a3]) ++ List.replicate (4 - (lg_sl ([.ref (ad 0), .int a1, .int a2, .int a3])).length) Slot.unset).toArray = ls at hl ⊢
  have hl : lv_has ls 4 [(0, .ref (ad 0)), (1, .int a1), (2, .int a2), (3, .int a3)] := hl
  unfold wp_X4_appendTerm at h
  have hinX4 : ∀ w ∈ wsX40, w ∈ wsX4_appendTerm := by decide +kernel
  refine lv_aload_n hx hb dX4_appendTerm_0 rfl (lv_at hl 0 rfl) ?_
  refine va_get (D := G.1) (ci := 4) (v := .int tc) (C := RX4) (T := TX4) (N := 10) hx hb hts hinX4 hown hK.1 hP 0 rfl rfl 2 (by decide) (hts (.fieldLink RX4 18 "PlaFolder$State" "termCount" "I") (by decide +kernel)) (fun _ h9 => h9) rfl dX4_appendTerm_1 ?_
  refine lv_bipush (v := (nI 10)) hx hb dX4_appendTerm_4 (by decide) ?_
  refine lv_icmp_lt (tgt := 10) hx hb dX4_appendTerm_6 (by decide) (fun c_1 => ?_) (fun c_1 => ?_)
  · have h := h.1 c_1
    refine lv_aload_n hx hb dX4_appendTerm_10 rfl (lv_at hl 0 rfl) ?_
    refine va_get (D := G.1) (ci := 4) (v := .ref (ad 1)) (C := RX4) (T := TX4) (N := 10) hx hb hts hinX4 hown hK.1 hP 0 rfl rfl 4 (by decide) (hts (.fieldLink RX4 24 "PlaFolder$State" "ones" "[I") (by decide +kernel)) (fun _ h9 => h9) rfl dX4_appendTerm_11 ?_
    refine lv_aload_n hx hb dX4_appendTerm_14 rfl (lv_at hl 0 rfl) ?_
    refine va_get (D := G.1) (ci := 4) (v := .int tc) (C := RX4) (T := TX4) (N := 10) hx hb hts hinX4 hown hK.1 hP 0 rfl rfl 2 (by decide) (hts (.fieldLink RX4 18 "PlaFolder$State" "termCount" "I") (by decide +kernel)) (fun _ h9 => h9) rfl dX4_appendTerm_15 ?_
    refine lv_iload_n hx hb dX4_appendTerm_18 rfl (lv_at hl 1 rfl) ?_
    obtain ⟨hi2, h⟩ := h
    refine x_iast hx hb hK hP hD hS 1 rfl hi2 rfl dX4_appendTerm_19 (fun H locs hP hD hS => ?_)
    have hP : va_P G.1 vwCl (wS G ad inp otp tc fc (upd on tc.toNatClampNeg a1) ze ou wd lo up) H := hP
    have hD : va_D A (wS G ad inp otp tc fc (upd on tc.toNatClampNeg a1) ze ou wd lo up) := hD
    refine lv_aload_n hx hb dX4_appendTerm_20 rfl (lv_at hl 0 rfl) ?_
    refine va_get (D := G.1) (ci := 4) (v := .ref (ad 2)) (C := RX4) (T := TX4) (N := 10) hx hb hts hinX4 hown hK.1 hP 0 rfl rfl 5 (by decide) (hts (.fieldLink RX4 28 "PlaFolder$State" "zeros" "[I") (by decide +kernel)) (fun _ h9 => h9) rfl dX4_appendTerm_21 ?_
    refine lv_aload_n hx hb dX4_appendTerm_24 rfl (lv_at hl 0 rfl) ?_
    refine va_get (D := G.1) (ci := 4) (v := .int tc) (C := RX4) (T := TX4) (N := 10) hx hb hts hinX4 hown hK.1 hP 0 rfl rfl 2 (by decide) (hts (.fieldLink RX4 18 "PlaFolder$State" "termCount" "I") (by decide +kernel)) (fun _ h9 => h9) rfl dX4_appendTerm_25 ?_
    refine lv_iload_n hx hb dX4_appendTerm_28 rfl (lv_at hl 2 rfl) ?_
    obtain ⟨hi3, h⟩ := h
    refine x_iast hx hb hK hP hD hS 2 rfl hi3 rfl dX4_appendTerm_29 (fun H locs hP hD hS => ?_)
    have hP : va_P G.1 vwCl (wS G ad inp otp tc fc (upd on tc.toNatClampNeg a1) (upd ze tc.toNatClampNeg a2) ou wd lo up) H := hP
    have hD : va_D A (wS G ad inp otp tc fc (upd on tc.toNatClampNeg a1) (upd ze tc.toNatClampNeg a2) ou wd lo up) := hD
    refine lv_aload_n hx hb dX4_appendTerm_30 rfl (lv_at hl 0 rfl) ?_
    refine va_get (D := G.1) (ci := 4) (v := .ref (ad 3)) (C := RX4) (T := TX4) (N := 10) hx hb hts hinX4 hown hK.1 hP 0 rfl rfl 6 (by decide) (hts (.fieldLink RX4 31 "PlaFolder$State" "outs" "[I") (by decide +kernel)) (fun _ h9 => h9) rfl dX4_appendTerm_31 ?_
    refine lv_aload_n hx hb dX4_appendTerm_34 rfl (lv_at hl 0 rfl) ?_
    refine va_get (D := G.1) (ci := 4) (v := .int tc) (C := RX4) (T := TX4) (N := 10) hx hb hts hinX4 hown hK.1 hP 0 rfl rfl 2 (by decide) (hts (.fieldLink RX4 18 "PlaFolder$State" "termCount" "I") (by decide +kernel)) (fun _ h9 => h9) rfl dX4_appendTerm_35 ?_
    refine lv_iload_n hx hb dX4_appendTerm_38 rfl (lv_at hl 3 rfl) ?_
    obtain ⟨hi4, h⟩ := h
    refine x_iast hx hb hK hP hD hS 3 rfl hi4 rfl dX4_appendTerm_39 (fun H locs hP hD hS => ?_)
    have hP : va_P G.1 vwCl (wS G ad inp otp tc fc (upd on tc.toNatClampNeg a1) (upd ze tc.toNatClampNeg a2) (upd ou tc.toNatClampNeg a3) wd lo up) H := hP
    have hD : va_D A (wS G ad inp otp tc fc (upd on tc.toNatClampNeg a1) (upd ze tc.toNatClampNeg a2) (upd ou tc.toNatClampNeg a3) wd lo up) := hD
    refine lv_aload_n hx hb dX4_appendTerm_40 rfl (lv_at hl 0 rfl) ?_
    refine va_get (D := G.1) (ci := 4) (v := .ref (ad 4)) (C := RX4) (T := TX4) (N := 10) hx hb hts hinX4 hown hK.1 hP 0 rfl rfl 7 (by decide) (hts (.fieldLink RX4 34 "PlaFolder$State" "words" "[J") (by decide +kernel)) (fun _ h9 => h9) rfl dX4_appendTerm_41 ?_
    refine lv_aload_n hx hb dX4_appendTerm_44 rfl (lv_at hl 0 rfl) ?_
    refine va_get (D := G.1) (ci := 4) (v := .int tc) (C := RX4) (T := TX4) (N := 10) hx hb hts hinX4 hown hK.1 hP 0 rfl rfl 2 (by decide) (hts (.fieldLink RX4 18 "PlaFolder$State" "termCount" "I") (by decide +kernel)) (fun _ h9 => h9) rfl dX4_appendTerm_45 ?_
    refine lv_aload_n hx hb dX4_appendTerm_48 rfl (lv_at hl 0 rfl) ?_
    refine lv_iload_n hx hb dX4_appendTerm_49 rfl (lv_at hl 1 rfl) ?_
    refine lv_iload_n hx hb dX4_appendTerm_50 rfl (lv_at hl 2 rfl) ?_
    refine kc_l (wr := ([] : va_W)) (va_runV (As := [.int a1, .int a2]) (rest := [.int tc, .ref (ad 4)]) ⟨hx, hb, hml, hown, hts⟩ (c_X4_wordsOfTerm l G ad _ inp otp tc fc (upd on tc.toNatClampNeg a1) (upd ze tc.toNatClampNeg a2) (upd ou tc.toNatClampNeg a3) wd lo up a1 a2 h) (cwV 2 hts gX4_appendTerm_X4_wordsOfTerm rfl rfl rfl (by decide +kernel) ⟨Nat.le_of_ble_eq_true rfl, Nat.le_of_ble_eq_true rfl⟩) (kpV hK hP hD hZ hS hA [0, 1, 2, 3, 4, 5, 6] rfl (by decide) (q0 := 0) (ci := 4) rfl rfl) rfl rfl hl.1 rfl (lv_room (Nat.le_of_ble_eq_true rfl)) dX4_appendTerm_51 ⟨Nat.zero_le _, Nat.zero_le _⟩) hP hD hS hA [0, 1, 2, 3, 4, 5, 6] [] rfl rfl (by decide) (by decide) (fun r5 w12 H locs h hP hD hS => ?_)
    have hP : va_P G.1 vwCl (wS G ad inp otp tc fc (upd on tc.toNatClampNeg a1) (upd ze tc.toNatClampNeg a2) (upd ou tc.toNatClampNeg a3) wd lo up) H := hP
    have hD : va_D A (wS G ad inp otp tc fc (upd on tc.toNatClampNeg a1) (upd ze tc.toNatClampNeg a2) (upd ou tc.toNatClampNeg a3) wd lo up) := hD
    try dsimp only at h
    obtain ⟨hi6, h⟩ := h
    refine x_last hx hb hK hP hD hS 4 rfl hi6 rfl dX4_appendTerm_54 (fun H locs hP hD hS => ?_)
    have hP : va_P G.1 vwCl (wS G ad inp otp tc fc (upd on tc.toNatClampNeg a1) (upd ze tc.toNatClampNeg a2) (upd ou tc.toNatClampNeg a3) (vp_updL wd tc.toNatClampNeg r5) lo up) H := hP
    have hD : va_D A (wS G ad inp otp tc fc (upd on tc.toNatClampNeg a1) (upd ze tc.toNatClampNeg a2) (upd ou tc.toNatClampNeg a3) (vp_updL wd tc.toNatClampNeg r5) lo up) := hD
    refine lv_aload_n hx hb dX4_appendTerm_55 rfl (lv_at hl 0 rfl) ?_
    refine lv_dup hx hb dX4_appendTerm_56 rfl ?_
    refine va_get (D := G.1) (ci := 4) (v := .int tc) (C := RX4) (T := TX4) (N := 10) hx hb hts hinX4 hown hK.1 hP 0 rfl rfl 2 (by decide) (hts (.fieldLink RX4 18 "PlaFolder$State" "termCount" "I") (by decide +kernel)) (fun _ h9 => h9) rfl dX4_appendTerm_57 ?_
    refine lv_iconst (v := (1 : Int32)) hx hb dX4_appendTerm_60 (by decide) ?_
    refine lv_iadd hx hb dX4_appendTerm_61 ?_
    refine va_put (D := G.1) (ci := 4) (v := .int (tc + (1 : Int32))) (ty := .int) (C := RX4) (T := TX4) (N := 10) hx hb hts hinX4 tyX4 tyX4_ok nmX4 hown hK.1 hP hD hS 0 rfl rfl 2 (by decide) (hts (.fieldLink RX4 18 "PlaFolder$State" "termCount" "I") (by decide +kernel)) (fun _ h9 => h9) rfl (by decide +kernel) rfl rfl (Nat.le_of_ble_eq_true rfl) dX4_appendTerm_62 (fun H locs hP hD hS => ?_)
    have hP : va_P G.1 vwCl (wS G ad inp otp (tc + (1 : Int32)) fc (upd on tc.toNatClampNeg a1) (upd ze tc.toNatClampNeg a2) (upd ou tc.toNatClampNeg a3) (vp_updL wd tc.toNatClampNeg r5) lo up) H := hP
    have hD : va_D A (wS G ad inp otp (tc + (1 : Int32)) fc (upd on tc.toNatClampNeg a1) (upd ze tc.toNatClampNeg a2) (upd ou tc.toNatClampNeg a3) (vp_updL wd tc.toNatClampNeg r5) lo up) := hD
    refine lv_aload_n hx hb dX4_appendTerm_65 rfl (lv_at hl 0 rfl) ?_
    refine kc_v (wr := ([] : va_W)) (va_runV (As := []) (rest := []) ⟨hx, hb, hml, hown, hts⟩ (c_X4_partAll l G ad _ inp otp (tc + (1 : Int32)) fc (upd on tc.toNatClampNeg a1) (upd ze tc.toNatClampNeg a2) (upd ou tc.toNatClampNeg a3) (vp_updL wd tc.toNatClampNeg r5) lo up  h) (cwV 0 hts gX4_appendTerm_X4_partAll rfl rfl rfl (by decide +kernel) ⟨Nat.le_of_ble_eq_true rfl, Nat.le_of_ble_eq_true rfl⟩) (kpV hK hP hD hZ hS hA [0, 1, 2, 3, 4, 5, 6] rfl (by decide) (q0 := 0) (ci := 4) rfl rfl) rfl rfl hl.1 rfl (lv_room (Nat.le_of_ble_eq_true rfl)) dX4_appendTerm_66 ⟨Nat.zero_le _, Nat.zero_le _⟩) hP hD hS hA [0, 1, 2, 3, 4, 5, 6] [] rfl rfl (by decide) (by decide) (fun w11 H locs h hP hD hS => ?_)
    obtain ⟨u8, u9, u10⟩ := w11
    have hP : va_P G.1 vwCl (wS G ad inp otp (tc + (1 : Int32)) u8 (upd on tc.toNatClampNeg a1) (upd ze tc.toNatClampNeg a2) (upd ou tc.toNatClampNeg a3) (vp_updL wd tc.toNatClampNeg r5) u9 u10) H := hP
    have hD : va_D A (wS G ad inp otp (tc + (1 : Int32)) u8 (upd on tc.toNatClampNeg a1) (upd ze tc.toNatClampNeg a2) (upd ou tc.toNatClampNeg a3) (vp_updL wd tc.toNatClampNeg r5) u9 u10) := hD
    try dsimp only at h
    exact W.vret hx hb hr (fun t ht hW => ⟨⟨((tc + (1 : Int32)), u8, (upd on tc.toNatClampNeg a1), (upd ze tc.toNatClampNeg a2), (upd ou tc.toNatClampNeg a3), (vp_updL wd tc.toNatClampNeg r5), u9, u10), rfl, h, by rw [ht]; exact hP, hD⟩, hS.F ht⟩) hS.2.2 dX4_appendTerm_69
  · have h := h.2 c_1
    exact W.vret hx hb hr (fun t ht hW => ⟨⟨(tc, fc, on, ze, ou, wd, lo, up), rfl, h, by rw [ht]; exact hP, hD⟩, hS.F ht⟩) hS.2.2 dX4_appendTerm_9
def wp_X4_dropTerm (a1 : Int32) (tc : Int32) (fc : Int32) (on : Nat → Int32) (ze : Nat → Int32) (ou : Nat → Int32) (wd : Nat → Int64) (lo : Nat → Int32) (up : Nat → Int32) (K : Int32 → Int32 → (Nat → Int32) → (Nat → Int32) → (Nat → Int32) → (Nat → Int64) → (Nat → Int32) → (Nat → Int32) → Prop) : Prop :=
 (Lp5 (a1 + (1 : Int32)) on ze ou wd (fun (x1 : Int32) (z2 : Nat → Int32) (z3 : Nat → Int32) (z4 : Nat → Int32) (z5 : Nat → Int64) (J9 : Int32 → (Nat → Int32) → (Nat → Int32) → (Nat → Int32) → (Nat → Int64) → Prop) => ((tc ≤ x1 → wp_X4_partAll fc lo up (fun (u14 : Int32) (u15 : Nat → Int32) (u16 : Nat → Int32) => K (tc - (1 : Int32)) u14 z2 z3 z4 z5 u15 u16)) ∧
 (¬ (tc ≤ x1) → (vp_in x1 10 ∧ (vp_in (x1 - (1 : Int32)) 10 ∧ (vp_in x1 10 ∧ (vp_in (x1 - (1 : Int32)) 10 ∧ (vp_in x1 10 ∧ (vp_in (x1 - (1 : Int32)) 10 ∧ (vp_in x1 10 ∧ (vp_in (x1 - (1 : Int32)) 10 ∧ J9 (x1 + (1 : Int32)) (upd z2 ((x1 - (1 : Int32)).toNatClampNeg) (z2 x1.toNatClampNeg)) (upd z3 ((x1 - (1 : Int32)).toNatClampNeg) (z3 x1.toNatClampNeg)) (upd z4 ((x1 - (1 : Int32)).toNatClampNeg) (z4 x1.toNatClampNeg)) (vp_updL z5 ((x1 - (1 : Int32)).toNatClampNeg) (z5 x1.toNatClampNeg))))))))))))))
abbrev rm_X4_dropTerm : Room := { frames := 2, cells := 0, slots := 0, locals := 43 }
set_option maxHeartbeats 4000000 in
set_option maxRecDepth 100000 in
theorem c_X4_dropTerm (l : Launch) (G : GG) (ad : Nat → Nat) (sz : Nat) (inp : Int32) (otp : Int32) (tc : Int32) (fc : Int32) (on : Nat → Int32) (ze : Nat → Int32) (ou : Nat → Int32) (wd : Nat → Int64) (lo : Nat → Int32) (up : Nat → Int32) (a1 : Int32) {K : Int32 → Int32 → (Nat → Int32) → (Nat → Int32) → (Nat → Int32) → (Nat → Int64) → (Nat → Int32) → (Nat → Int32) → Prop} (h : wp_X4_dropTerm a1 tc fc on ze ou wd lo up K) : CV l yX4_dropTerm wsX4_dropTerm rm_X4_dropTerm G [.ref (ad 0), .int a1] (wS G ad inp otp tc fc on ze ou wd lo up) sz (fun u : Int32 × Int32 × (Nat → Int32) × (Nat → Int32) × (Nat → Int32) × (Nat → Int64) × (Nat → Int32) × (Nat → Int32) => wS G ad inp otp u.1 u.2.1 u.2.2.1 u.2.2.2.1 u.2.2.2.2.1 u.2.2.2.2.2.1 u.2.2.2.2.2.2.1 u.2.2.2.2.2.2.2) (fun u => K u.1 u.2.1 u.2.2.1 u.2.2.2.1 u.2.2.2.2.1 u.2.2.2.2.2.1 u.2.2.2.2.2.2.1 u.2.2.2.2.2.2.2) := by
  refine Met.ofW (cc := cX4_dropTerm) (maxL := 3) (ret := none) (by decide) rfl ?_
  intro p e s m args below meth c s₁ B hml hv
  obtain ⟨rfl, hsz, hP, hK, hD0, hZ⟩ := hv
  have hx := B.exec
  have hb := B.bytes
  have hr := B.returns
  have hts := atoms_spec (ws := wsX4_dropTerm) B.pre
  have hown : s.vm.findClass RX4 = some m.cls := findClass_of_methodNamed B.named
  have hlocks := B.notSynchronized
  subst hsz
  have hD := hD0.self (sz := s.heap.size)
  generalize hAe : va_A (wS G ad inp otp tc fc on ze ou wd lo up) s.heap.size = A at hD hZ ⊢
  have hA : ∀ q : Nat, s.heap.size ≤ q → A q := fun q h => by rw [← hAe]; exact Or.inr h
  have hS : va_S A s.heap s.heap [] := va_S.rf
  have hl := lv_entry ([.ref (ad 0), .int a1]) (n := 3) (Nat.le_of_ble_eq_true rfl)
  rw [lg_entry_eq]
  generalize (lg_sl ([.ref (ad 0), .int a1]) ++ List.replicate (3 - (lg_sl ([.ref (ad 0), .int a1])).length) Slot.unset).toArray = ls at hl ⊢
  have hl : lv_has ls 3 [(0, .ref (ad 0)), (1, .int a1)] := hl
  unfold wp_X4_dropTerm at h
  have hinX4 : ∀ w ∈ wsX40, w ∈ wsX4_dropTerm := by decide +kernel
  refine lv_iload_n hx hb dX4_dropTerm_0 rfl (lv_at hl 1 rfl) ?_
  refine lv_iconst (v := (1 : Int32)) hx hb dX4_dropTerm_1 (by decide) ?_
  refine lv_iadd hx hb dX4_dropTerm_2 ?_
  refine lv_istore_n (lv' := [(2, .int (a1 + (1 : Int32))), (0, .ref (ad 0)), (1, .int a1)]) hx hb dX4_dropTerm_3 rfl hl (by decide) rfl (fun ls hl => ?_)
  obtain ⟨I6, n7, h0, hst8⟩ := h
  refine loopW (σ := Int32 × (Nat → Int32) × (Nat → Int32) × (Nat → Int32) × (Nat → Int64)) (P := fun q H locs ls => va_P G.1 vwCl (wS G ad inp otp tc fc q.2.1 q.2.2.1 q.2.2.2.1 q.2.2.2.2 lo up) H ∧ va_D A (wS G ad inp otp tc fc q.2.1 q.2.2.1 q.2.2.2.1 q.2.2.2.2 lo up) ∧ va_S A s.heap H locs ∧ lv_has ls 3 [(0, .ref (ad 0)), (2, .int q.1)]) (I := fun n q => I6 n q.1 q.2.1 q.2.2.1 q.2.2.2.1 q.2.2.2.2) n7 ((a1 + (1 : Int32)), on, ze, ou, wd) h0 _ _ _ ⟨hP, hD, hS, lv_sub hl [1, 0] rfl⟩ ?_
  rintro n11 ⟨x1, z2, z3, z4, z5⟩ hI ih10 H locs ls ⟨hP, hD, hS, hl⟩
  have hP : va_P G.1 vwCl (wS G ad inp otp tc fc z2 z3 z4 z5 lo up) H := hP
  have hD : va_D A (wS G ad inp otp tc fc z2 z3 z4 z5 lo up) := hD
  have hl : lv_has ls 3 [(0, .ref (ad 0)), (2, .int x1)] := hl
  have h := hst8 n11 x1 z2 z3 z4 z5 hI
  refine lv_iload_n hx hb dX4_dropTerm_4 rfl (lv_at hl 1 rfl) ?_
  refine lv_aload_n hx hb dX4_dropTerm_5 rfl (lv_at hl 0 rfl) ?_
  refine va_get (D := G.1) (ci := 4) (v := .int tc) (C := RX4) (T := TX4) (N := 10) hx hb hts hinX4 hown hK.1 hP 0 rfl rfl 2 (by decide) (hts (.fieldLink RX4 18 "PlaFolder$State" "termCount" "I") (by decide +kernel)) (fun _ h9 => h9) rfl dX4_dropTerm_6 ?_
  refine lv_icmp_ge (tgt := 74) hx hb dX4_dropTerm_9 (by decide) (fun c_12 => ?_) (fun c_12 => ?_)
  · have h := h.1 c_12
    refine lv_aload_n hx hb dX4_dropTerm_74 rfl (lv_at hl 0 rfl) ?_
    refine lv_dup hx hb dX4_dropTerm_75 rfl ?_
    refine va_get (D := G.1) (ci := 4) (v := .int tc) (C := RX4) (T := TX4) (N := 10) hx hb hts hinX4 hown hK.1 hP 0 rfl rfl 2 (by decide) (hts (.fieldLink RX4 18 "PlaFolder$State" "termCount" "I") (by decide +kernel)) (fun _ h9 => h9) rfl dX4_dropTerm_76 ?_
    refine lv_iconst (v := (1 : Int32)) hx hb dX4_dropTerm_79 (by decide) ?_
    refine lv_isub hx hb dX4_dropTerm_80 ?_
    refine va_put (D := G.1) (ci := 4) (v := .int (tc - (1 : Int32))) (ty := .int) (C := RX4) (T := TX4) (N := 10) hx hb hts hinX4 tyX4 tyX4_ok nmX4 hown hK.1 hP hD hS 0 rfl rfl 2 (by decide) (hts (.fieldLink RX4 18 "PlaFolder$State" "termCount" "I") (by decide +kernel)) (fun _ h9 => h9) rfl (by decide +kernel) rfl rfl (Nat.le_of_ble_eq_true rfl) dX4_dropTerm_81 (fun H locs hP hD hS => ?_)
    have hP : va_P G.1 vwCl (wS G ad inp otp (tc - (1 : Int32)) fc z2 z3 z4 z5 lo up) H := hP
    have hD : va_D A (wS G ad inp otp (tc - (1 : Int32)) fc z2 z3 z4 z5 lo up) := hD
    refine lv_aload_n hx hb dX4_dropTerm_84 rfl (lv_at hl 0 rfl) ?_
    refine kc_v (wr := ([] : va_W)) (va_runV (As := []) (rest := []) ⟨hx, hb, hml, hown, hts⟩ (c_X4_partAll l G ad _ inp otp (tc - (1 : Int32)) fc z2 z3 z4 z5 lo up  h) (cwV 0 hts gX4_dropTerm_X4_partAll rfl rfl rfl (by decide +kernel) ⟨Nat.le_of_ble_eq_true rfl, Nat.le_of_ble_eq_true rfl⟩) (kpV hK hP hD hZ hS hA [0, 1, 2, 3, 4, 5, 6] rfl (by decide) (q0 := 0) (ci := 4) rfl rfl) rfl rfl hl.1 rfl (lv_room (Nat.le_of_ble_eq_true rfl)) dX4_dropTerm_85 ⟨Nat.zero_le _, Nat.zero_le _⟩) hP hD hS hA [0, 1, 2, 3, 4, 5, 6] [] rfl rfl (by decide) (by decide) (fun w17 H locs h hP hD hS => ?_)
    obtain ⟨u14, u15, u16⟩ := w17
    have hP : va_P G.1 vwCl (wS G ad inp otp (tc - (1 : Int32)) u14 z2 z3 z4 z5 u15 u16) H := hP
    have hD : va_D A (wS G ad inp otp (tc - (1 : Int32)) u14 z2 z3 z4 z5 u15 u16) := hD
    try dsimp only at h
    exact W.vret hx hb hr (fun t ht hW => ⟨⟨((tc - (1 : Int32)), u14, z2, z3, z4, z5, u15, u16), rfl, h, by rw [ht]; exact hP, hD⟩, hS.F ht⟩) hS.2.2 dX4_dropTerm_88
  · have h := h.2 c_12
    refine lv_aload_n hx hb dX4_dropTerm_12 rfl (lv_at hl 0 rfl) ?_
    refine va_get (D := G.1) (ci := 4) (v := .ref (ad 1)) (C := RX4) (T := TX4) (N := 10) hx hb hts hinX4 hown hK.1 hP 0 rfl rfl 4 (by decide) (hts (.fieldLink RX4 24 "PlaFolder$State" "ones" "[I") (by decide +kernel)) (fun _ h9 => h9) rfl dX4_dropTerm_13 ?_
    refine lv_iload_n hx hb dX4_dropTerm_16 rfl (lv_at hl 1 rfl) ?_
    refine lv_iconst (v := (1 : Int32)) hx hb dX4_dropTerm_17 (by decide) ?_
    refine lv_isub hx hb dX4_dropTerm_18 ?_
    refine lv_aload_n hx hb dX4_dropTerm_19 rfl (lv_at hl 0 rfl) ?_
    refine va_get (D := G.1) (ci := 4) (v := .ref (ad 1)) (C := RX4) (T := TX4) (N := 10) hx hb hts hinX4 hown hK.1 hP 0 rfl rfl 4 (by decide) (hts (.fieldLink RX4 24 "PlaFolder$State" "ones" "[I") (by decide +kernel)) (fun _ h9 => h9) rfl dX4_dropTerm_20 ?_
    refine lv_iload_n hx hb dX4_dropTerm_23 rfl (lv_at hl 1 rfl) ?_
    obtain ⟨hi18, h⟩ := h
    refine x_iald hx hb hK hP 1 rfl hi18 rfl dX4_dropTerm_24 ?_
    obtain ⟨hi19, h⟩ := h
    refine x_iast hx hb hK hP hD hS 1 rfl hi19 rfl dX4_dropTerm_25 (fun H locs hP hD hS => ?_)
    have hP : va_P G.1 vwCl (wS G ad inp otp tc fc (upd z2 ((x1 - (1 : Int32)).toNatClampNeg) (z2 x1.toNatClampNeg)) z3 z4 z5 lo up) H := hP
    have hD : va_D A (wS G ad inp otp tc fc (upd z2 ((x1 - (1 : Int32)).toNatClampNeg) (z2 x1.toNatClampNeg)) z3 z4 z5 lo up) := hD
    refine lv_aload_n hx hb dX4_dropTerm_26 rfl (lv_at hl 0 rfl) ?_
    refine va_get (D := G.1) (ci := 4) (v := .ref (ad 2)) (C := RX4) (T := TX4) (N := 10) hx hb hts hinX4 hown hK.1 hP 0 rfl rfl 5 (by decide) (hts (.fieldLink RX4 28 "PlaFolder$State" "zeros" "[I") (by decide +kernel)) (fun _ h9 => h9) rfl dX4_dropTerm_27 ?_
    refine lv_iload_n hx hb dX4_dropTerm_30 rfl (lv_at hl 1 rfl) ?_
    refine lv_iconst (v := (1 : Int32)) hx hb dX4_dropTerm_31 (by decide) ?_
    refine lv_isub hx hb dX4_dropTerm_32 ?_
    refine lv_aload_n hx hb dX4_dropTerm_33 rfl (lv_at hl 0 rfl) ?_
    refine va_get (D := G.1) (ci := 4) (v := .ref (ad 2)) (C := RX4) (T := TX4) (N := 10) hx hb hts hinX4 hown hK.1 hP 0 rfl rfl 5 (by decide) (hts (.fieldLink RX4 28 "PlaFolder$State" "zeros" "[I") (by decide +kernel)) (fun _ h9 => h9) rfl dX4_dropTerm_34 ?_
    refine lv_iload_n hx hb dX4_dropTerm_37 rfl (lv_at hl 1 rfl) ?_
    obtain ⟨hi20, h⟩ := h
    refine x_iald hx hb hK hP 2 rfl hi20 rfl dX4_dropTerm_38 ?_
    obtain ⟨hi21, h⟩ := h
    refine x_iast hx hb hK hP hD hS 2 rfl hi21 rfl dX4_dropTerm_39 (fun H locs hP hD hS => ?_)
    have hP : va_P G.1 vwCl (wS G ad inp otp tc fc (upd z2 ((x1 - (1 : Int32)).toNatClampNeg) (z2 x1.toNatClampNeg)) (upd z3 ((x1 - (1 : Int32)).toNatClampNeg) (z3 x1.toNatClampNeg)) z4 z5 lo up) H := hP
    have hD : va_D A (wS G ad inp otp tc fc (upd z2 ((x1 - (1 : Int32)).toNatClampNeg) (z2 x1.toNatClampNeg)) (upd z3 ((x1 - (1 : Int32)).toNatClampNeg) (z3 x1.toNatClampNeg)) z4 z5 lo up) := hD
    refine lv_aload_n hx hb dX4_dropTerm_40 rfl (lv_at hl 0 rfl) ?_
    refine va_get (D := G.1) (ci := 4) (v := .ref (ad 3)) (C := RX4) (T := TX4) (N := 10) hx hb hts hinX4 hown hK.1 hP 0 rfl rfl 6 (by decide) (hts (.fieldLink RX4 31 "PlaFolder$State" "outs" "[I") (by decide +kernel)) (fun _ h9 => h9) rfl dX4_dropTerm_41 ?_
    refine lv_iload_n hx hb dX4_dropTerm_44 rfl (lv_at hl 1 rfl) ?_
    refine lv_iconst (v := (1 : Int32)) hx hb dX4_dropTerm_45 (by decide) ?_
    refine lv_isub hx hb dX4_dropTerm_46 ?_
    refine lv_aload_n hx hb dX4_dropTerm_47 rfl (lv_at hl 0 rfl) ?_
    refine va_get (D := G.1) (ci := 4) (v := .ref (ad 3)) (C := RX4) (T := TX4) (N := 10) hx hb hts hinX4 hown hK.1 hP 0 rfl rfl 6 (by decide) (hts (.fieldLink RX4 31 "PlaFolder$State" "outs" "[I") (by decide +kernel)) (fun _ h9 => h9) rfl dX4_dropTerm_48 ?_
    refine lv_iload_n hx hb dX4_dropTerm_51 rfl (lv_at hl 1 rfl) ?_
    obtain ⟨hi22, h⟩ := h
    refine x_iald hx hb hK hP 3 rfl hi22 rfl dX4_dropTerm_52 ?_
    obtain ⟨hi23, h⟩ := h
    refine x_iast hx hb hK hP hD hS 3 rfl hi23 rfl dX4_dropTerm_53 (fun H locs hP hD hS => ?_)
    have hP : va_P G.1 vwCl (wS G ad inp otp tc fc (upd z2 ((x1 - (1 : Int32)).toNatClampNeg) (z2 x1.toNatClampNeg)) (upd z3 ((x1 - (1 : Int32)).toNatClampNeg) (z3 x1.toNatClampNeg)) (upd z4 ((x1 - (1 : Int32)).toNatClampNeg) (z4 x1.toNatClampNeg)) z5 lo up) H := hP
    have hD : va_D A (wS G ad inp otp tc fc (upd z2 ((x1 - (1 : Int32)).toNatClampNeg) (z2 x1.toNatClampNeg)) (upd z3 ((x1 - (1 : Int32)).toNatClampNeg) (z3 x1.toNatClampNeg)) (upd z4 ((x1 - (1 : Int32)).toNatClampNeg) (z4 x1.toNatClampNeg)) z5 lo up) := hD
    refine lv_aload_n hx hb dX4_dropTerm_54 rfl (lv_at hl 0 rfl) ?_
    refine va_get (D := G.1) (ci := 4) (v := .ref (ad 4)) (C := RX4) (T := TX4) (N := 10) hx hb hts hinX4 hown hK.1 hP 0 rfl rfl 7 (by decide) (hts (.fieldLink RX4 34 "PlaFolder$State" "words" "[J") (by decide +kernel)) (fun _ h9 => h9) rfl dX4_dropTerm_55 ?_
    refine lv_iload_n hx hb dX4_dropTerm_58 rfl (lv_at hl 1 rfl) ?_
    refine lv_iconst (v := (1 : Int32)) hx hb dX4_dropTerm_59 (by decide) ?_
    refine lv_isub hx hb dX4_dropTerm_60 ?_
    refine lv_aload_n hx hb dX4_dropTerm_61 rfl (lv_at hl 0 rfl) ?_
    refine va_get (D := G.1) (ci := 4) (v := .ref (ad 4)) (C := RX4) (T := TX4) (N := 10) hx hb hts hinX4 hown hK.1 hP 0 rfl rfl 7 (by decide) (hts (.fieldLink RX4 34 "PlaFolder$State" "words" "[J") (by decide +kernel)) (fun _ h9 => h9) rfl dX4_dropTerm_62 ?_
    refine lv_iload_n hx hb dX4_dropTerm_65 rfl (lv_at hl 1 rfl) ?_
    obtain ⟨hi24, h⟩ := h
    refine x_lald hx hb hK hP 4 rfl hi24 rfl dX4_dropTerm_66 ?_
    obtain ⟨hi25, h⟩ := h
    refine x_last hx hb hK hP hD hS 4 rfl hi25 rfl dX4_dropTerm_67 (fun H locs hP hD hS => ?_)
    have hP : va_P G.1 vwCl (wS G ad inp otp tc fc (upd z2 ((x1 - (1 : Int32)).toNatClampNeg) (z2 x1.toNatClampNeg)) (upd z3 ((x1 - (1 : Int32)).toNatClampNeg) (z3 x1.toNatClampNeg)) (upd z4 ((x1 - (1 : Int32)).toNatClampNeg) (z4 x1.toNatClampNeg)) (vp_updL z5 ((x1 - (1 : Int32)).toNatClampNeg) (z5 x1.toNatClampNeg)) lo up) H := hP
    have hD : va_D A (wS G ad inp otp tc fc (upd z2 ((x1 - (1 : Int32)).toNatClampNeg) (z2 x1.toNatClampNeg)) (upd z3 ((x1 - (1 : Int32)).toNatClampNeg) (z3 x1.toNatClampNeg)) (upd z4 ((x1 - (1 : Int32)).toNatClampNeg) (z4 x1.toNatClampNeg)) (vp_updL z5 ((x1 - (1 : Int32)).toNatClampNeg) (z5 x1.toNatClampNeg)) lo up) := hD
    refine lv_iinc (v := (x1 + (1 : Int32))) (lv' := [(2, .int (x1 + (1 : Int32))), (0, .ref (ad 0))]) hx hb dX4_dropTerm_68 hl (k := 1) rfl rfl (by decide) rfl (fun ls hl => ?_)
    refine lv_goto (tgt := 4) hx hb dX4_dropTerm_71 (by decide) ?_
    obtain ⟨n27, hn26, hI28⟩ := h
    exact ih10 n27 ((x1 + (1 : Int32)), (upd z2 ((x1 - (1 : Int32)).toNatClampNeg) (z2 x1.toNatClampNeg)), (upd z3 ((x1 - (1 : Int32)).toNatClampNeg) (z3 x1.toNatClampNeg)), (upd z4 ((x1 - (1 : Int32)).toNatClampNeg) (z4 x1.toNatClampNeg)), (vp_updL z5 ((x1 - (1 : Int32)).toNatClampNeg) (z5 x1.toNatClampNeg))) hn26 hI28 _ _ _ ⟨hP, hD, hS, lv_sub hl [1, 0] rfl⟩
def wp_X4_outputWord (a1 : Int32) (tc : Int32) (ou : Nat → Int32) (wd : Nat → Int64) (K : Int32 → Prop) : Prop :=
 (Lp2 (0 : Int32) (0 : Int32) (fun (x1 : Int32) (x2 : Int32) (J6 : Int32 → Int32 → Prop) => ((tc ≤ x2 → K x1) ∧
 (¬ (tc ≤ x2) → (vp_in x2 10 ∧ ((¬ (lg_cmp ((jlushr (wd x2.toNatClampNeg) a1) &&& (1 : Int64)) (1 : Int64)) = 0 → J6 x1 (x2 + (1 : Int32))) ∧
 ((lg_cmp ((jlushr (wd x2.toNatClampNeg) a1) &&& (1 : Int64)) (1 : Int64)) = 0 → (vp_in x2 10 ∧ J6 (x1 ||| (ou x2.toNatClampNeg)) (x2 + (1 : Int32))))))))))
abbrev rm_X4_outputWord : Room := { frames := 0, cells := 0, slots := 0, locals := 0 }
set_option maxHeartbeats 4000000 in
set_option maxRecDepth 100000 in
theorem c_X4_outputWord (l : Launch) (G : GG) (ad : Nat → Nat) (sz : Nat) (inp : Int32) (otp : Int32) (tc : Int32) (fc : Int32) (on : Nat → Int32) (ze : Nat → Int32) (ou : Nat → Int32) (wd : Nat → Int64) (lo : Nat → Int32) (up : Nat → Int32) (a1 : Int32) {K : Int32 → Prop} (h : wp_X4_outputWord a1 tc ou wd K) : CI l yX4_outputWord wsX4_outputWord rm_X4_outputWord G [.ref (ad 0), .int a1] (wS G ad inp otp tc fc on ze ou wd lo up) sz (fun u : Unit => wS G ad inp otp tc fc on ze ou wd lo up) (fun r u => K r ) := by
  refine Met.ofW (cc := cX4_outputWord) (maxL := 4) (ret := (some .int)) (by decide) rfl ?_
  intro p e s m args below meth c s₁ B hml hv
  obtain ⟨rfl, hsz, hP, hK, hD0, hZ⟩ := hv
  have hx := B.exec
  have hb := B.bytes
  have hr := B.returns
  have hts := atoms_spec (ws := wsX4_outputWord) B.pre
  have hown : s.vm.findClass RX4 = some m.cls := findClass_of_methodNamed B.named
  have hlocks := B.notSynchronized
  subst hsz
  have hD := hD0.self (sz := s.heap.size)
  generalize hAe : va_A (wS G ad inp otp tc fc on ze ou wd lo up) s.heap.size = A at hD hZ ⊢
  have hA : ∀ q : Nat, s.heap.size ≤ q → A q := fun q h => by rw [← hAe]; exact Or.inr h
  have hS : va_S A s.heap s.heap [] := va_S.rf
  have hl := lv_entry ([.ref (ad 0), .int a1]) (n := 4) (Nat.le_of_ble_eq_true rfl)
  rw [lg_entry_eq]
  generalize (lg_sl ([.ref (ad 0), .int a1]) ++ List.replicate (4 - (lg_sl ([.ref (ad 0), .int a1])).length) Slot.unset).toArray = ls at hl ⊢
  have hl : lv_has ls 4 [(0, .ref (ad 0)), (1, .int a1)] := hl
  unfold wp_X4_outputWord at h
  have hinX4 : ∀ w ∈ wsX40, w ∈ wsX4_outputWord := by decide +kernel
  refine lv_iconst (v := (0 : Int32)) hx hb dX4_outputWord_0 (by decide) ?_
  refine lv_istore_n (lv' := [(2, .int (0 : Int32)), (0, .ref (ad 0)), (1, .int a1)]) hx hb dX4_outputWord_1 rfl hl (by decide) rfl (fun ls hl => ?_)
  refine lv_iconst (v := (0 : Int32)) hx hb dX4_outputWord_2 (by decide) ?_
  refine lv_istore_n (lv' := [(3, .int (0 : Int32)), (2, .int (0 : Int32)), (0, .ref (ad 0)), (1, .int a1)]) hx hb dX4_outputWord_3 rfl hl (by decide) rfl (fun ls hl => ?_)
  obtain ⟨I3, n4, h0, hst5⟩ := h
  refine loopW (σ := Int32 × Int32) (P := fun q H locs ls => va_P G.1 vwCl (wS G ad inp otp tc fc on ze ou wd lo up) H ∧ va_D A (wS G ad inp otp tc fc on ze ou wd lo up) ∧ va_S A s.heap H locs ∧ lv_has ls 4 [(0, .ref (ad 0)), (1, .int a1), (2, .int q.1), (3, .int q.2)]) (I := fun n q => I3 n q.1 q.2) n4 ((0 : Int32), (0 : Int32)) h0 _ _ _ ⟨hP, hD, hS, lv_sub hl [2, 3, 1, 0] rfl⟩ ?_
  rintro n8 ⟨x1, x2⟩ hI ih7 H locs ls ⟨hP, hD, hS, hl⟩
  have hP : va_P G.1 vwCl (wS G ad inp otp tc fc on ze ou wd lo up) H := hP
  have hD : va_D A (wS G ad inp otp tc fc on ze ou wd lo up) := hD
  have hl : lv_has ls 4 [(0, .ref (ad 0)), (1, .int a1), (2, .int x1), (3, .int x2)] := hl
  have h := hst5 n8 x1 x2 hI
  refine lv_iload_n hx hb dX4_outputWord_4 rfl (lv_at hl 3 rfl) ?_
  refine lv_aload_n hx hb dX4_outputWord_5 rfl (lv_at hl 0 rfl) ?_
  refine va_get (D := G.1) (ci := 4) (v := .int tc) (C := RX4) (T := TX4) (N := 10) hx hb hts hinX4 hown hK.1 hP 0 rfl rfl 2 (by decide) (hts (.fieldLink RX4 18 "PlaFolder$State" "termCount" "I") (by decide +kernel)) (fun _ h9 => h9) rfl dX4_outputWord_6 ?_
  refine lv_icmp_ge (tgt := 42) hx hb dX4_outputWord_9 (by decide) (fun c_9 => ?_) (fun c_9 => ?_)
  · have h := h.1 c_9
    refine lv_iload_n hx hb dX4_outputWord_42 rfl (lv_at hl 2 rfl) ?_
    exact W.iret hx hb hr (fun t ht hW => ⟨⟨_, (), rfl, h, by rw [ht]; exact hP, hD⟩, hS.F ht⟩) hS.2.2 dX4_outputWord_43
  · have h := h.2 c_9
    refine lv_aload_n hx hb dX4_outputWord_12 rfl (lv_at hl 0 rfl) ?_
    refine va_get (D := G.1) (ci := 4) (v := .ref (ad 4)) (C := RX4) (T := TX4) (N := 10) hx hb hts hinX4 hown hK.1 hP 0 rfl rfl 7 (by decide) (hts (.fieldLink RX4 34 "PlaFolder$State" "words" "[J") (by decide +kernel)) (fun _ h9 => h9) rfl dX4_outputWord_13 ?_
    refine lv_iload_n hx hb dX4_outputWord_16 rfl (lv_at hl 3 rfl) ?_
    obtain ⟨hi10, h⟩ := h
    refine x_lald hx hb hK hP 4 rfl hi10 rfl dX4_outputWord_17 ?_
    refine lv_iload_n hx hb dX4_outputWord_18 rfl (lv_at hl 1 rfl) ?_
    refine lv_lushr (v := (jlushr (wd x2.toNatClampNeg) a1)) hx hb dX4_outputWord_19 rfl ?_
    refine lv_lconst (v := (1 : Int64)) hx hb dX4_outputWord_20 (by decide) ?_
    refine lv_land hx hb dX4_outputWord_21 ?_
    refine lv_lconst (v := (1 : Int64)) hx hb dX4_outputWord_22 (by decide) ?_
    refine W.lcmp hx hb dX4_outputWord_23 ?_
    refine lv_if_ne (tgt := 36) hx hb dX4_outputWord_24 (by decide) (fun c_11 => ?_) (fun c_11 => ?_)
    · have h := h.1 c_11
      refine lv_iinc (v := (x2 + (1 : Int32))) (lv' := [(3, .int (x2 + (1 : Int32))), (0, .ref (ad 0)), (1, .int a1), (2, .int x1)]) hx hb dX4_outputWord_36 hl (k := 3) rfl rfl (by decide) rfl (fun ls hl => ?_)
      refine lv_goto (tgt := 4) hx hb dX4_outputWord_39 (by decide) ?_
      obtain ⟨n13, hn12, hI14⟩ := h
      exact ih7 n13 (x1, (x2 + (1 : Int32))) hn12 hI14 _ _ _ ⟨hP, hD, hS, lv_sub hl [1, 2, 3, 0] rfl⟩
    · have h := h.2 c_11
      refine lv_iload_n hx hb dX4_outputWord_27 rfl (lv_at hl 2 rfl) ?_
      refine lv_aload_n hx hb dX4_outputWord_28 rfl (lv_at hl 0 rfl) ?_
      refine va_get (D := G.1) (ci := 4) (v := .ref (ad 3)) (C := RX4) (T := TX4) (N := 10) hx hb hts hinX4 hown hK.1 hP 0 rfl rfl 6 (by decide) (hts (.fieldLink RX4 31 "PlaFolder$State" "outs" "[I") (by decide +kernel)) (fun _ h9 => h9) rfl dX4_outputWord_29 ?_
      refine lv_iload_n hx hb dX4_outputWord_32 rfl (lv_at hl 3 rfl) ?_
      obtain ⟨hi15, h⟩ := h
      refine x_iald hx hb hK hP 3 rfl hi15 rfl dX4_outputWord_33 ?_
      refine lv_ior hx hb dX4_outputWord_34 ?_
      refine lv_istore_n (lv' := [(2, .int (x1 ||| (ou x2.toNatClampNeg))), (0, .ref (ad 0)), (1, .int a1), (3, .int x2)]) hx hb dX4_outputWord_35 rfl hl (by decide) rfl (fun ls hl => ?_)
      refine lv_iinc (v := (x2 + (1 : Int32))) (lv' := [(3, .int (x2 + (1 : Int32))), (2, .int (x1 ||| (ou x2.toNatClampNeg))), (0, .ref (ad 0)), (1, .int a1)]) hx hb dX4_outputWord_36 hl (k := 3) rfl rfl (by decide) rfl (fun ls hl => ?_)
      refine lv_goto (tgt := 4) hx hb dX4_outputWord_39 (by decide) ?_
      obtain ⟨n17, hn16, hI18⟩ := h
      exact ih7 n17 ((x1 ||| (ou x2.toNatClampNeg)), (x2 + (1 : Int32))) hn16 hI18 _ _ _ ⟨hP, hD, hS, lv_sub hl [2, 3, 1, 0] rfl⟩
def wp_X4_wordsOfOutput (a1 : Int32) (a2 : Int32) (tc : Int32) (ou : Nat → Int32) (wd : Nat → Int64) (K : Int64 → Prop) : Prop :=
 (Lp2 (0 : Int64) (0 : Int32) (fun (x1 : Int64) (x2 : Int32) (J6 : Int64 → Int32 → Prop) => ((tc ≤ x2 → K x1) ∧
 (¬ (tc ≤ x2) → ((x2 = a2 → J6 x1 (x2 + (1 : Int32))) ∧
 (¬ (x2 = a2) → (vp_in x2 10 ∧ wp_X5_contains (ou x2.toNatClampNeg) a1 (fun (r15 : Int32) => ((r15 = 0 → J6 x1 (x2 + (1 : Int32))) ∧
 (¬ (r15 = 0) → (vp_in x2 10 ∧ J6 (x1 ||| (wd x2.toNatClampNeg)) (x2 + (1 : Int32)))))))))))))
abbrev rm_X4_wordsOfOutput : Room := { frames := 1, cells := 0, slots := 0, locals := 21 }
set_option maxHeartbeats 4000000 in
set_option maxRecDepth 100000 in
theorem c_X4_wordsOfOutput (l : Launch) (G : GG) (ad : Nat → Nat) (sz : Nat) (inp : Int32) (otp : Int32) (tc : Int32) (fc : Int32) (on : Nat → Int32) (ze : Nat → Int32) (ou : Nat → Int32) (wd : Nat → Int64) (lo : Nat → Int32) (up : Nat → Int32) (a1 : Int32) (a2 : Int32) {K : Int64 → Prop} (h : wp_X4_wordsOfOutput a1 a2 tc ou wd K) : CL l yX4_wordsOfOutput wsX4_wordsOfOutput rm_X4_wordsOfOutput G [.ref (ad 0), .int a1, .int a2] (wS G ad inp otp tc fc on ze ou wd lo up) sz (fun u : Unit => wS G ad inp otp tc fc on ze ou wd lo up) (fun r u => K r ) := by
  refine Met.ofW (cc := cX4_wordsOfOutput) (maxL := 6) (ret := (some .long)) (by decide) rfl ?_
  intro p e s m args below meth c s₁ B hml hv
  obtain ⟨rfl, hsz, hP, hK, hD0, hZ⟩ := hv
  have hx := B.exec
  have hb := B.bytes
  have hr := B.returns
  have hts := atoms_spec (ws := wsX4_wordsOfOutput) B.pre
  have hown : s.vm.findClass RX4 = some m.cls := findClass_of_methodNamed B.named
  have hlocks := B.notSynchronized
  subst hsz
  have hD := hD0.self (sz := s.heap.size)
  generalize hAe : va_A (wS G ad inp otp tc fc on ze ou wd lo up) s.heap.size = A at hD hZ ⊢
  have hA : ∀ q : Nat, s.heap.size ≤ q → A q := fun q h => by rw [← hAe]; exact Or.inr h
  have hS : va_S A s.heap s.heap [] := va_S.rf
  have hl := lv_entry ([.ref (ad 0), .int a1, .int a2]) (n := 6) (Nat.le_of_ble_eq_true rfl)
  rw [lg_entry_eq]
  generalize (lg_sl ([.ref (ad 0), .int a1, .int a2]) ++ List.replicate (6 - (lg_sl ([.ref (ad 0), .int a1, .int a2])).length) Slot.unset).toArray = ls at hl ⊢
  have hl : lv_has ls 6 [(0, .ref (ad 0)), (1, .int a1), (2, .int a2)] := hl
  unfold wp_X4_wordsOfOutput at h
  have hinX4 : ∀ w ∈ wsX40, w ∈ wsX4_wordsOfOutput := by decide +kernel
  refine lv_lconst (v := (0 : Int64)) hx hb dX4_wordsOfOutput_0 (by decide) ?_
  refine lv_lstore_n (lv' := [(3, .long (0 : Int64)), (0, .ref (ad 0)), (1, .int a1), (2, .int a2)]) hx hb dX4_wordsOfOutput_1 rfl hl (by decide) rfl (fun ls hl => ?_)
  refine lv_iconst (v := (0 : Int32)) hx hb dX4_wordsOfOutput_2 (by decide) ?_
  refine lv_istore (lv' := [(5, .int (0 : Int32)), (3, .long (0 : Int64)), (0, .ref (ad 0)), (1, .int a1), (2, .int a2)]) hx hb dX4_wordsOfOutput_3 hl (by decide) rfl (fun ls hl => ?_)
  obtain ⟨I3, n4, h0, hst5⟩ := h
  refine loopW (σ := Int64 × Int32) (P := fun q H locs ls => va_P G.1 vwCl (wS G ad inp otp tc fc on ze ou wd lo up) H ∧ va_D A (wS G ad inp otp tc fc on ze ou wd lo up) ∧ va_S A s.heap H locs ∧ lv_has ls 6 [(0, .ref (ad 0)), (1, .int a1), (2, .int a2), (3, .long q.1), (5, .int q.2)]) (I := fun n q => I3 n q.1 q.2) n4 ((0 : Int64), (0 : Int32)) h0 _ _ _ ⟨hP, hD, hS, lv_sub hl [2, 3, 4, 1, 0] rfl⟩ ?_
  rintro n8 ⟨x1, x2⟩ hI ih7 H locs ls ⟨hP, hD, hS, hl⟩
  have hP : va_P G.1 vwCl (wS G ad inp otp tc fc on ze ou wd lo up) H := hP
  have hD : va_D A (wS G ad inp otp tc fc on ze ou wd lo up) := hD
  have hl : lv_has ls 6 [(0, .ref (ad 0)), (1, .int a1), (2, .int a2), (3, .long x1), (5, .int x2)] := hl
  have h := hst5 n8 x1 x2 hI
  refine lv_iload hx hb dX4_wordsOfOutput_5 (lv_at hl 4 rfl) ?_
  refine lv_aload_n hx hb dX4_wordsOfOutput_7 rfl (lv_at hl 0 rfl) ?_
  refine va_get (D := G.1) (ci := 4) (v := .int tc) (C := RX4) (T := TX4) (N := 10) hx hb hts hinX4 hown hK.1 hP 0 rfl rfl 2 (by decide) (hts (.fieldLink RX4 18 "PlaFolder$State" "termCount" "I") (by decide +kernel)) (fun _ h9 => h9) rfl dX4_wordsOfOutput_8 ?_
  refine lv_icmp_ge (tgt := 50) hx hb dX4_wordsOfOutput_11 (by decide) (fun c_9 => ?_) (fun c_9 => ?_)
  · have h := h.1 c_9
    refine lv_lload_n hx hb dX4_wordsOfOutput_50 rfl (lv_at hl 3 rfl) ?_
    exact W.lret hx hb hr (fun t ht hW => ⟨⟨_, (), rfl, h, by rw [ht]; exact hP, hD⟩, hS.F ht⟩) hS.2.2 dX4_wordsOfOutput_51
  · have h := h.2 c_9
    refine lv_iload hx hb dX4_wordsOfOutput_14 (lv_at hl 4 rfl) ?_
    refine lv_iload_n hx hb dX4_wordsOfOutput_16 rfl (lv_at hl 2 rfl) ?_
    refine lv_icmp_eq (tgt := 44) hx hb dX4_wordsOfOutput_17 (by decide) (fun c_10 => ?_) (fun c_10 => ?_)
    · have h := h.1 c_10
      refine lv_iinc (v := (x2 + (1 : Int32))) (lv' := [(5, .int (x2 + (1 : Int32))), (0, .ref (ad 0)), (1, .int a1), (2, .int a2), (3, .long x1)]) hx hb dX4_wordsOfOutput_44 hl (k := 4) rfl rfl (by decide) rfl (fun ls hl => ?_)
      refine lv_goto (tgt := 5) hx hb dX4_wordsOfOutput_47 (by decide) ?_
      obtain ⟨n12, hn11, hI13⟩ := h
      exact ih7 n12 (x1, (x2 + (1 : Int32))) hn11 hI13 _ _ _ ⟨hP, hD, hS, lv_sub hl [1, 2, 3, 4, 0] rfl⟩
    · have h := h.2 c_10
      refine lv_aload_n hx hb dX4_wordsOfOutput_20 rfl (lv_at hl 0 rfl) ?_
      refine va_get (D := G.1) (ci := 4) (v := .ref (ad 3)) (C := RX4) (T := TX4) (N := 10) hx hb hts hinX4 hown hK.1 hP 0 rfl rfl 6 (by decide) (hts (.fieldLink RX4 31 "PlaFolder$State" "outs" "[I") (by decide +kernel)) (fun _ h9 => h9) rfl dX4_wordsOfOutput_21 ?_
      refine lv_iload hx hb dX4_wordsOfOutput_24 (lv_at hl 4 rfl) ?_
      obtain ⟨hi14, h⟩ := h
      refine x_iald hx hb hK hP 3 rfl hi14 rfl dX4_wordsOfOutput_26 ?_
      refine lv_iload_n hx hb dX4_wordsOfOutput_27 rfl (lv_at hl 1 rfl) ?_
      refine kc_i (wr := ([0, 1, 2, 3, 4, 5, 6] : List Nat).filterMap (fun i => (wS G ad inp otp tc fc on ze ou wd lo up)[i]?)) (va_runSN (As := [.int (ou x2.toNatClampNeg), .int a1]) (rest := []) ⟨hx, hb, hml, hown, hts⟩ (c_X5_contains l G  _  (ou x2.toNatClampNeg) a1 h) ⟨va_cnB 2 hts gX4_wordsOfOutput_X5_contains_n67 rfl rfl rfl (hK.2.M 12 (q := ("PlaFolder$State", 67, ⟨"PlaFolder", "contains", "(II)Z"⟩, "PlaFolder")) rfl) (hts (.initialized RX5) (by decide +kernel)) (by decide +kernel) ⟨Nat.le_of_ble_eq_true rfl, Nat.le_of_ble_eq_true rfl⟩, hts (.static yX5_contains) (by decide +kernel), trivial⟩ (kpS hK hP hD hZ hS hA [] rfl (by decide)) rfl rfl hl.1 rfl (lv_room (Nat.le_of_ble_eq_true rfl)) dX4_wordsOfOutput_28 ⟨Nat.zero_le _, Nat.zero_le _⟩) hP hD hS hA [] [0, 1, 2, 3, 4, 5, 6] rfl rfl (by decide) (by decide) (fun r15 w24 H locs h hP hD hS => ?_)
      have hP : va_P G.1 vwCl (wS G ad inp otp tc fc on ze ou wd lo up) H := hP
      have hD : va_D A (wS G ad inp otp tc fc on ze ou wd lo up) := hD
      try dsimp only at h
      refine lv_if_eq (tgt := 44) hx hb dX4_wordsOfOutput_31 (by decide) (fun c_16 => ?_) (fun c_16 => ?_)
      · have h := h.1 c_16
        refine lv_iinc (v := (x2 + (1 : Int32))) (lv' := [(5, .int (x2 + (1 : Int32))), (0, .ref (ad 0)), (1, .int a1), (2, .int a2), (3, .long x1)]) hx hb dX4_wordsOfOutput_44 hl (k := 4) rfl rfl (by decide) rfl (fun ls hl => ?_)
        refine lv_goto (tgt := 5) hx hb dX4_wordsOfOutput_47 (by decide) ?_
        obtain ⟨n18, hn17, hI19⟩ := h
        exact ih7 n18 (x1, (x2 + (1 : Int32))) hn17 hI19 _ _ _ ⟨hP, hD, hS, lv_sub hl [1, 2, 3, 4, 0] rfl⟩
      · have h := h.2 c_16
        refine lv_lload_n hx hb dX4_wordsOfOutput_34 rfl (lv_at hl 3 rfl) ?_
        refine lv_aload_n hx hb dX4_wordsOfOutput_35 rfl (lv_at hl 0 rfl) ?_
        refine va_get (D := G.1) (ci := 4) (v := .ref (ad 4)) (C := RX4) (T := TX4) (N := 10) hx hb hts hinX4 hown hK.1 hP 0 rfl rfl 7 (by decide) (hts (.fieldLink RX4 34 "PlaFolder$State" "words" "[J") (by decide +kernel)) (fun _ h9 => h9) rfl dX4_wordsOfOutput_36 ?_
        refine lv_iload hx hb dX4_wordsOfOutput_39 (lv_at hl 4 rfl) ?_
        obtain ⟨hi20, h⟩ := h
        refine x_lald hx hb hK hP 4 rfl hi20 rfl dX4_wordsOfOutput_41 ?_
        refine lv_lor hx hb dX4_wordsOfOutput_42 ?_
        refine lv_lstore_n (lv' := [(3, .long (x1 ||| (wd x2.toNatClampNeg))), (0, .ref (ad 0)), (1, .int a1), (2, .int a2), (5, .int x2)]) hx hb dX4_wordsOfOutput_43 rfl hl (by decide) rfl (fun ls hl => ?_)
        refine lv_iinc (v := (x2 + (1 : Int32))) (lv' := [(5, .int (x2 + (1 : Int32))), (3, .long (x1 ||| (wd x2.toNatClampNeg))), (0, .ref (ad 0)), (1, .int a1), (2, .int a2)]) hx hb dX4_wordsOfOutput_44 hl (k := 4) rfl rfl (by decide) rfl (fun ls hl => ?_)
        refine lv_goto (tgt := 5) hx hb dX4_wordsOfOutput_47 (by decide) ?_
        obtain ⟨n22, hn21, hI23⟩ := h
        exact ih7 n22 ((x1 ||| (wd x2.toNatClampNeg)), (x2 + (1 : Int32))) hn21 hI23 _ _ _ ⟨hP, hD, hS, lv_sub hl [2, 3, 4, 1, 0] rfl⟩
def wp_X4_isSpare (a1 : Int32) (otp : Int32) (tc : Int32) (ou : Nat → Int32) (wd : Nat → Int64) (K : Int32 → Prop) : Prop :=
 (Lp1 (0 : Int32) (fun (x1 : Int32) (J5 : Int32 → Prop) => ((otp ≤ x1 → K (1 : Int32)) ∧
 (¬ (otp ≤ x1) → (vp_in a1 10 ∧ wp_X5_contains (ou a1.toNatClampNeg) x1 (fun (r10 : Int32) => ((r10 = 0 → J5 (x1 + (1 : Int32))) ∧
 (¬ (r10 = 0) → (vp_in a1 10 ∧ wp_X4_wordsOfOutput x1 a1 tc ou wd (fun (r16 : Int64) => (((lg_cmp ((wd a1.toNatClampNeg) &&& (r16 ^^^ (-1 : Int64))) (0 : Int64)) = 0 → J5 (x1 + (1 : Int32))) ∧
 (¬ ((lg_cmp ((wd a1.toNatClampNeg) &&& (r16 ^^^ (-1 : Int64))) (0 : Int64)) = 0) → K (0 : Int32)))))))))))))
abbrev rm_X4_isSpare : Room := { frames := 2, cells := 0, slots := 0, locals := 46 }
set_option maxHeartbeats 4000000 in
set_option maxRecDepth 100000 in
theorem c_X4_isSpare (l : Launch) (G : GG) (ad : Nat → Nat) (sz : Nat) (inp : Int32) (otp : Int32) (tc : Int32) (fc : Int32) (on : Nat → Int32) (ze : Nat → Int32) (ou : Nat → Int32) (wd : Nat → Int64) (lo : Nat → Int32) (up : Nat → Int32) (a1 : Int32) {K : Int32 → Prop} (h : wp_X4_isSpare a1 otp tc ou wd K) : CI l yX4_isSpare wsX4_isSpare rm_X4_isSpare G [.ref (ad 0), .int a1] (wS G ad inp otp tc fc on ze ou wd lo up) sz (fun u : Unit => wS G ad inp otp tc fc on ze ou wd lo up) (fun r u => K r ) := by
  refine Met.ofW (cc := cX4_isSpare) (maxL := 3) (ret := (some .boolean)) (by decide) rfl ?_
  intro p e s m args below meth c s₁ B hml hv
  obtain ⟨rfl, hsz, hP, hK, hD0, hZ⟩ := hv
  have hx := B.exec
  have hb := B.bytes
  have hr := B.returns
  have hts := atoms_spec (ws := wsX4_isSpare) B.pre
  have hown : s.vm.findClass RX4 = some m.cls := findClass_of_methodNamed B.named
  have hlocks := B.notSynchronized
  subst hsz
  have hD := hD0.self (sz := s.heap.size)
  generalize hAe : va_A (wS G ad inp otp tc fc on ze ou wd lo up) s.heap.size = A at hD hZ ⊢
  have hA : ∀ q : Nat, s.heap.size ≤ q → A q := fun q h => by rw [← hAe]; exact Or.inr h
  have hS : va_S A s.heap s.heap [] := va_S.rf
  have hl := lv_entry ([.ref (ad 0), .int a1]) (n := 3) (Nat.le_of_ble_eq_true rfl)
  rw [lg_entry_eq]
  generalize (lg_sl ([.ref (ad 0), .int a1]) ++ List.replicate (3 - (lg_sl ([.ref (ad 0), .int a1])).length) Slot.unset).toArray = ls at hl ⊢
  have hl : lv_has ls 3 [(0, .ref (ad 0)), (1, .int a1)] := hl
  unfold wp_X4_isSpare at h
  have hinX4 : ∀ w ∈ wsX40, w ∈ wsX4_isSpare := by decide +kernel
  refine lv_iconst (v := (0 : Int32)) hx hb dX4_isSpare_0 (by decide) ?_
  refine lv_istore_n (lv' := [(2, .int (0 : Int32)), (0, .ref (ad 0)), (1, .int a1)]) hx hb dX4_isSpare_1 rfl hl (by decide) rfl (fun ls hl => ?_)
  obtain ⟨I2, n3, h0, hst4⟩ := h
  refine loopW (σ := Int32) (P := fun q H locs ls => va_P G.1 vwCl (wS G ad inp otp tc fc on ze ou wd lo up) H ∧ va_D A (wS G ad inp otp tc fc on ze ou wd lo up) ∧ va_S A s.heap H locs ∧ lv_has ls 3 [(0, .ref (ad 0)), (1, .int a1), (2, .int q)]) (I := fun n q => I2 n q) n3 (0 : Int32) h0 _ _ _ ⟨hP, hD, hS, lv_sub hl [1, 2, 0] rfl⟩ ?_
  rintro n7 x1 hI ih6 H locs ls ⟨hP, hD, hS, hl⟩
  have hP : va_P G.1 vwCl (wS G ad inp otp tc fc on ze ou wd lo up) H := hP
  have hD : va_D A (wS G ad inp otp tc fc on ze ou wd lo up) := hD
  have hl : lv_has ls 3 [(0, .ref (ad 0)), (1, .int a1), (2, .int x1)] := hl
  have h := hst4 n7 x1 hI
  refine lv_iload_n hx hb dX4_isSpare_2 rfl (lv_at hl 2 rfl) ?_
  refine lv_aload_n hx hb dX4_isSpare_3 rfl (lv_at hl 0 rfl) ?_
  refine va_get (D := G.1) (ci := 4) (v := .int otp) (C := RX4) (T := TX4) (N := 10) hx hb hts hinX4 hown hK.1 hP 0 rfl rfl 1 (by decide) (hts (.fieldLink RX4 15 "PlaFolder$State" "outputs" "I") (by decide +kernel)) (fun _ h9 => h9) rfl dX4_isSpare_4 ?_
  refine lv_icmp_ge (tgt := 53) hx hb dX4_isSpare_7 (by decide) (fun c_8 => ?_) (fun c_8 => ?_)
  · have h := h.1 c_8
    refine lv_iconst (v := (1 : Int32)) hx hb dX4_isSpare_53 (by decide) ?_
    exact W.zret hx hb hr (by decide) (fun t ht hW => ⟨⟨_, (), rfl, h, by rw [ht]; exact hP, hD⟩, hS.F ht⟩) hS.2.2 dX4_isSpare_54
  · have h := h.2 c_8
    refine lv_aload_n hx hb dX4_isSpare_10 rfl (lv_at hl 0 rfl) ?_
    refine va_get (D := G.1) (ci := 4) (v := .ref (ad 3)) (C := RX4) (T := TX4) (N := 10) hx hb hts hinX4 hown hK.1 hP 0 rfl rfl 6 (by decide) (hts (.fieldLink RX4 31 "PlaFolder$State" "outs" "[I") (by decide +kernel)) (fun _ h9 => h9) rfl dX4_isSpare_11 ?_
    refine lv_iload_n hx hb dX4_isSpare_14 rfl (lv_at hl 1 rfl) ?_
    obtain ⟨hi9, h⟩ := h
    refine x_iald hx hb hK hP 3 rfl hi9 rfl dX4_isSpare_15 ?_
    refine lv_iload_n hx hb dX4_isSpare_16 rfl (lv_at hl 2 rfl) ?_
    refine kc_i (wr := ([0, 1, 2, 3, 4, 5, 6] : List Nat).filterMap (fun i => (wS G ad inp otp tc fc on ze ou wd lo up)[i]?)) (va_runSN (As := [.int (ou a1.toNatClampNeg), .int x1]) (rest := []) ⟨hx, hb, hml, hown, hts⟩ (c_X5_contains l G  _  (ou a1.toNatClampNeg) x1 h) ⟨va_cnB 2 hts gX4_isSpare_X5_contains_n67 rfl rfl rfl (hK.2.M 12 (q := ("PlaFolder$State", 67, ⟨"PlaFolder", "contains", "(II)Z"⟩, "PlaFolder")) rfl) (hts (.initialized RX5) (by decide +kernel)) (by decide +kernel) ⟨Nat.le_of_ble_eq_true rfl, Nat.le_of_ble_eq_true rfl⟩, hts (.static yX5_contains) (by decide +kernel), trivial⟩ (kpS hK hP hD hZ hS hA [] rfl (by decide)) rfl rfl hl.1 rfl (lv_room (Nat.le_of_ble_eq_true rfl)) dX4_isSpare_17 ⟨Nat.zero_le _, Nat.zero_le _⟩) hP hD hS hA [] [0, 1, 2, 3, 4, 5, 6] rfl rfl (by decide) (by decide) (fun r10 w22 H locs h hP hD hS => ?_)
    have hP : va_P G.1 vwCl (wS G ad inp otp tc fc on ze ou wd lo up) H := hP
    have hD : va_D A (wS G ad inp otp tc fc on ze ou wd lo up) := hD
    try dsimp only at h
    refine lv_if_eq (tgt := 47) hx hb dX4_isSpare_20 (by decide) (fun c_11 => ?_) (fun c_11 => ?_)
    · have h := h.1 c_11
      refine lv_iinc (v := (x1 + (1 : Int32))) (lv' := [(2, .int (x1 + (1 : Int32))), (0, .ref (ad 0)), (1, .int a1)]) hx hb dX4_isSpare_47 hl (k := 2) rfl rfl (by decide) rfl (fun ls hl => ?_)
      refine lv_goto (tgt := 2) hx hb dX4_isSpare_50 (by decide) ?_
      obtain ⟨n13, hn12, hI14⟩ := h
      exact ih6 n13 (x1 + (1 : Int32)) hn12 hI14 _ _ _ ⟨hP, hD, hS, lv_sub hl [1, 2, 0] rfl⟩
    · have h := h.2 c_11
      refine lv_aload_n hx hb dX4_isSpare_23 rfl (lv_at hl 0 rfl) ?_
      refine va_get (D := G.1) (ci := 4) (v := .ref (ad 4)) (C := RX4) (T := TX4) (N := 10) hx hb hts hinX4 hown hK.1 hP 0 rfl rfl 7 (by decide) (hts (.fieldLink RX4 34 "PlaFolder$State" "words" "[J") (by decide +kernel)) (fun _ h9 => h9) rfl dX4_isSpare_24 ?_
      refine lv_iload_n hx hb dX4_isSpare_27 rfl (lv_at hl 1 rfl) ?_
      obtain ⟨hi15, h⟩ := h
      refine x_lald hx hb hK hP 4 rfl hi15 rfl dX4_isSpare_28 ?_
      refine lv_aload_n hx hb dX4_isSpare_29 rfl (lv_at hl 0 rfl) ?_
      refine lv_iload_n hx hb dX4_isSpare_30 rfl (lv_at hl 2 rfl) ?_
      refine lv_iload_n hx hb dX4_isSpare_31 rfl (lv_at hl 1 rfl) ?_
      refine kc_l (wr := ([] : va_W)) (va_runV (As := [.int x1, .int a1]) (rest := [.long (wd a1.toNatClampNeg)]) ⟨hx, hb, hml, hown, hts⟩ (c_X4_wordsOfOutput l G ad _ inp otp tc fc on ze ou wd lo up x1 a1 h) (cwV 2 hts gX4_isSpare_X4_wordsOfOutput rfl rfl rfl (by decide +kernel) ⟨Nat.le_of_ble_eq_true rfl, Nat.le_of_ble_eq_true rfl⟩) (kpV hK hP hD hZ hS hA [0, 1, 2, 3, 4, 5, 6] rfl (by decide) (q0 := 0) (ci := 4) rfl rfl) rfl rfl hl.1 rfl (lv_room (Nat.le_of_ble_eq_true rfl)) dX4_isSpare_32 ⟨Nat.zero_le _, Nat.zero_le _⟩) hP hD hS hA [0, 1, 2, 3, 4, 5, 6] [] rfl rfl (by decide) (by decide) (fun r16 w21 H locs h hP hD hS => ?_)
      have hP : va_P G.1 vwCl (wS G ad inp otp tc fc on ze ou wd lo up) H := hP
      have hD : va_D A (wS G ad inp otp tc fc on ze ou wd lo up) := hD
      try dsimp only at h
      refine lv_ldc2 (v := (-1 : Int64)) hx hb hown (hts (.constantLong RX4 74 (-1)) (by decide +kernel)) dX4_isSpare_35 ?_
      refine lv_lxor hx hb dX4_isSpare_38 ?_
      refine lv_land hx hb dX4_isSpare_39 ?_
      refine lv_lconst (v := (0 : Int64)) hx hb dX4_isSpare_40 (by decide) ?_
      refine W.lcmp hx hb dX4_isSpare_41 ?_
      refine lv_if_eq (tgt := 47) hx hb dX4_isSpare_42 (by decide) (fun c_17 => ?_) (fun c_17 => ?_)
      · have h := h.1 c_17
        refine lv_iinc (v := (x1 + (1 : Int32))) (lv' := [(2, .int (x1 + (1 : Int32))), (0, .ref (ad 0)), (1, .int a1)]) hx hb dX4_isSpare_47 hl (k := 2) rfl rfl (by decide) rfl (fun ls hl => ?_)
        refine lv_goto (tgt := 2) hx hb dX4_isSpare_50 (by decide) ?_
        obtain ⟨n19, hn18, hI20⟩ := h
        exact ih6 n19 (x1 + (1 : Int32)) hn18 hI20 _ _ _ ⟨hP, hD, hS, lv_sub hl [1, 2, 0] rfl⟩
      · have h := h.2 c_17
        refine lv_iconst (v := (0 : Int32)) hx hb dX4_isSpare_45 (by decide) ?_
        exact W.zret hx hb hr (by decide) (fun t ht hW => ⟨⟨_, (), rfl, h, by rw [ht]; exact hP, hD⟩, hS.F ht⟩) hS.2.2 dX4_isSpare_46
def wp_X4_termsOfColumn (a1 : Int32) (tc : Int32) (on : Nat → Int32) (ze : Nat → Int32) (ou : Nat → Int32) (K : Int32 → Prop) : Prop :=
 (Lp2 (0 : Int32) (0 : Int32) (fun (x1 : Int32) (x2 : Int32) (J6 : Int32 → Int32 → Prop) => ((tc ≤ x2 → K x1) ∧
 (¬ (tc ≤ x2) → (vp_in x2 10 ∧ (vp_in x2 10 ∧ (vp_in x2 10 ∧ wp_X5_contains (((on x2.toNatClampNeg) ||| (ze x2.toNatClampNeg)) ||| (jshl (ou x2.toNatClampNeg) (nI 6))) a1 (fun (r13 : Int32) => ((r13 = 0 → J6 x1 (x2 + (1 : Int32))) ∧
 (¬ (r13 = 0) → J6 (x1 ||| (jshl (1 : Int32) x2)) (x2 + (1 : Int32))))))))))))
abbrev rm_X4_termsOfColumn : Room := { frames := 1, cells := 0, slots := 0, locals := 21 }
set_option maxHeartbeats 4000000 in
set_option maxRecDepth 100000 in
theorem c_X4_termsOfColumn (l : Launch) (G : GG) (ad : Nat → Nat) (sz : Nat) (inp : Int32) (otp : Int32) (tc : Int32) (fc : Int32) (on : Nat → Int32) (ze : Nat → Int32) (ou : Nat → Int32) (wd : Nat → Int64) (lo : Nat → Int32) (up : Nat → Int32) (a1 : Int32) {K : Int32 → Prop} (h : wp_X4_termsOfColumn a1 tc on ze ou K) : CI l yX4_termsOfColumn wsX4_termsOfColumn rm_X4_termsOfColumn G [.ref (ad 0), .int a1] (wS G ad inp otp tc fc on ze ou wd lo up) sz (fun u : Unit => wS G ad inp otp tc fc on ze ou wd lo up) (fun r u => K r ) := by
  refine Met.ofW (cc := cX4_termsOfColumn) (maxL := 5) (ret := (some .int)) (by decide) rfl ?_
  intro p e s m args below meth c s₁ B hml hv
  obtain ⟨rfl, hsz, hP, hK, hD0, hZ⟩ := hv
  have hx := B.exec
  have hb := B.bytes
  have hr := B.returns
  have hts := atoms_spec (ws := wsX4_termsOfColumn) B.pre
  have hown : s.vm.findClass RX4 = some m.cls := findClass_of_methodNamed B.named
  have hlocks := B.notSynchronized
  subst hsz
  have hD := hD0.self (sz := s.heap.size)
  generalize hAe : va_A (wS G ad inp otp tc fc on ze ou wd lo up) s.heap.size = A at hD hZ ⊢
  have hA : ∀ q : Nat, s.heap.size ≤ q → A q := fun q h => by rw [← hAe]; exact Or.inr h
  have hS : va_S A s.heap s.heap [] := va_S.rf
  have hl := lv_entry ([.ref (ad 0), .int a1]) (n := 5) (Nat.le_of_ble_eq_true rfl)
  rw [lg_entry_eq]
  generalize (lg_sl ([.ref (ad 0), .int a1]) ++ List.replicate (5 - (lg_sl ([.ref (ad 0), .int a1])).length) Slot.unset).toArray = ls at hl ⊢
  have hl : lv_has ls 5 [(0, .ref (ad 0)), (1, .int a1)] := hl
  unfold wp_X4_termsOfColumn at h
  have hinX4 : ∀ w ∈ wsX40, w ∈ wsX4_termsOfColumn := by decide +kernel
  refine lv_iconst (v := (0 : Int32)) hx hb dX4_termsOfColumn_0 (by decide) ?_
  refine lv_istore_n (lv' := [(2, .int (0 : Int32)), (0, .ref (ad 0)), (1, .int a1)]) hx hb dX4_termsOfColumn_1 rfl hl (by decide) rfl (fun ls hl => ?_)
  refine lv_iconst (v := (0 : Int32)) hx hb dX4_termsOfColumn_2 (by decide) ?_
  refine lv_istore_n (lv' := [(3, .int (0 : Int32)), (2, .int (0 : Int32)), (0, .ref (ad 0)), (1, .int a1)]) hx hb dX4_termsOfColumn_3 rfl hl (by decide) rfl (fun ls hl => ?_)
  obtain ⟨I3, n4, h0, hst5⟩ := h
  refine loopW (σ := Int32 × Int32) (P := fun q H locs ls => va_P G.1 vwCl (wS G ad inp otp tc fc on ze ou wd lo up) H ∧ va_D A (wS G ad inp otp tc fc on ze ou wd lo up) ∧ va_S A s.heap H locs ∧ lv_has ls 5 [(0, .ref (ad 0)), (1, .int a1), (2, .int q.1), (3, .int q.2)]) (I := fun n q => I3 n q.1 q.2) n4 ((0 : Int32), (0 : Int32)) h0 _ _ _ ⟨hP, hD, hS, lv_sub hl [2, 3, 1, 0] rfl⟩ ?_
  rintro n8 ⟨x1, x2⟩ hI ih7 H locs ls ⟨hP, hD, hS, hl⟩
  have hP : va_P G.1 vwCl (wS G ad inp otp tc fc on ze ou wd lo up) H := hP
  have hD : va_D A (wS G ad inp otp tc fc on ze ou wd lo up) := hD
  have hl : lv_has ls 5 [(0, .ref (ad 0)), (1, .int a1), (2, .int x1), (3, .int x2)] := hl
  have h := hst5 n8 x1 x2 hI
  refine lv_iload_n hx hb dX4_termsOfColumn_4 rfl (lv_at hl 3 rfl) ?_
  refine lv_aload_n hx hb dX4_termsOfColumn_5 rfl (lv_at hl 0 rfl) ?_
  refine va_get (D := G.1) (ci := 4) (v := .int tc) (C := RX4) (T := TX4) (N := 10) hx hb hts hinX4 hown hK.1 hP 0 rfl rfl 2 (by decide) (hts (.fieldLink RX4 18 "PlaFolder$State" "termCount" "I") (by decide +kernel)) (fun _ h9 => h9) rfl dX4_termsOfColumn_6 ?_
  refine lv_icmp_ge (tgt := 58) hx hb dX4_termsOfColumn_9 (by decide) (fun c_9 => ?_) (fun c_9 => ?_)
  · have h := h.1 c_9
    refine lv_iload_n hx hb dX4_termsOfColumn_58 rfl (lv_at hl 2 rfl) ?_
    exact W.iret hx hb hr (fun t ht hW => ⟨⟨_, (), rfl, h, by rw [ht]; exact hP, hD⟩, hS.F ht⟩) hS.2.2 dX4_termsOfColumn_59
  · have h := h.2 c_9
    refine lv_aload_n hx hb dX4_termsOfColumn_12 rfl (lv_at hl 0 rfl) ?_
    refine va_get (D := G.1) (ci := 4) (v := .ref (ad 1)) (C := RX4) (T := TX4) (N := 10) hx hb hts hinX4 hown hK.1 hP 0 rfl rfl 4 (by decide) (hts (.fieldLink RX4 24 "PlaFolder$State" "ones" "[I") (by decide +kernel)) (fun _ h9 => h9) rfl dX4_termsOfColumn_13 ?_
    refine lv_iload_n hx hb dX4_termsOfColumn_16 rfl (lv_at hl 3 rfl) ?_
    obtain ⟨hi10, h⟩ := h
    refine x_iald hx hb hK hP 1 rfl hi10 rfl dX4_termsOfColumn_17 ?_
    refine lv_aload_n hx hb dX4_termsOfColumn_18 rfl (lv_at hl 0 rfl) ?_
    refine va_get (D := G.1) (ci := 4) (v := .ref (ad 2)) (C := RX4) (T := TX4) (N := 10) hx hb hts hinX4 hown hK.1 hP 0 rfl rfl 5 (by decide) (hts (.fieldLink RX4 28 "PlaFolder$State" "zeros" "[I") (by decide +kernel)) (fun _ h9 => h9) rfl dX4_termsOfColumn_19 ?_
    refine lv_iload_n hx hb dX4_termsOfColumn_22 rfl (lv_at hl 3 rfl) ?_
    obtain ⟨hi11, h⟩ := h
    refine x_iald hx hb hK hP 2 rfl hi11 rfl dX4_termsOfColumn_23 ?_
    refine lv_ior hx hb dX4_termsOfColumn_24 ?_
    refine lv_aload_n hx hb dX4_termsOfColumn_25 rfl (lv_at hl 0 rfl) ?_
    refine va_get (D := G.1) (ci := 4) (v := .ref (ad 3)) (C := RX4) (T := TX4) (N := 10) hx hb hts hinX4 hown hK.1 hP 0 rfl rfl 6 (by decide) (hts (.fieldLink RX4 31 "PlaFolder$State" "outs" "[I") (by decide +kernel)) (fun _ h9 => h9) rfl dX4_termsOfColumn_26 ?_
    refine lv_iload_n hx hb dX4_termsOfColumn_29 rfl (lv_at hl 3 rfl) ?_
    obtain ⟨hi12, h⟩ := h
    refine x_iald hx hb hK hP 3 rfl hi12 rfl dX4_termsOfColumn_30 ?_
    refine lv_bipush (v := (nI 6)) hx hb dX4_termsOfColumn_31 (by decide) ?_
    refine lv_ishl hx hb dX4_termsOfColumn_33 ?_
    refine lv_ior hx hb dX4_termsOfColumn_34 ?_
    refine lv_istore (lv' := [(4, .int (((on x2.toNatClampNeg) ||| (ze x2.toNatClampNeg)) ||| (jshl (ou x2.toNatClampNeg) (nI 6)))), (0, .ref (ad 0)), (1, .int a1), (2, .int x1), (3, .int x2)]) hx hb dX4_termsOfColumn_35 hl (by decide) rfl (fun ls hl => ?_)
    refine lv_iload hx hb dX4_termsOfColumn_37 (lv_at hl 0 rfl) ?_
    refine lv_iload_n hx hb dX4_termsOfColumn_39 rfl (lv_at hl 2 rfl) ?_
    refine kc_i (wr := ([0, 1, 2, 3, 4, 5, 6] : List Nat).filterMap (fun i => (wS G ad inp otp tc fc on ze ou wd lo up)[i]?)) (va_runSN (As := [.int (((on x2.toNatClampNeg) ||| (ze x2.toNatClampNeg)) ||| (jshl (ou x2.toNatClampNeg) (nI 6))), .int a1]) (rest := []) ⟨hx, hb, hml, hown, hts⟩ (c_X5_contains l G  _  (((on x2.toNatClampNeg) ||| (ze x2.toNatClampNeg)) ||| (jshl (ou x2.toNatClampNeg) (nI 6))) a1 h) ⟨va_cnB 2 hts gX4_termsOfColumn_X5_contains_n67 rfl rfl rfl (hK.2.M 12 (q := ("PlaFolder$State", 67, ⟨"PlaFolder", "contains", "(II)Z"⟩, "PlaFolder")) rfl) (hts (.initialized RX5) (by decide +kernel)) (by decide +kernel) ⟨Nat.le_of_ble_eq_true rfl, Nat.le_of_ble_eq_true rfl⟩, hts (.static yX5_contains) (by decide +kernel), trivial⟩ (kpS hK hP hD hZ hS hA [] rfl (by decide)) rfl rfl hl.1 rfl (lv_room (Nat.le_of_ble_eq_true rfl)) dX4_termsOfColumn_40 ⟨Nat.zero_le _, Nat.zero_le _⟩) hP hD hS hA [] [0, 1, 2, 3, 4, 5, 6] rfl rfl (by decide) (by decide) (fun r13 w21 H locs h hP hD hS => ?_)
    have hP : va_P G.1 vwCl (wS G ad inp otp tc fc on ze ou wd lo up) H := hP
    have hD : va_D A (wS G ad inp otp tc fc on ze ou wd lo up) := hD
    try dsimp only at h
    refine lv_if_eq (tgt := 52) hx hb dX4_termsOfColumn_43 (by decide) (fun c_14 => ?_) (fun c_14 => ?_)
    · have h := h.1 c_14
      refine lv_iinc (v := (x2 + (1 : Int32))) (lv' := [(3, .int (x2 + (1 : Int32))), (4, .int (((on x2.toNatClampNeg) ||| (ze x2.toNatClampNeg)) ||| (jshl (ou x2.toNatClampNeg) (nI 6)))), (0, .ref (ad 0)), (1, .int a1), (2, .int x1)]) hx hb dX4_termsOfColumn_52 hl (k := 4) rfl rfl (by decide) rfl (fun ls hl => ?_)
      refine lv_goto (tgt := 4) hx hb dX4_termsOfColumn_55 (by decide) ?_
      obtain ⟨n16, hn15, hI17⟩ := h
      exact ih7 n16 (x1, (x2 + (1 : Int32))) hn15 hI17 _ _ _ ⟨hP, hD, hS, lv_sub hl [2, 3, 4, 0] rfl⟩
    · have h := h.2 c_14
      refine lv_iload_n hx hb dX4_termsOfColumn_46 rfl (lv_at hl 3 rfl) ?_
      refine lv_iconst (v := (1 : Int32)) hx hb dX4_termsOfColumn_47 (by decide) ?_
      refine lv_iload_n hx hb dX4_termsOfColumn_48 rfl (lv_at hl 4 rfl) ?_
      refine lv_ishl hx hb dX4_termsOfColumn_49 ?_
      refine lv_ior hx hb dX4_termsOfColumn_50 ?_
      refine lv_istore_n (lv' := [(2, .int (x1 ||| (jshl (1 : Int32) x2))), (4, .int (((on x2.toNatClampNeg) ||| (ze x2.toNatClampNeg)) ||| (jshl (ou x2.toNatClampNeg) (nI 6)))), (0, .ref (ad 0)), (1, .int a1), (3, .int x2)]) hx hb dX4_termsOfColumn_51 rfl hl (by decide) rfl (fun ls hl => ?_)
      refine lv_iinc (v := (x2 + (1 : Int32))) (lv' := [(3, .int (x2 + (1 : Int32))), (2, .int (x1 ||| (jshl (1 : Int32) x2))), (4, .int (((on x2.toNatClampNeg) ||| (ze x2.toNatClampNeg)) ||| (jshl (ou x2.toNatClampNeg) (nI 6)))), (0, .ref (ad 0)), (1, .int a1)]) hx hb dX4_termsOfColumn_52 hl (k := 4) rfl rfl (by decide) rfl (fun ls hl => ?_)
      refine lv_goto (tgt := 4) hx hb dX4_termsOfColumn_55 (by decide) ?_
      obtain ⟨n19, hn18, hI20⟩ := h
      exact ih7 n19 ((x1 ||| (jshl (1 : Int32) x2)), (x2 + (1 : Int32))) hn18 hI20 _ _ _ ⟨hP, hD, hS, lv_sub hl [3, 4, 1, 0] rfl⟩
def wp_X4_isPair (a1 : Int32) (a2 : Int32) (tc : Int32) (on : Nat → Int32) (ze : Nat → Int32) (ou : Nat → Int32) (K : Int32 → Prop) : Prop :=
 (Jn1 (fun (y2 : Int32) => (Jn1 (fun (y6 : Int32) => (Jn1 (fun (y10 : Int32) => ((a1 = a2 → K (0 : Int32)) ∧
 (¬ (a1 = a2) → ((y10 = 0 → K (0 : Int32)) ∧
 (¬ (y10 = 0) → wp_X4_termsOfColumn a1 tc on ze ou (fun (r15 : Int32) => wp_X4_termsOfColumn a2 tc on ze ou (fun (r16 : Int32) => ((¬ (r15 &&& r16) = 0 → K (0 : Int32)) ∧
 ((r15 &&& r16) = 0 → K (1 : Int32))))))))))
 (fun (J11 : Int32 → Prop) => ((¬ y2 = y6 → J11 (0 : Int32)) ∧
 (y2 = y6 → J11 (1 : Int32))))))
 (fun (J7 : Int32 → Prop) => (((nI 6) ≤ a2 → J7 (0 : Int32)) ∧
 (¬ ((nI 6) ≤ a2) → J7 (1 : Int32))))))
 (fun (J3 : Int32 → Prop) => (((nI 6) ≤ a1 → J3 (0 : Int32)) ∧
 (¬ ((nI 6) ≤ a1) → J3 (1 : Int32)))))
abbrev rm_X4_isPair : Room := { frames := 2, cells := 0, slots := 0, locals := 45 }
set_option maxHeartbeats 4000000 in
set_option maxRecDepth 100000 in
theorem c_X4_isPair (l : Launch) (G : GG) (ad : Nat → Nat) (sz : Nat) (inp : Int32) (otp : Int32) (tc : Int32) (fc : Int32) (on : Nat → Int32) (ze : Nat → Int32) (ou : Nat → Int32) (wd : Nat → Int64) (lo : Nat → Int32) (up : Nat → Int32) (a1 : Int32) (a2 : Int32) {K : Int32 → Prop} (h : wp_X4_isPair a1 a2 tc on ze ou K) : CI l yX4_isPair wsX4_isPair rm_X4_isPair G [.ref (ad 0), .int a1, .int a2] (wS G ad inp otp tc fc on ze ou wd lo up) sz (fun u : Unit => wS G ad inp otp tc fc on ze ou wd lo up) (fun r u => K r ) := by
  refine Met.ofW (cc := cX4_isPair) (maxL := 4) (ret := (some .boolean)) (by decide) rfl ?_
  intro p e s m args below meth c s₁ B hml hv
  obtain ⟨rfl, hsz, hP, hK, hD0, hZ⟩ := hv
  have hx := B.exec
  have hb := B.bytes
  have hr := B.returns
  have hts := atoms_spec (ws := wsX4_isPair) B.pre
  have hown : s.vm.findClass RX4 = some m.cls := findClass_of_methodNamed B.named
  have hlocks := B.notSynchronized
  subst hsz
  have hD := hD0.self (sz := s.heap.size)
  generalize hAe : va_A (wS G ad inp otp tc fc on ze ou wd lo up) s.heap.size = A at hD hZ ⊢
  have hA : ∀ q : Nat, s.heap.size ≤ q → A q := fun q h => by rw [← hAe]; exact Or.inr h
  have hS : va_S A s.heap s.heap [] := va_S.rf
  have hl := lv_entry ([.ref (ad 0), .int a1, .int a2]) (n := 4) (Nat.le_of_ble_eq_true rfl)
  rw [lg_entry_eq]
  generalize (lg_sl ([.ref (ad 0), .int a1, .int a2]) ++ List.replicate (4 - (lg_sl ([.ref (ad 0), .int a1, .int a2])).length) Slot.unset).toArray = ls at hl ⊢
  have hl : lv_has ls 4 [(0, .ref (ad 0)), (1, .int a1), (2, .int a2)] := hl
  unfold wp_X4_isPair at h
  refine lv_iload_n hx hb dX4_isPair_0 rfl (lv_at hl 1 rfl) ?_
  refine lv_bipush (v := (nI 6)) hx hb dX4_isPair_1 (by decide) ?_
  obtain ⟨J3, hJ22, h⟩ := h
  refine joinW (σ := Int32) (J := fun q => J3 q) (pc := 11) (st := fun q => .int q :: []) (P := fun q H locs ls => va_P G.1 vwCl (wS G ad inp otp tc fc on ze ou wd lo up) H ∧ va_D A (wS G ad inp otp tc fc on ze ou wd lo up) ∧ va_S A s.heap H locs ∧ lv_has ls 4 [(0, .ref (ad 0)), (1, .int a1), (2, .int a2)]) ?_ (fun join4 => ?_)
  · rintro y2 h H locs ls ⟨hP, hD, hS, hl⟩
    have hP : va_P G.1 vwCl (wS G ad inp otp tc fc on ze ou wd lo up) H := hP
    have hD : va_D A (wS G ad inp otp tc fc on ze ou wd lo up) := hD
    have hl : lv_has ls 4 [(0, .ref (ad 0)), (1, .int a1), (2, .int a2)] := hl
    have h := hJ22 y2 h
    refine W.eq (g2 := F0 m 11 ls (.int y2 :: [])) rfl ?_
    refine lv_iload_n hx hb dX4_isPair_11 rfl (lv_at hl 2 rfl) ?_
    refine lv_bipush (v := (nI 6)) hx hb dX4_isPair_12 (by decide) ?_
    obtain ⟨J7, hJ21, h⟩ := h
    refine joinW (σ := Int32) (J := fun q => J7 q) (pc := 22) (st := fun q => .int q :: .int y2 :: []) (P := fun q H locs ls => va_P G.1 vwCl (wS G ad inp otp tc fc on ze ou wd lo up) H ∧ va_D A (wS G ad inp otp tc fc on ze ou wd lo up) ∧ va_S A s.heap H locs ∧ lv_has ls 4 [(0, .ref (ad 0)), (1, .int a1), (2, .int a2)]) ?_ (fun join8 => ?_)
    · rintro y6 h H locs ls ⟨hP, hD, hS, hl⟩
      have hP : va_P G.1 vwCl (wS G ad inp otp tc fc on ze ou wd lo up) H := hP
      have hD : va_D A (wS G ad inp otp tc fc on ze ou wd lo up) := hD
      have hl : lv_has ls 4 [(0, .ref (ad 0)), (1, .int a1), (2, .int a2)] := hl
      have h := hJ21 y6 h
      refine W.eq (g2 := F0 m 22 ls (.int y6 :: .int y2 :: [])) rfl ?_
      obtain ⟨J11, hJ20, h⟩ := h
      refine joinW (σ := Int32) (J := fun q => J11 q) (pc := 30) (st := fun q => .int q :: []) (P := fun q H locs ls => va_P G.1 vwCl (wS G ad inp otp tc fc on ze ou wd lo up) H ∧ va_D A (wS G ad inp otp tc fc on ze ou wd lo up) ∧ va_S A s.heap H locs ∧ lv_has ls 4 [(0, .ref (ad 0)), (1, .int a1), (2, .int a2)]) ?_ (fun join12 => ?_)
      · rintro y10 h H locs ls ⟨hP, hD, hS, hl⟩
        have hP : va_P G.1 vwCl (wS G ad inp otp tc fc on ze ou wd lo up) H := hP
        have hD : va_D A (wS G ad inp otp tc fc on ze ou wd lo up) := hD
        have hl : lv_has ls 4 [(0, .ref (ad 0)), (1, .int a1), (2, .int a2)] := hl
        have h := hJ20 y10 h
        refine W.eq (g2 := F0 m 30 ls (.int y10 :: [])) rfl ?_
        refine lv_istore_n (lv' := [(3, .int y10), (0, .ref (ad 0)), (1, .int a1), (2, .int a2)]) hx hb dX4_isPair_30 rfl hl (by decide) rfl (fun ls hl => ?_)
        refine lv_iload_n hx hb dX4_isPair_31 rfl (lv_at hl 2 rfl) ?_
        refine lv_iload_n hx hb dX4_isPair_32 rfl (lv_at hl 3 rfl) ?_
        refine lv_icmp_eq (tgt := 58) hx hb dX4_isPair_33 (by decide) (fun c_13 => ?_) (fun c_13 => ?_)
        · have h := h.1 c_13
          refine lv_iconst (v := (0 : Int32)) hx hb dX4_isPair_58 (by decide) ?_
          exact W.zret hx hb hr (by decide) (fun t ht hW => ⟨⟨_, (), rfl, h, by rw [ht]; exact hP, hD⟩, hS.F ht⟩) hS.2.2 dX4_isPair_59
        · have h := h.2 c_13
          refine lv_iload_n hx hb dX4_isPair_36 rfl (lv_at hl 0 rfl) ?_
          refine lv_if_eq (tgt := 58) hx hb dX4_isPair_37 (by decide) (fun c_14 => ?_) (fun c_14 => ?_)
          · have h := h.1 c_14
            refine lv_iconst (v := (0 : Int32)) hx hb dX4_isPair_58 (by decide) ?_
            exact W.zret hx hb hr (by decide) (fun t ht hW => ⟨⟨_, (), rfl, h, by rw [ht]; exact hP, hD⟩, hS.F ht⟩) hS.2.2 dX4_isPair_59
          · have h := h.2 c_14
            refine lv_aload_n hx hb dX4_isPair_40 rfl (lv_at hl 1 rfl) ?_
            refine lv_iload_n hx hb dX4_isPair_41 rfl (lv_at hl 2 rfl) ?_
            refine kc_i (wr := ([] : va_W)) (va_runV (As := [.int a1]) (rest := []) ⟨hx, hb, hml, hown, hts⟩ (c_X4_termsOfColumn l G ad _ inp otp tc fc on ze ou wd lo up a1 h) (cwV 1 hts gX4_isPair_X4_termsOfColumn rfl rfl rfl (by decide +kernel) ⟨Nat.le_of_ble_eq_true rfl, Nat.le_of_ble_eq_true rfl⟩) (kpV hK hP hD hZ hS hA [0, 1, 2, 3, 4, 5, 6] rfl (by decide) (q0 := 0) (ci := 4) rfl rfl) rfl rfl hl.1 rfl (lv_room (Nat.le_of_ble_eq_true rfl)) dX4_isPair_42 ⟨Nat.zero_le _, Nat.zero_le _⟩) hP hD hS hA [0, 1, 2, 3, 4, 5, 6] [] rfl rfl (by decide) (by decide) (fun r15 w19 H locs h hP hD hS => ?_)
            have hP : va_P G.1 vwCl (wS G ad inp otp tc fc on ze ou wd lo up) H := hP
            have hD : va_D A (wS G ad inp otp tc fc on ze ou wd lo up) := hD
            try dsimp only at h
            refine lv_aload_n hx hb dX4_isPair_45 rfl (lv_at hl 1 rfl) ?_
            refine lv_iload_n hx hb dX4_isPair_46 rfl (lv_at hl 3 rfl) ?_
            refine kc_i (wr := ([] : va_W)) (va_runV (As := [.int a2]) (rest := [.int r15]) ⟨hx, hb, hml, hown, hts⟩ (c_X4_termsOfColumn l G ad _ inp otp tc fc on ze ou wd lo up a2 h) (cwV 1 hts gX4_isPair_X4_termsOfColumn rfl rfl rfl (by decide +kernel) ⟨Nat.le_of_ble_eq_true rfl, Nat.le_of_ble_eq_true rfl⟩) (kpV hK hP hD hZ hS hA [0, 1, 2, 3, 4, 5, 6] rfl (by decide) (q0 := 0) (ci := 4) rfl rfl) rfl rfl hl.1 rfl (lv_room (Nat.le_of_ble_eq_true rfl)) dX4_isPair_47 ⟨Nat.zero_le _, Nat.zero_le _⟩) hP hD hS hA [0, 1, 2, 3, 4, 5, 6] [] rfl rfl (by decide) (by decide) (fun r16 w18 H locs h hP hD hS => ?_)
            have hP : va_P G.1 vwCl (wS G ad inp otp tc fc on ze ou wd lo up) H := hP
            have hD : va_D A (wS G ad inp otp tc fc on ze ou wd lo up) := hD
            try dsimp only at h
            refine lv_iand hx hb dX4_isPair_50 ?_
            refine lv_if_ne (tgt := 58) hx hb dX4_isPair_51 (by decide) (fun c_17 => ?_) (fun c_17 => ?_)
            · have h := h.1 c_17
              refine lv_iconst (v := (0 : Int32)) hx hb dX4_isPair_58 (by decide) ?_
              exact W.zret hx hb hr (by decide) (fun t ht hW => ⟨⟨_, (), rfl, h, by rw [ht]; exact hP, hD⟩, hS.F ht⟩) hS.2.2 dX4_isPair_59
            · have h := h.2 c_17
              refine lv_iconst (v := (1 : Int32)) hx hb dX4_isPair_54 (by decide) ?_
              refine lv_goto (tgt := 59) hx hb dX4_isPair_55 (by decide) ?_
              exact W.zret hx hb hr (by decide) (fun t ht hW => ⟨⟨_, (), rfl, h, by rw [ht]; exact hP, hD⟩, hS.F ht⟩) hS.2.2 dX4_isPair_59
      · refine lv_icmp_ne (tgt := 29) hx hb dX4_isPair_22 (by decide) (fun c_9 => ?_) (fun c_9 => ?_)
        · have h := h.1 c_9
          refine lv_iconst (v := (0 : Int32)) hx hb dX4_isPair_29 (by decide) ?_
          exact join12 (0 : Int32) h _ _ _ ⟨hP, hD, hS, lv_sub hl [0, 1, 2] rfl⟩
        · have h := h.2 c_9
          refine lv_iconst (v := (1 : Int32)) hx hb dX4_isPair_25 (by decide) ?_
          refine lv_goto (tgt := 30) hx hb dX4_isPair_26 (by decide) ?_
          exact join12 (1 : Int32) h _ _ _ ⟨hP, hD, hS, lv_sub hl [0, 1, 2] rfl⟩
    · refine lv_icmp_ge (tgt := 21) hx hb dX4_isPair_14 (by decide) (fun c_5 => ?_) (fun c_5 => ?_)
      · have h := h.1 c_5
        refine lv_iconst (v := (0 : Int32)) hx hb dX4_isPair_21 (by decide) ?_
        exact join8 (0 : Int32) h _ _ _ ⟨hP, hD, hS, lv_sub hl [0, 1, 2] rfl⟩
      · have h := h.2 c_5
        refine lv_iconst (v := (1 : Int32)) hx hb dX4_isPair_17 (by decide) ?_
        refine lv_goto (tgt := 22) hx hb dX4_isPair_18 (by decide) ?_
        exact join8 (1 : Int32) h _ _ _ ⟨hP, hD, hS, lv_sub hl [0, 1, 2] rfl⟩
  · refine lv_icmp_ge (tgt := 10) hx hb dX4_isPair_3 (by decide) (fun c_1 => ?_) (fun c_1 => ?_)
    · have h := h.1 c_1
      refine lv_iconst (v := (0 : Int32)) hx hb dX4_isPair_10 (by decide) ?_
      exact join4 (0 : Int32) h _ _ _ ⟨hP, hD, hS, lv_sub hl [0, 1, 2] rfl⟩
    · have h := h.2 c_1
      refine lv_iconst (v := (1 : Int32)) hx hb dX4_isPair_6 (by decide) ?_
      refine lv_goto (tgt := 11) hx hb dX4_isPair_7 (by decide) ?_
      exact join4 (1 : Int32) h _ _ _ ⟨hP, hD, hS, lv_sub hl [0, 1, 2] rfl⟩
def wp_X4_mateOf (a1 : Int32) (lo : Nat → Int32) (up : Nat → Int32) (K : Int32 → Prop) : Prop :=
 (vp_in a1 10 ∧ (((lo a1.toNatClampNeg) = (-1 : Int32) → (vp_in a1 10 ∧ K (up a1.toNatClampNeg))) ∧
 (¬ ((lo a1.toNatClampNeg) = (-1 : Int32)) → (vp_in a1 10 ∧ K (lo a1.toNatClampNeg)))))
abbrev rm_X4_mateOf : Room := { frames := 0, cells := 0, slots := 0, locals := 0 }
set_option maxHeartbeats 4000000 in
set_option maxRecDepth 100000 in
theorem c_X4_mateOf (l : Launch) (G : GG) (ad : Nat → Nat) (sz : Nat) (inp : Int32) (otp : Int32) (tc : Int32) (fc : Int32) (on : Nat → Int32) (ze : Nat → Int32) (ou : Nat → Int32) (wd : Nat → Int64) (lo : Nat → Int32) (up : Nat → Int32) (a1 : Int32) {K : Int32 → Prop} (h : wp_X4_mateOf a1 lo up K) : CI l yX4_mateOf wsX4_mateOf rm_X4_mateOf G [.ref (ad 0), .int a1] (wS G ad inp otp tc fc on ze ou wd lo up) sz (fun u : Unit => wS G ad inp otp tc fc on ze ou wd lo up) (fun r u => K r ) := by
  refine Met.ofW (cc := cX4_mateOf) (maxL := 2) (ret := (some .int)) (by decide) rfl ?_
  intro p e s m args below meth c s₁ B hml hv
  obtain ⟨rfl, hsz, hP, hK, hD0, hZ⟩ := hv
  have hx := B.exec
  have hb := B.bytes
  have hr := B.returns
  have hts := atoms_spec (ws := wsX4_mateOf) B.pre
  have hown : s.vm.findClass RX4 = some m.cls := findClass_of_methodNamed B.named
  have hlocks := B.notSynchronized
  subst hsz
  have hD := hD0.self (sz := s.heap.size)
  generalize hAe : va_A (wS G ad inp otp tc fc on ze ou wd lo up) s.heap.size = A at hD hZ ⊢
  have hA : ∀ q : Nat, s.heap.size ≤ q → A q := fun q h => by rw [← hAe]; exact Or.inr h
  have hS : va_S A s.heap s.heap [] := va_S.rf
  have hl := lv_entry ([.ref (ad 0), .int a1]) (n := 2) (Nat.le_of_ble_eq_true rfl)
  rw [lg_entry_eq]
  generalize (lg_sl ([.ref (ad 0), .int a1]) ++ List.replicate (2 - (lg_sl ([.ref (ad 0), .int a1])).length) Slot.unset).toArray = ls at hl ⊢
  have hl : lv_has ls 2 [(0, .ref (ad 0)), (1, .int a1)] := hl
  unfold wp_X4_mateOf at h
  have hinX4 : ∀ w ∈ wsX40, w ∈ wsX4_mateOf := by decide +kernel
  refine lv_aload_n hx hb dX4_mateOf_0 rfl (lv_at hl 0 rfl) ?_
  refine va_get (D := G.1) (ci := 4) (v := .ref (ad 5)) (C := RX4) (T := TX4) (N := 10) hx hb hts hinX4 hown hK.1 hP 0 rfl rfl 8 (by decide) (hts (.fieldLink RX4 38 "PlaFolder$State" "lowerOf" "[I") (by decide +kernel)) (fun _ h9 => h9) rfl dX4_mateOf_1 ?_
  refine lv_iload_n hx hb dX4_mateOf_4 rfl (lv_at hl 1 rfl) ?_
  obtain ⟨hi1, h⟩ := h
  refine x_iald hx hb hK hP 5 rfl hi1 rfl dX4_mateOf_5 ?_
  refine lv_iconst (v := (-1 : Int32)) hx hb dX4_mateOf_6 (by decide) ?_
  refine lv_icmp_eq (tgt := 19) hx hb dX4_mateOf_7 (by decide) (fun c_2 => ?_) (fun c_2 => ?_)
  · have h := h.1 c_2
    refine lv_aload_n hx hb dX4_mateOf_19 rfl (lv_at hl 0 rfl) ?_
    refine va_get (D := G.1) (ci := 4) (v := .ref (ad 6)) (C := RX4) (T := TX4) (N := 10) hx hb hts hinX4 hown hK.1 hP 0 rfl rfl 9 (by decide) (hts (.fieldLink RX4 41 "PlaFolder$State" "upperOf" "[I") (by decide +kernel)) (fun _ h9 => h9) rfl dX4_mateOf_20 ?_
    refine lv_iload_n hx hb dX4_mateOf_23 rfl (lv_at hl 1 rfl) ?_
    obtain ⟨hi3, h⟩ := h
    refine x_iald hx hb hK hP 6 rfl hi3 rfl dX4_mateOf_24 ?_
    exact W.iret hx hb hr (fun t ht hW => ⟨⟨_, (), rfl, h, by rw [ht]; exact hP, hD⟩, hS.F ht⟩) hS.2.2 dX4_mateOf_25
  · have h := h.2 c_2
    refine lv_aload_n hx hb dX4_mateOf_10 rfl (lv_at hl 0 rfl) ?_
    refine va_get (D := G.1) (ci := 4) (v := .ref (ad 5)) (C := RX4) (T := TX4) (N := 10) hx hb hts hinX4 hown hK.1 hP 0 rfl rfl 8 (by decide) (hts (.fieldLink RX4 38 "PlaFolder$State" "lowerOf" "[I") (by decide +kernel)) (fun _ h9 => h9) rfl dX4_mateOf_11 ?_
    refine lv_iload_n hx hb dX4_mateOf_14 rfl (lv_at hl 1 rfl) ?_
    obtain ⟨hi4, h⟩ := h
    refine x_iald hx hb hK hP 5 rfl hi4 rfl dX4_mateOf_15 ?_
    refine lv_goto (tgt := 25) hx hb dX4_mateOf_16 (by decide) ?_
    exact W.iret hx hb hr (fun t ht hW => ⟨⟨_, (), rfl, h, by rw [ht]; exact hP, hD⟩, hS.F ht⟩) hS.2.2 dX4_mateOf_25
def wp_X4_join (a1 : Int32) (a2 : Int32) (fc : Int32) (lo : Nat → Int32) (up : Nat → Int32) (K : Int32 → (Nat → Int32) → (Nat → Int32) → Prop) : Prop :=
 (vp_in a1 10 ∧ (vp_in a2 10 ∧ K (fc + (1 : Int32)) (upd lo a1.toNatClampNeg a2) (upd up a2.toNatClampNeg a1)))
abbrev rm_X4_join : Room := { frames := 0, cells := 0, slots := 0, locals := 0 }
set_option maxHeartbeats 4000000 in
set_option maxRecDepth 100000 in
theorem c_X4_join (l : Launch) (G : GG) (ad : Nat → Nat) (sz : Nat) (inp : Int32) (otp : Int32) (tc : Int32) (fc : Int32) (on : Nat → Int32) (ze : Nat → Int32) (ou : Nat → Int32) (wd : Nat → Int64) (lo : Nat → Int32) (up : Nat → Int32) (a1 : Int32) (a2 : Int32) {K : Int32 → (Nat → Int32) → (Nat → Int32) → Prop} (h : wp_X4_join a1 a2 fc lo up K) : CV l yX4_join wsX4_join rm_X4_join G [.ref (ad 0), .int a1, .int a2] (wS G ad inp otp tc fc on ze ou wd lo up) sz (fun u : Int32 × (Nat → Int32) × (Nat → Int32) => wS G ad inp otp tc u.1 on ze ou wd u.2.1 u.2.2) (fun u => K u.1 u.2.1 u.2.2) := by
  refine Met.ofW (cc := cX4_join) (maxL := 3) (ret := none) (by decide) rfl ?_
  intro p e s m args below meth c s₁ B hml hv
  obtain ⟨rfl, hsz, hP, hK, hD0, hZ⟩ := hv
  have hx := B.exec
  have hb := B.bytes
  have hr := B.returns
  have hts := atoms_spec (ws := wsX4_join) B.pre
  have hown : s.vm.findClass RX4 = some m.cls := findClass_of_methodNamed B.named
  have hlocks := B.notSynchronized
  subst hsz
  have hD := hD0.self (sz := s.heap.size)
  generalize hAe : va_A (wS G ad inp otp tc fc on ze ou wd lo up) s.heap.size = A at hD hZ ⊢
  have hA : ∀ q : Nat, s.heap.size ≤ q → A q := fun q h => by rw [← hAe]; exact Or.inr h
  have hS : va_S A s.heap s.heap [] := va_S.rf
  have hl := lv_entry ([.ref (ad 0), .int a1, .int a2]) (n := 3) (Nat.le_of_ble_eq_true rfl)
  rw [lg_entry_eq]
  generalize (lg_sl ([.ref (ad 0), .int a1, .int a2]) ++ List.replicate (3 - (lg_sl ([.ref (ad 0), .int a1, .int a2])).length) Slot.unset).toArray = ls at hl ⊢
  have hl : lv_has ls 3 [(0, .ref (ad 0)), (1, .int a1), (2, .int a2)] := hl
  unfold wp_X4_join at h
  have hinX4 : ∀ w ∈ wsX40, w ∈ wsX4_join := by decide +kernel
  refine lv_aload_n hx hb dX4_join_0 rfl (lv_at hl 0 rfl) ?_
  refine va_get (D := G.1) (ci := 4) (v := .ref (ad 5)) (C := RX4) (T := TX4) (N := 10) hx hb hts hinX4 hown hK.1 hP 0 rfl rfl 8 (by decide) (hts (.fieldLink RX4 38 "PlaFolder$State" "lowerOf" "[I") (by decide +kernel)) (fun _ h9 => h9) rfl dX4_join_1 ?_
  refine lv_iload_n hx hb dX4_join_4 rfl (lv_at hl 1 rfl) ?_
  refine lv_iload_n hx hb dX4_join_5 rfl (lv_at hl 2 rfl) ?_
  obtain ⟨hi1, h⟩ := h
  refine x_iast hx hb hK hP hD hS 5 rfl hi1 rfl dX4_join_6 (fun H locs hP hD hS => ?_)
  have hP : va_P G.1 vwCl (wS G ad inp otp tc fc on ze ou wd (upd lo a1.toNatClampNeg a2) up) H := hP
  have hD : va_D A (wS G ad inp otp tc fc on ze ou wd (upd lo a1.toNatClampNeg a2) up) := hD
  refine lv_aload_n hx hb dX4_join_7 rfl (lv_at hl 0 rfl) ?_
  refine va_get (D := G.1) (ci := 4) (v := .ref (ad 6)) (C := RX4) (T := TX4) (N := 10) hx hb hts hinX4 hown hK.1 hP 0 rfl rfl 9 (by decide) (hts (.fieldLink RX4 41 "PlaFolder$State" "upperOf" "[I") (by decide +kernel)) (fun _ h9 => h9) rfl dX4_join_8 ?_
  refine lv_iload_n hx hb dX4_join_11 rfl (lv_at hl 2 rfl) ?_
  refine lv_iload_n hx hb dX4_join_12 rfl (lv_at hl 1 rfl) ?_
  obtain ⟨hi2, h⟩ := h
  refine x_iast hx hb hK hP hD hS 6 rfl hi2 rfl dX4_join_13 (fun H locs hP hD hS => ?_)
  have hP : va_P G.1 vwCl (wS G ad inp otp tc fc on ze ou wd (upd lo a1.toNatClampNeg a2) (upd up a2.toNatClampNeg a1)) H := hP
  have hD : va_D A (wS G ad inp otp tc fc on ze ou wd (upd lo a1.toNatClampNeg a2) (upd up a2.toNatClampNeg a1)) := hD
  refine lv_aload_n hx hb dX4_join_14 rfl (lv_at hl 0 rfl) ?_
  refine lv_dup hx hb dX4_join_15 rfl ?_
  refine va_get (D := G.1) (ci := 4) (v := .int fc) (C := RX4) (T := TX4) (N := 10) hx hb hts hinX4 hown hK.1 hP 0 rfl rfl 3 (by decide) (hts (.fieldLink RX4 21 "PlaFolder$State" "foldCount" "I") (by decide +kernel)) (fun _ h9 => h9) rfl dX4_join_16 ?_
  refine lv_iconst (v := (1 : Int32)) hx hb dX4_join_19 (by decide) ?_
  refine lv_iadd hx hb dX4_join_20 ?_
  refine va_put (D := G.1) (ci := 4) (v := .int (fc + (1 : Int32))) (ty := .int) (C := RX4) (T := TX4) (N := 10) hx hb hts hinX4 tyX4 tyX4_ok nmX4 hown hK.1 hP hD hS 0 rfl rfl 3 (by decide) (hts (.fieldLink RX4 21 "PlaFolder$State" "foldCount" "I") (by decide +kernel)) (fun _ h9 => h9) rfl (by decide +kernel) rfl rfl (Nat.le_of_ble_eq_true rfl) dX4_join_21 (fun H locs hP hD hS => ?_)
  have hP : va_P G.1 vwCl (wS G ad inp otp tc (fc + (1 : Int32)) on ze ou wd (upd lo a1.toNatClampNeg a2) (upd up a2.toNatClampNeg a1)) H := hP
  have hD : va_D A (wS G ad inp otp tc (fc + (1 : Int32)) on ze ou wd (upd lo a1.toNatClampNeg a2) (upd up a2.toNatClampNeg a1)) := hD
  exact W.vret hx hb hr (fun t ht hW => ⟨⟨((fc + (1 : Int32)), (upd lo a1.toNatClampNeg a2), (upd up a2.toNatClampNeg a1)), rfl, h, by rw [ht]; exact hP, hD⟩, hS.F ht⟩) hS.2.2 dX4_join_24
def wp_X4_part (a1 : Int32) (fc : Int32) (lo : Nat → Int32) (up : Nat → Int32) (K : Int32 → (Nat → Int32) → (Nat → Int32) → Prop) : Prop :=
 wp_X4_mateOf a1 lo up (fun (r1 : Int32) => ((¬ r1 = (-1 : Int32) → (vp_in a1 10 ∧ (vp_in a1 10 ∧ (vp_in r1 10 ∧ (vp_in r1 10 ∧ K (fc - (1 : Int32)) (upd (upd lo a1.toNatClampNeg (-1 : Int32)) r1.toNatClampNeg (-1 : Int32)) (upd (upd up a1.toNatClampNeg (-1 : Int32)) r1.toNatClampNeg (-1 : Int32))))))) ∧
 (r1 = (-1 : Int32) → K fc lo up)))
abbrev rm_X4_part : Room := { frames := 1, cells := 0, slots := 0, locals := 21 }
set_option maxHeartbeats 4000000 in
set_option maxRecDepth 100000 in
theorem c_X4_part (l : Launch) (G : GG) (ad : Nat → Nat) (sz : Nat) (inp : Int32) (otp : Int32) (tc : Int32) (fc : Int32) (on : Nat → Int32) (ze : Nat → Int32) (ou : Nat → Int32) (wd : Nat → Int64) (lo : Nat → Int32) (up : Nat → Int32) (a1 : Int32) {K : Int32 → (Nat → Int32) → (Nat → Int32) → Prop} (h : wp_X4_part a1 fc lo up K) : CV l yX4_part wsX4_part rm_X4_part G [.ref (ad 0), .int a1] (wS G ad inp otp tc fc on ze ou wd lo up) sz (fun u : Int32 × (Nat → Int32) × (Nat → Int32) => wS G ad inp otp tc u.1 on ze ou wd u.2.1 u.2.2) (fun u => K u.1 u.2.1 u.2.2) := by
  refine Met.ofW (cc := cX4_part) (maxL := 3) (ret := none) (by decide) rfl ?_
  intro p e s m args below meth c s₁ B hml hv
  obtain ⟨rfl, hsz, hP, hK, hD0, hZ⟩ := hv
  have hx := B.exec
  have hb := B.bytes
  have hr := B.returns
  have hts := atoms_spec (ws := wsX4_part) B.pre
  have hown : s.vm.findClass RX4 = some m.cls := findClass_of_methodNamed B.named
  have hlocks := B.notSynchronized
  subst hsz
  have hD := hD0.self (sz := s.heap.size)
  generalize hAe : va_A (wS G ad inp otp tc fc on ze ou wd lo up) s.heap.size = A at hD hZ ⊢
  have hA : ∀ q : Nat, s.heap.size ≤ q → A q := fun q h => by rw [← hAe]; exact Or.inr h
  have hS : va_S A s.heap s.heap [] := va_S.rf
  have hl := lv_entry ([.ref (ad 0), .int a1]) (n := 3) (Nat.le_of_ble_eq_true rfl)
  rw [lg_entry_eq]
  generalize (lg_sl ([.ref (ad 0), .int a1]) ++ List.replicate (3 - (lg_sl ([.ref (ad 0), .int a1])).length) Slot.unset).toArray = ls at hl ⊢
  have hl : lv_has ls 3 [(0, .ref (ad 0)), (1, .int a1)] := hl
  unfold wp_X4_part at h
  have hinX4 : ∀ w ∈ wsX40, w ∈ wsX4_part := by decide +kernel
  refine lv_aload_n hx hb dX4_part_0 rfl (lv_at hl 0 rfl) ?_
  refine lv_iload_n hx hb dX4_part_1 rfl (lv_at hl 1 rfl) ?_
  refine kc_i (wr := ([] : va_W)) (va_runV (As := [.int a1]) (rest := []) ⟨hx, hb, hml, hown, hts⟩ (c_X4_mateOf l G ad _ inp otp tc fc on ze ou wd lo up a1 h) (cwV 1 hts gX4_part_X4_mateOf rfl rfl rfl (by decide +kernel) ⟨Nat.le_of_ble_eq_true rfl, Nat.le_of_ble_eq_true rfl⟩) (kpV hK hP hD hZ hS hA [0, 1, 2, 3, 4, 5, 6] rfl (by decide) (q0 := 0) (ci := 4) rfl rfl) rfl rfl hl.1 rfl (lv_room (Nat.le_of_ble_eq_true rfl)) dX4_part_2 ⟨Nat.zero_le _, Nat.zero_le _⟩) hP hD hS hA [0, 1, 2, 3, 4, 5, 6] [] rfl rfl (by decide) (by decide) (fun r1 w7 H locs h hP hD hS => ?_)
  have hP : va_P G.1 vwCl (wS G ad inp otp tc fc on ze ou wd lo up) H := hP
  have hD : va_D A (wS G ad inp otp tc fc on ze ou wd lo up) := hD
  try dsimp only at h
  refine lv_istore_n (lv' := [(2, .int r1), (0, .ref (ad 0)), (1, .int a1)]) hx hb dX4_part_5 rfl hl (by decide) rfl (fun ls hl => ?_)
  refine lv_iload_n hx hb dX4_part_6 rfl (lv_at hl 0 rfl) ?_
  refine lv_iconst (v := (-1 : Int32)) hx hb dX4_part_7 (by decide) ?_
  refine lv_icmp_ne (tgt := 12) hx hb dX4_part_8 (by decide) (fun c_2 => ?_) (fun c_2 => ?_)
  · have h := h.1 c_2
    refine lv_aload_n hx hb dX4_part_12 rfl (lv_at hl 1 rfl) ?_
    refine va_get (D := G.1) (ci := 4) (v := .ref (ad 5)) (C := RX4) (T := TX4) (N := 10) hx hb hts hinX4 hown hK.1 hP 0 rfl rfl 8 (by decide) (hts (.fieldLink RX4 38 "PlaFolder$State" "lowerOf" "[I") (by decide +kernel)) (fun _ h9 => h9) rfl dX4_part_13 ?_
    refine lv_iload_n hx hb dX4_part_16 rfl (lv_at hl 2 rfl) ?_
    refine lv_iconst (v := (-1 : Int32)) hx hb dX4_part_17 (by decide) ?_
    obtain ⟨hi3, h⟩ := h
    refine x_iast hx hb hK hP hD hS 5 rfl hi3 rfl dX4_part_18 (fun H locs hP hD hS => ?_)
    have hP : va_P G.1 vwCl (wS G ad inp otp tc fc on ze ou wd (upd lo a1.toNatClampNeg (-1 : Int32)) up) H := hP
    have hD : va_D A (wS G ad inp otp tc fc on ze ou wd (upd lo a1.toNatClampNeg (-1 : Int32)) up) := hD
    refine lv_aload_n hx hb dX4_part_19 rfl (lv_at hl 1 rfl) ?_
    refine va_get (D := G.1) (ci := 4) (v := .ref (ad 6)) (C := RX4) (T := TX4) (N := 10) hx hb hts hinX4 hown hK.1 hP 0 rfl rfl 9 (by decide) (hts (.fieldLink RX4 41 "PlaFolder$State" "upperOf" "[I") (by decide +kernel)) (fun _ h9 => h9) rfl dX4_part_20 ?_
    refine lv_iload_n hx hb dX4_part_23 rfl (lv_at hl 2 rfl) ?_
    refine lv_iconst (v := (-1 : Int32)) hx hb dX4_part_24 (by decide) ?_
    obtain ⟨hi4, h⟩ := h
    refine x_iast hx hb hK hP hD hS 6 rfl hi4 rfl dX4_part_25 (fun H locs hP hD hS => ?_)
    have hP : va_P G.1 vwCl (wS G ad inp otp tc fc on ze ou wd (upd lo a1.toNatClampNeg (-1 : Int32)) (upd up a1.toNatClampNeg (-1 : Int32))) H := hP
    have hD : va_D A (wS G ad inp otp tc fc on ze ou wd (upd lo a1.toNatClampNeg (-1 : Int32)) (upd up a1.toNatClampNeg (-1 : Int32))) := hD
    refine lv_aload_n hx hb dX4_part_26 rfl (lv_at hl 1 rfl) ?_
    refine va_get (D := G.1) (ci := 4) (v := .ref (ad 5)) (C := RX4) (T := TX4) (N := 10) hx hb hts hinX4 hown hK.1 hP 0 rfl rfl 8 (by decide) (hts (.fieldLink RX4 38 "PlaFolder$State" "lowerOf" "[I") (by decide +kernel)) (fun _ h9 => h9) rfl dX4_part_27 ?_
    refine lv_iload_n hx hb dX4_part_30 rfl (lv_at hl 0 rfl) ?_
    refine lv_iconst (v := (-1 : Int32)) hx hb dX4_part_31 (by decide) ?_
    obtain ⟨hi5, h⟩ := h
    refine x_iast hx hb hK hP hD hS 5 rfl hi5 rfl dX4_part_32 (fun H locs hP hD hS => ?_)
    have hP : va_P G.1 vwCl (wS G ad inp otp tc fc on ze ou wd (upd (upd lo a1.toNatClampNeg (-1 : Int32)) r1.toNatClampNeg (-1 : Int32)) (upd up a1.toNatClampNeg (-1 : Int32))) H := hP
    have hD : va_D A (wS G ad inp otp tc fc on ze ou wd (upd (upd lo a1.toNatClampNeg (-1 : Int32)) r1.toNatClampNeg (-1 : Int32)) (upd up a1.toNatClampNeg (-1 : Int32))) := hD
    refine lv_aload_n hx hb dX4_part_33 rfl (lv_at hl 1 rfl) ?_
    refine va_get (D := G.1) (ci := 4) (v := .ref (ad 6)) (C := RX4) (T := TX4) (N := 10) hx hb hts hinX4 hown hK.1 hP 0 rfl rfl 9 (by decide) (hts (.fieldLink RX4 41 "PlaFolder$State" "upperOf" "[I") (by decide +kernel)) (fun _ h9 => h9) rfl dX4_part_34 ?_
    refine lv_iload_n hx hb dX4_part_37 rfl (lv_at hl 0 rfl) ?_
    refine lv_iconst (v := (-1 : Int32)) hx hb dX4_part_38 (by decide) ?_
    obtain ⟨hi6, h⟩ := h
    refine x_iast hx hb hK hP hD hS 6 rfl hi6 rfl dX4_part_39 (fun H locs hP hD hS => ?_)
    have hP : va_P G.1 vwCl (wS G ad inp otp tc fc on ze ou wd (upd (upd lo a1.toNatClampNeg (-1 : Int32)) r1.toNatClampNeg (-1 : Int32)) (upd (upd up a1.toNatClampNeg (-1 : Int32)) r1.toNatClampNeg (-1 : Int32))) H := hP
    have hD : va_D A (wS G ad inp otp tc fc on ze ou wd (upd (upd lo a1.toNatClampNeg (-1 : Int32)) r1.toNatClampNeg (-1 : Int32)) (upd (upd up a1.toNatClampNeg (-1 : Int32)) r1.toNatClampNeg (-1 : Int32))) := hD
    refine lv_aload_n hx hb dX4_part_40 rfl (lv_at hl 1 rfl) ?_
    refine lv_dup hx hb dX4_part_41 rfl ?_
    refine va_get (D := G.1) (ci := 4) (v := .int fc) (C := RX4) (T := TX4) (N := 10) hx hb hts hinX4 hown hK.1 hP 0 rfl rfl 3 (by decide) (hts (.fieldLink RX4 21 "PlaFolder$State" "foldCount" "I") (by decide +kernel)) (fun _ h9 => h9) rfl dX4_part_42 ?_
    refine lv_iconst (v := (1 : Int32)) hx hb dX4_part_45 (by decide) ?_
    refine lv_isub hx hb dX4_part_46 ?_
    refine va_put (D := G.1) (ci := 4) (v := .int (fc - (1 : Int32))) (ty := .int) (C := RX4) (T := TX4) (N := 10) hx hb hts hinX4 tyX4 tyX4_ok nmX4 hown hK.1 hP hD hS 0 rfl rfl 3 (by decide) (hts (.fieldLink RX4 21 "PlaFolder$State" "foldCount" "I") (by decide +kernel)) (fun _ h9 => h9) rfl (by decide +kernel) rfl rfl (Nat.le_of_ble_eq_true rfl) dX4_part_47 (fun H locs hP hD hS => ?_)
    have hP : va_P G.1 vwCl (wS G ad inp otp tc (fc - (1 : Int32)) on ze ou wd (upd (upd lo a1.toNatClampNeg (-1 : Int32)) r1.toNatClampNeg (-1 : Int32)) (upd (upd up a1.toNatClampNeg (-1 : Int32)) r1.toNatClampNeg (-1 : Int32))) H := hP
    have hD : va_D A (wS G ad inp otp tc (fc - (1 : Int32)) on ze ou wd (upd (upd lo a1.toNatClampNeg (-1 : Int32)) r1.toNatClampNeg (-1 : Int32)) (upd (upd up a1.toNatClampNeg (-1 : Int32)) r1.toNatClampNeg (-1 : Int32))) := hD
    exact W.vret hx hb hr (fun t ht hW => ⟨⟨((fc - (1 : Int32)), (upd (upd lo a1.toNatClampNeg (-1 : Int32)) r1.toNatClampNeg (-1 : Int32)), (upd (upd up a1.toNatClampNeg (-1 : Int32)) r1.toNatClampNeg (-1 : Int32))), rfl, h, by rw [ht]; exact hP, hD⟩, hS.F ht⟩) hS.2.2 dX4_part_50
  · have h := h.2 c_2
    exact W.vret hx hb hr (fun t ht hW => ⟨⟨(fc, lo, up), rfl, h, by rw [ht]; exact hP, hD⟩, hS.F ht⟩) hS.2.2 dX4_part_11
def wp_X4_copyFrom (inp : Int32) (otp : Int32) (tc : Int32) (fc : Int32) (on : Nat → Int32) (ze : Nat → Int32) (ou : Nat → Int32) (wd : Nat → Int64) (lo : Nat → Int32) (up : Nat → Int32) (oinp : Int32) (ootp : Int32) (otc : Int32) (ofc : Int32) (oon : Nat → Int32) (oze : Nat → Int32) (oou : Nat → Int32) (owd : Nat → Int64) (olo : Nat → Int32) (oup : Nat → Int32) (K : Int32 → Int32 → Int32 → Int32 → (Nat → Int32) → (Nat → Int32) → (Nat → Int32) → (Nat → Int64) → (Nat → Int32) → (Nat → Int32) → Prop) : Prop :=
 K oinp ootp otc ofc (va_cpy oon on 0 0 10) (va_cpy oze ze 0 0 10) (va_cpy oou ou 0 0 10) (va_cpy owd wd 0 0 10) (va_cpy olo lo 0 0 10) (va_cpy oup up 0 0 10)
abbrev rm_X4_copyFrom : Room := { frames := 1, cells := 0, slots := 0, locals := 60 }
set_option maxHeartbeats 4000000 in
set_option maxRecDepth 100000 in
theorem c_X4_copyFrom (l : Launch) (G : GG) (ad : Nat → Nat) (ae : Nat → Nat) (sz : Nat) (inp : Int32) (otp : Int32) (tc : Int32) (fc : Int32) (on : Nat → Int32) (ze : Nat → Int32) (ou : Nat → Int32) (wd : Nat → Int64) (lo : Nat → Int32) (up : Nat → Int32) (oinp : Int32) (ootp : Int32) (otc : Int32) (ofc : Int32) (oon : Nat → Int32) (oze : Nat → Int32) (oou : Nat → Int32) (owd : Nat → Int64) (olo : Nat → Int32) (oup : Nat → Int32) {K : Int32 → Int32 → Int32 → Int32 → (Nat → Int32) → (Nat → Int32) → (Nat → Int32) → (Nat → Int64) → (Nat → Int32) → (Nat → Int32) → Prop} (h : wp_X4_copyFrom inp otp tc fc on ze ou wd lo up oinp ootp otc ofc oon oze oou owd olo oup K) : CV l yX4_copyFrom wsX4_copyFrom rm_X4_copyFrom G [.ref (ad 0), .ref (ae 0)] (wS G ad inp otp tc fc on ze ou wd lo up ++ (wS G ae oinp ootp otc ofc oon oze oou owd olo oup)) sz (fun u : Int32 × Int32 × Int32 × Int32 × (Nat → Int32) × (Nat → Int32) × (Nat → Int32) × (Nat → Int64) × (Nat → Int32) × (Nat → Int32) => wS G ad u.1 u.2.1 u.2.2.1 u.2.2.2.1 u.2.2.2.2.1 u.2.2.2.2.2.1 u.2.2.2.2.2.2.1 u.2.2.2.2.2.2.2.1 u.2.2.2.2.2.2.2.2.1 u.2.2.2.2.2.2.2.2.2 ++ (wS G ae oinp ootp otc ofc oon oze oou owd olo oup)) (fun u => K u.1 u.2.1 u.2.2.1 u.2.2.2.1 u.2.2.2.2.1 u.2.2.2.2.2.1 u.2.2.2.2.2.2.1 u.2.2.2.2.2.2.2.1 u.2.2.2.2.2.2.2.2.1 u.2.2.2.2.2.2.2.2.2) := by
  refine Met.ofW (cc := cX4_copyFrom) (maxL := 2) (ret := none) (by decide) rfl ?_
  intro p e s m args below meth c s₁ B hml hv
  obtain ⟨rfl, hsz, hP, hK, hD0, hZ⟩ := hv
  have hx := B.exec
  have hb := B.bytes
  have hr := B.returns
  have hts := atoms_spec (ws := wsX4_copyFrom) B.pre
  have hown : s.vm.findClass RX4 = some m.cls := findClass_of_methodNamed B.named
  have hlocks := B.notSynchronized
  subst hsz
  have hD := hD0.self (sz := s.heap.size)
  generalize hAe : va_A (wS G ad inp otp tc fc on ze ou wd lo up ++ (wS G ae oinp ootp otc ofc oon oze oou owd olo oup)) s.heap.size = A at hD hZ ⊢
  have hA : ∀ q : Nat, s.heap.size ≤ q → A q := fun q h => by rw [← hAe]; exact Or.inr h
  have hS : va_S A s.heap s.heap [] := va_S.rf
  have hl := lv_entry ([.ref (ad 0), .ref (ae 0)]) (n := 2) (Nat.le_of_ble_eq_true rfl)
  rw [lg_entry_eq]
  generalize (lg_sl ([.ref (ad 0), .ref (ae 0)]) ++ List.replicate (2 - (lg_sl ([.ref (ad 0), .ref (ae 0)])).length) Slot.unset).toArray = ls at hl ⊢
  have hl : lv_has ls 2 [(0, .ref (ad 0)), (1, .ref (ae 0))] := hl
  unfold wp_X4_copyFrom at h
  have hinX4 : ∀ w ∈ wsX40, w ∈ wsX4_copyFrom := by decide +kernel
  refine lv_aload_n hx hb dX4_copyFrom_0 rfl (lv_at hl 0 rfl) ?_
  refine lv_aload_n hx hb dX4_copyFrom_1 rfl (lv_at hl 1 rfl) ?_
  refine va_get (D := G.1) (ci := 4) (v := .int oinp) (C := RX4) (T := TX4) (N := 10) hx hb hts hinX4 hown hK.1 hP.r 0 rfl rfl 0 (by decide) (hts (.fieldLink RX4 9 "PlaFolder$State" "inputs" "I") (by decide +kernel)) (fun _ h9 => h9) rfl dX4_copyFrom_2 ?_
  refine va_put (D := G.1) (ci := 4) (v := .int oinp) (ty := .int) (C := RX4) (T := TX4) (N := 10) hx hb hts hinX4 tyX4 tyX4_ok nmX4 hown hK.1 hP hD hS 0 rfl rfl 0 (by decide) (hts (.fieldLink RX4 9 "PlaFolder$State" "inputs" "I") (by decide +kernel)) (fun _ h9 => h9) rfl (by decide +kernel) rfl rfl (Nat.le_of_ble_eq_true rfl) dX4_copyFrom_5 (fun H locs hP hD hS => ?_)
  have hP : va_P G.1 vwCl (wS G ad oinp otp tc fc on ze ou wd lo up ++ (wS G ae oinp ootp otc ofc oon oze oou owd olo oup)) H := hP
  have hD : va_D A (wS G ad oinp otp tc fc on ze ou wd lo up ++ (wS G ae oinp ootp otc ofc oon oze oou owd olo oup)) := hD
  refine lv_aload_n hx hb dX4_copyFrom_8 rfl (lv_at hl 0 rfl) ?_
  refine lv_aload_n hx hb dX4_copyFrom_9 rfl (lv_at hl 1 rfl) ?_
  refine va_get (D := G.1) (ci := 4) (v := .int ootp) (C := RX4) (T := TX4) (N := 10) hx hb hts hinX4 hown hK.1 hP.r 0 rfl rfl 1 (by decide) (hts (.fieldLink RX4 15 "PlaFolder$State" "outputs" "I") (by decide +kernel)) (fun _ h9 => h9) rfl dX4_copyFrom_10 ?_
  refine va_put (D := G.1) (ci := 4) (v := .int ootp) (ty := .int) (C := RX4) (T := TX4) (N := 10) hx hb hts hinX4 tyX4 tyX4_ok nmX4 hown hK.1 hP hD hS 0 rfl rfl 1 (by decide) (hts (.fieldLink RX4 15 "PlaFolder$State" "outputs" "I") (by decide +kernel)) (fun _ h9 => h9) rfl (by decide +kernel) rfl rfl (Nat.le_of_ble_eq_true rfl) dX4_copyFrom_13 (fun H locs hP hD hS => ?_)
  have hP : va_P G.1 vwCl (wS G ad oinp ootp tc fc on ze ou wd lo up ++ (wS G ae oinp ootp otc ofc oon oze oou owd olo oup)) H := hP
  have hD : va_D A (wS G ad oinp ootp tc fc on ze ou wd lo up ++ (wS G ae oinp ootp otc ofc oon oze oou owd olo oup)) := hD
  refine lv_aload_n hx hb dX4_copyFrom_16 rfl (lv_at hl 0 rfl) ?_
  refine lv_aload_n hx hb dX4_copyFrom_17 rfl (lv_at hl 1 rfl) ?_
  refine va_get (D := G.1) (ci := 4) (v := .int otc) (C := RX4) (T := TX4) (N := 10) hx hb hts hinX4 hown hK.1 hP.r 0 rfl rfl 2 (by decide) (hts (.fieldLink RX4 18 "PlaFolder$State" "termCount" "I") (by decide +kernel)) (fun _ h9 => h9) rfl dX4_copyFrom_18 ?_
  refine va_put (D := G.1) (ci := 4) (v := .int otc) (ty := .int) (C := RX4) (T := TX4) (N := 10) hx hb hts hinX4 tyX4 tyX4_ok nmX4 hown hK.1 hP hD hS 0 rfl rfl 2 (by decide) (hts (.fieldLink RX4 18 "PlaFolder$State" "termCount" "I") (by decide +kernel)) (fun _ h9 => h9) rfl (by decide +kernel) rfl rfl (Nat.le_of_ble_eq_true rfl) dX4_copyFrom_21 (fun H locs hP hD hS => ?_)
  have hP : va_P G.1 vwCl (wS G ad oinp ootp otc fc on ze ou wd lo up ++ (wS G ae oinp ootp otc ofc oon oze oou owd olo oup)) H := hP
  have hD : va_D A (wS G ad oinp ootp otc fc on ze ou wd lo up ++ (wS G ae oinp ootp otc ofc oon oze oou owd olo oup)) := hD
  refine lv_aload_n hx hb dX4_copyFrom_24 rfl (lv_at hl 0 rfl) ?_
  refine lv_aload_n hx hb dX4_copyFrom_25 rfl (lv_at hl 1 rfl) ?_
  refine va_get (D := G.1) (ci := 4) (v := .int ofc) (C := RX4) (T := TX4) (N := 10) hx hb hts hinX4 hown hK.1 hP.r 0 rfl rfl 3 (by decide) (hts (.fieldLink RX4 21 "PlaFolder$State" "foldCount" "I") (by decide +kernel)) (fun _ h9 => h9) rfl dX4_copyFrom_26 ?_
  refine va_put (D := G.1) (ci := 4) (v := .int ofc) (ty := .int) (C := RX4) (T := TX4) (N := 10) hx hb hts hinX4 tyX4 tyX4_ok nmX4 hown hK.1 hP hD hS 0 rfl rfl 3 (by decide) (hts (.fieldLink RX4 21 "PlaFolder$State" "foldCount" "I") (by decide +kernel)) (fun _ h9 => h9) rfl (by decide +kernel) rfl rfl (Nat.le_of_ble_eq_true rfl) dX4_copyFrom_29 (fun H locs hP hD hS => ?_)
  have hP : va_P G.1 vwCl (wS G ad oinp ootp otc ofc on ze ou wd lo up ++ (wS G ae oinp ootp otc ofc oon oze oou owd olo oup)) H := hP
  have hD : va_D A (wS G ad oinp ootp otc ofc on ze ou wd lo up ++ (wS G ae oinp ootp otc ofc oon oze oou owd olo oup)) := hD
  refine lv_aload_n hx hb dX4_copyFrom_32 rfl (lv_at hl 1 rfl) ?_
  refine va_get (D := G.1) (ci := 4) (v := .ref (ae 1)) (C := RX4) (T := TX4) (N := 10) hx hb hts hinX4 hown hK.1 hP.r 0 rfl rfl 4 (by decide) (hts (.fieldLink RX4 24 "PlaFolder$State" "ones" "[I") (by decide +kernel)) (fun _ h9 => h9) rfl dX4_copyFrom_33 ?_
  refine lv_iconst (v := (0 : Int32)) hx hb dX4_copyFrom_36 (by decide) ?_
  refine lv_aload_n hx hb dX4_copyFrom_37 rfl (lv_at hl 0 rfl) ?_
  refine va_get (D := G.1) (ci := 4) (v := .ref (ad 1)) (C := RX4) (T := TX4) (N := 10) hx hb hts hinX4 hown hK.1 hP.l 0 rfl rfl 4 (by decide) (hts (.fieldLink RX4 24 "PlaFolder$State" "ones" "[I") (by decide +kernel)) (fun _ h9 => h9) rfl dX4_copyFrom_38 ?_
  refine lv_iconst (v := (0 : Int32)) hx hb dX4_copyFrom_41 (by decide) ?_
  refine lv_bipush (v := (nI 10)) hx hb dX4_copyFrom_42 (by decide) ?_
  refine va_copyi hx hb (by rw [hml]; exact hl.1.symm) hown (hts (.methodLink RX4 50 arraycopyName) (by decide +kernel)) (hts (.native arraycopyName) (by decide +kernel)) (hts (.static arraycopyName) (by decide +kernel)) (hts (.initialized "java/lang/System") (by decide +kernel)) hK.1 hP hD hS 8 1 0 0 rfl rfl rfl rfl rfl (by decide) (by decide) (by decide) (by decide) (by decide) (fun _ _ => rfl) (Nat.le_of_ble_eq_true rfl) (Nat.le_of_ble_eq_true rfl) dX4_copyFrom_44 (fun H locs hP hD hS => ?_)
  have hP : va_P G.1 vwCl (wS G ad oinp ootp otc ofc (va_cpy oon on 0 0 10) ze ou wd lo up ++ (wS G ae oinp ootp otc ofc oon oze oou owd olo oup)) H := hP
  have hD : va_D A (wS G ad oinp ootp otc ofc (va_cpy oon on 0 0 10) ze ou wd lo up ++ (wS G ae oinp ootp otc ofc oon oze oou owd olo oup)) := hD
  refine lv_aload_n hx hb dX4_copyFrom_47 rfl (lv_at hl 1 rfl) ?_
  refine va_get (D := G.1) (ci := 4) (v := .ref (ae 2)) (C := RX4) (T := TX4) (N := 10) hx hb hts hinX4 hown hK.1 hP.r 0 rfl rfl 5 (by decide) (hts (.fieldLink RX4 28 "PlaFolder$State" "zeros" "[I") (by decide +kernel)) (fun _ h9 => h9) rfl dX4_copyFrom_48 ?_
  refine lv_iconst (v := (0 : Int32)) hx hb dX4_copyFrom_51 (by decide) ?_
  refine lv_aload_n hx hb dX4_copyFrom_52 rfl (lv_at hl 0 rfl) ?_
  refine va_get (D := G.1) (ci := 4) (v := .ref (ad 2)) (C := RX4) (T := TX4) (N := 10) hx hb hts hinX4 hown hK.1 hP.l 0 rfl rfl 5 (by decide) (hts (.fieldLink RX4 28 "PlaFolder$State" "zeros" "[I") (by decide +kernel)) (fun _ h9 => h9) rfl dX4_copyFrom_53 ?_
  refine lv_iconst (v := (0 : Int32)) hx hb dX4_copyFrom_56 (by decide) ?_
  refine lv_bipush (v := (nI 10)) hx hb dX4_copyFrom_57 (by decide) ?_
  refine va_copyi hx hb (by rw [hml]; exact hl.1.symm) hown (hts (.methodLink RX4 50 arraycopyName) (by decide +kernel)) (hts (.native arraycopyName) (by decide +kernel)) (hts (.static arraycopyName) (by decide +kernel)) (hts (.initialized "java/lang/System") (by decide +kernel)) hK.1 hP hD hS 9 2 0 0 rfl rfl rfl rfl rfl (by decide) (by decide) (by decide) (by decide) (by decide) (fun _ _ => rfl) (Nat.le_of_ble_eq_true rfl) (Nat.le_of_ble_eq_true rfl) dX4_copyFrom_59 (fun H locs hP hD hS => ?_)
  have hP : va_P G.1 vwCl (wS G ad oinp ootp otc ofc (va_cpy oon on 0 0 10) (va_cpy oze ze 0 0 10) ou wd lo up ++ (wS G ae oinp ootp otc ofc oon oze oou owd olo oup)) H := hP
  have hD : va_D A (wS G ad oinp ootp otc ofc (va_cpy oon on 0 0 10) (va_cpy oze ze 0 0 10) ou wd lo up ++ (wS G ae oinp ootp otc ofc oon oze oou owd olo oup)) := hD
  refine lv_aload_n hx hb dX4_copyFrom_62 rfl (lv_at hl 1 rfl) ?_
  refine va_get (D := G.1) (ci := 4) (v := .ref (ae 3)) (C := RX4) (T := TX4) (N := 10) hx hb hts hinX4 hown hK.1 hP.r 0 rfl rfl 6 (by decide) (hts (.fieldLink RX4 31 "PlaFolder$State" "outs" "[I") (by decide +kernel)) (fun _ h9 => h9) rfl dX4_copyFrom_63 ?_
  refine lv_iconst (v := (0 : Int32)) hx hb dX4_copyFrom_66 (by decide) ?_
  refine lv_aload_n hx hb dX4_copyFrom_67 rfl (lv_at hl 0 rfl) ?_
  refine va_get (D := G.1) (ci := 4) (v := .ref (ad 3)) (C := RX4) (T := TX4) (N := 10) hx hb hts hinX4 hown hK.1 hP.l 0 rfl rfl 6 (by decide) (hts (.fieldLink RX4 31 "PlaFolder$State" "outs" "[I") (by decide +kernel)) (fun _ h9 => h9) rfl dX4_copyFrom_68 ?_
  refine lv_iconst (v := (0 : Int32)) hx hb dX4_copyFrom_71 (by decide) ?_
  refine lv_bipush (v := (nI 10)) hx hb dX4_copyFrom_72 (by decide) ?_
  refine va_copyi hx hb (by rw [hml]; exact hl.1.symm) hown (hts (.methodLink RX4 50 arraycopyName) (by decide +kernel)) (hts (.native arraycopyName) (by decide +kernel)) (hts (.static arraycopyName) (by decide +kernel)) (hts (.initialized "java/lang/System") (by decide +kernel)) hK.1 hP hD hS 10 3 0 0 rfl rfl rfl rfl rfl (by decide) (by decide) (by decide) (by decide) (by decide) (fun _ _ => rfl) (Nat.le_of_ble_eq_true rfl) (Nat.le_of_ble_eq_true rfl) dX4_copyFrom_74 (fun H locs hP hD hS => ?_)
  have hP : va_P G.1 vwCl (wS G ad oinp ootp otc ofc (va_cpy oon on 0 0 10) (va_cpy oze ze 0 0 10) (va_cpy oou ou 0 0 10) wd lo up ++ (wS G ae oinp ootp otc ofc oon oze oou owd olo oup)) H := hP
  have hD : va_D A (wS G ad oinp ootp otc ofc (va_cpy oon on 0 0 10) (va_cpy oze ze 0 0 10) (va_cpy oou ou 0 0 10) wd lo up ++ (wS G ae oinp ootp otc ofc oon oze oou owd olo oup)) := hD
  refine lv_aload_n hx hb dX4_copyFrom_77 rfl (lv_at hl 1 rfl) ?_
  refine va_get (D := G.1) (ci := 4) (v := .ref (ae 4)) (C := RX4) (T := TX4) (N := 10) hx hb hts hinX4 hown hK.1 hP.r 0 rfl rfl 7 (by decide) (hts (.fieldLink RX4 34 "PlaFolder$State" "words" "[J") (by decide +kernel)) (fun _ h9 => h9) rfl dX4_copyFrom_78 ?_
  refine lv_iconst (v := (0 : Int32)) hx hb dX4_copyFrom_81 (by decide) ?_
  refine lv_aload_n hx hb dX4_copyFrom_82 rfl (lv_at hl 0 rfl) ?_
  refine va_get (D := G.1) (ci := 4) (v := .ref (ad 4)) (C := RX4) (T := TX4) (N := 10) hx hb hts hinX4 hown hK.1 hP.l 0 rfl rfl 7 (by decide) (hts (.fieldLink RX4 34 "PlaFolder$State" "words" "[J") (by decide +kernel)) (fun _ h9 => h9) rfl dX4_copyFrom_83 ?_
  refine lv_iconst (v := (0 : Int32)) hx hb dX4_copyFrom_86 (by decide) ?_
  refine lv_bipush (v := (nI 10)) hx hb dX4_copyFrom_87 (by decide) ?_
  refine va_copyl hx hb (by rw [hml]; exact hl.1.symm) hown (hts (.methodLink RX4 50 arraycopyName) (by decide +kernel)) (hts (.native arraycopyName) (by decide +kernel)) (hts (.static arraycopyName) (by decide +kernel)) (hts (.initialized "java/lang/System") (by decide +kernel)) hK.1 hP hD hS 11 4 1 1 rfl rfl rfl rfl rfl (by decide) (by decide) (by decide) (by decide) (by decide) (fun _ _ => rfl) (Nat.le_of_ble_eq_true rfl) (Nat.le_of_ble_eq_true rfl) dX4_copyFrom_89 (fun H locs hP hD hS => ?_)
  have hP : va_P G.1 vwCl (wS G ad oinp ootp otc ofc (va_cpy oon on 0 0 10) (va_cpy oze ze 0 0 10) (va_cpy oou ou 0 0 10) (va_cpy owd wd 0 0 10) lo up ++ (wS G ae oinp ootp otc ofc oon oze oou owd olo oup)) H := hP
  have hD : va_D A (wS G ad oinp ootp otc ofc (va_cpy oon on 0 0 10) (va_cpy oze ze 0 0 10) (va_cpy oou ou 0 0 10) (va_cpy owd wd 0 0 10) lo up ++ (wS G ae oinp ootp otc ofc oon oze oou owd olo oup)) := hD
  refine lv_aload_n hx hb dX4_copyFrom_92 rfl (lv_at hl 1 rfl) ?_
  refine va_get (D := G.1) (ci := 4) (v := .ref (ae 5)) (C := RX4) (T := TX4) (N := 10) hx hb hts hinX4 hown hK.1 hP.r 0 rfl rfl 8 (by decide) (hts (.fieldLink RX4 38 "PlaFolder$State" "lowerOf" "[I") (by decide +kernel)) (fun _ h9 => h9) rfl dX4_copyFrom_93 ?_
  refine lv_iconst (v := (0 : Int32)) hx hb dX4_copyFrom_96 (by decide) ?_
  refine lv_aload_n hx hb dX4_copyFrom_97 rfl (lv_at hl 0 rfl) ?_
  refine va_get (D := G.1) (ci := 4) (v := .ref (ad 5)) (C := RX4) (T := TX4) (N := 10) hx hb hts hinX4 hown hK.1 hP.l 0 rfl rfl 8 (by decide) (hts (.fieldLink RX4 38 "PlaFolder$State" "lowerOf" "[I") (by decide +kernel)) (fun _ h9 => h9) rfl dX4_copyFrom_98 ?_
  refine lv_iconst (v := (0 : Int32)) hx hb dX4_copyFrom_101 (by decide) ?_
  refine lv_bipush (v := (nI 10)) hx hb dX4_copyFrom_102 (by decide) ?_
  refine va_copyi hx hb (by rw [hml]; exact hl.1.symm) hown (hts (.methodLink RX4 50 arraycopyName) (by decide +kernel)) (hts (.native arraycopyName) (by decide +kernel)) (hts (.static arraycopyName) (by decide +kernel)) (hts (.initialized "java/lang/System") (by decide +kernel)) hK.1 hP hD hS 12 5 0 0 rfl rfl rfl rfl rfl (by decide) (by decide) (by decide) (by decide) (by decide) (fun _ _ => rfl) (Nat.le_of_ble_eq_true rfl) (Nat.le_of_ble_eq_true rfl) dX4_copyFrom_104 (fun H locs hP hD hS => ?_)
  have hP : va_P G.1 vwCl (wS G ad oinp ootp otc ofc (va_cpy oon on 0 0 10) (va_cpy oze ze 0 0 10) (va_cpy oou ou 0 0 10) (va_cpy owd wd 0 0 10) (va_cpy olo lo 0 0 10) up ++ (wS G ae oinp ootp otc ofc oon oze oou owd olo oup)) H := hP
  have hD : va_D A (wS G ad oinp ootp otc ofc (va_cpy oon on 0 0 10) (va_cpy oze ze 0 0 10) (va_cpy oou ou 0 0 10) (va_cpy owd wd 0 0 10) (va_cpy olo lo 0 0 10) up ++ (wS G ae oinp ootp otc ofc oon oze oou owd olo oup)) := hD
  refine lv_aload_n hx hb dX4_copyFrom_107 rfl (lv_at hl 1 rfl) ?_
  refine va_get (D := G.1) (ci := 4) (v := .ref (ae 6)) (C := RX4) (T := TX4) (N := 10) hx hb hts hinX4 hown hK.1 hP.r 0 rfl rfl 9 (by decide) (hts (.fieldLink RX4 41 "PlaFolder$State" "upperOf" "[I") (by decide +kernel)) (fun _ h9 => h9) rfl dX4_copyFrom_108 ?_
  refine lv_iconst (v := (0 : Int32)) hx hb dX4_copyFrom_111 (by decide) ?_
  refine lv_aload_n hx hb dX4_copyFrom_112 rfl (lv_at hl 0 rfl) ?_
  refine va_get (D := G.1) (ci := 4) (v := .ref (ad 6)) (C := RX4) (T := TX4) (N := 10) hx hb hts hinX4 hown hK.1 hP.l 0 rfl rfl 9 (by decide) (hts (.fieldLink RX4 41 "PlaFolder$State" "upperOf" "[I") (by decide +kernel)) (fun _ h9 => h9) rfl dX4_copyFrom_113 ?_
  refine lv_iconst (v := (0 : Int32)) hx hb dX4_copyFrom_116 (by decide) ?_
  refine lv_bipush (v := (nI 10)) hx hb dX4_copyFrom_117 (by decide) ?_
  refine va_copyi hx hb (by rw [hml]; exact hl.1.symm) hown (hts (.methodLink RX4 50 arraycopyName) (by decide +kernel)) (hts (.native arraycopyName) (by decide +kernel)) (hts (.static arraycopyName) (by decide +kernel)) (hts (.initialized "java/lang/System") (by decide +kernel)) hK.1 hP hD hS 13 6 0 0 rfl rfl rfl rfl rfl (by decide) (by decide) (by decide) (by decide) (by decide) (fun _ _ => rfl) (Nat.le_of_ble_eq_true rfl) (Nat.le_of_ble_eq_true rfl) dX4_copyFrom_119 (fun H locs hP hD hS => ?_)
  have hP : va_P G.1 vwCl (wS G ad oinp ootp otc ofc (va_cpy oon on 0 0 10) (va_cpy oze ze 0 0 10) (va_cpy oou ou 0 0 10) (va_cpy owd wd 0 0 10) (va_cpy olo lo 0 0 10) (va_cpy oup up 0 0 10) ++ (wS G ae oinp ootp otc ofc oon oze oou owd olo oup)) H := hP
  have hD : va_D A (wS G ad oinp ootp otc ofc (va_cpy oon on 0 0 10) (va_cpy oze ze 0 0 10) (va_cpy oou ou 0 0 10) (va_cpy owd wd 0 0 10) (va_cpy olo lo 0 0 10) (va_cpy oup up 0 0 10) ++ (wS G ae oinp ootp otc ofc oon oze oou owd olo oup)) := hD
  exact W.vret hx hb hr (fun t ht hW => ⟨⟨(oinp, ootp, otc, ofc, (va_cpy oon on 0 0 10), (va_cpy oze ze 0 0 10), (va_cpy oou ou 0 0 10), (va_cpy owd wd 0 0 10), (va_cpy olo lo 0 0 10), (va_cpy oup up 0 0 10)), rfl, h, by rw [ht]; exact hP, hD⟩, hS.F ht⟩) hS.2.2 dX4_copyFrom_122
