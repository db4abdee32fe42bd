-- what is known at the law's start
theorem arr_int {args : Array Value} {s : State} (h : (Cond.arrayClass .int).before args s = true) : ∃ cA : ClassId, ArrOfT s cA .int ∧ va_RA s cA .int := by
  obtain ⟨c, k, comp, h1, h2, h3⟩ := Cond.arrayClass_spec h
  exact ⟨c, fun n z => ⟨fun k h => (by cases h), k, h2, comp, h3⟩, h1⟩
theorem arr_long {args : Array Value} {s : State} (h : (Cond.arrayClass .long).before args s = true) : ∃ cA : ClassId, ArrOfT s cA .long ∧ va_RA s cA .long := by
  obtain ⟨c, k, comp, h1, h2, h3⟩ := Cond.arrayClass_spec h
  exact ⟨c, fun n z => ⟨fun k h => (by cases h), k, h2, comp, h3⟩, h1⟩
theorem arr_obj {args : Array Value} {s : State} {C : String} (h : (Cond.arrayOver (.object C)).before args s = true) : ∃ cA : ClassId, ArrOfT s cA (.object C) ∧ va_RA s cA (.object C) := by
  obtain ⟨comp, c, k, h1, h2, h3, h4, h5⟩ := Cond.arrayOver_spec h
  exact ⟨c, fun n z => ⟨fun k h => (by cases h), k, h3, comp, h4⟩, k, comp, h3, h4, h1, h5⟩
theorem nwF_in : ∀ q ∈ nwF, Cond.fieldLinkNest q.1 q.2.1 q.2.2.1 q.2.2.2.1 q.2.2.2.2.1 q.2.2.2.2.2 ∈ lw_tbl := by decide +kernel
theorem nwM_in : ∀ q ∈ nwM, Cond.methodLinkNest q.1 q.2.1 q.2.2.1 q.2.2.2 ∈ lw_tbl := by decide +kernel
theorem law_known {args : Array Value} {s : State} (hts0 : ∀ w ∈ lw_tbl, w.before args s = true) (hts : ∀ w ∈ wsL_law, w.before args s = true) : ∃ G : GG, KK G s := by
  obtain ⟨c0, i0, k0⟩ := u_known (C := RX0) (T := TX0) (N := 9) (n := 9) hts inlX0 (hts0 (.instantiable RX0 9) (List.mem_append_right _ (List.mem_of_getElem? (i := 116) (by decide +kernel))))
  obtain ⟨c1, i1, k1⟩ := u_known (C := RX1) (T := TX1) (N := 1) (n := 1) hts inlX1 (hts0 (.instantiable RX1 1) (List.mem_append_right _ (List.mem_of_getElem? (i := 89) (by decide +kernel))))
  obtain ⟨c2, i2, k2⟩ := u_known (C := RX2) (T := TX2) (N := 2) (n := 2) hts inlX2 (hts0 (.instantiable RX2 2) (List.mem_append_right _ (List.mem_of_getElem? (i := 72) (by decide +kernel))))
  obtain ⟨c3, i3, k3⟩ := u_known (C := RX3) (T := TX3) (N := 2) (n := 2) hts inlX3 (hts0 (.instantiable RX3 2) (List.mem_append_right _ (List.mem_of_getElem? (i := 101) (by decide +kernel))))
  obtain ⟨c4, i4, k4⟩ := u_known (C := RX4) (T := TX4) (N := 10) (n := 10) hts inlX4 (hts0 (.instantiable RX4 10) (List.mem_append_right _ (List.mem_of_getElem? (i := 22) (by decide +kernel))))
  obtain ⟨c5, i5, k5⟩ := u_known (C := RX5) (T := TX5) (N := 6) (n := 6) hts inlX5 (hts0 (.instantiable RX5 6) (List.mem_append_right _ (List.mem_of_getElem? (i := 14) (by decide +kernel))))
  obtain ⟨c6, i6, k6⟩ := u_known (C := RX6) (T := TX6) (N := 10) (n := 10) hts inlX6 (hts0 (.instantiable RX6 10) (List.mem_append_right _ (List.mem_of_getElem? (i := 511) (by decide +kernel))))
  obtain ⟨a0, r0⟩ := arr_int (hts0 (.arrayClass .int) (List.mem_append_right _ (List.mem_of_getElem? (i := 69) (by decide +kernel))))
  obtain ⟨a1, r1⟩ := arr_long (hts0 (.arrayClass .long) (List.mem_append_right _ (List.mem_of_getElem? (i := 70) (by decide +kernel))))
  obtain ⟨a2, r2⟩ := arr_obj (hts0 (.arrayOver (.object "PlaFolder$Demands")) (List.mem_append_right _ (List.mem_of_getElem? (i := 122) (by decide +kernel))))
  obtain ⟨a3, r3⟩ := arr_obj (hts0 (.arrayOver (.object "PlaFolder$State")) (List.mem_append_right _ (List.mem_of_getElem? (i := 78) (by decide +kernel))))
  refine ⟨((fun k => if k = 0 then c0 else if k = 1 then c1 else if k = 2 then c2 else if k = 3 then c3 else if k = 4 then c4 else if k = 5 then c5 else c6, fun k => if k = 0 then i0 else if k = 1 then i1 else if k = 2 then i2 else if k = 3 then i3 else if k = 4 then i4 else if k = 5 then i5 else i6), fun k => if k = 0 then a0 else if k = 1 then a1 else if k = 2 then a2 else a3), ⟨fun k q hq => ?_, fun k q hq => ?_⟩, fun q hq => va_Nw.of rfl (hts0 _ (nwF_in q hq)), fun q hq => va_Nw.of rfl (hts0 _ (nwM_in q hq))⟩
  · match k, hq with
    | 0, hq => cases hq; exact k0
    | 1, hq => cases hq; exact k1
    | 2, hq => cases hq; exact k2
    | 3, hq => cases hq; exact k3
    | 4, hq => cases hq; exact k4
    | 5, hq => cases hq; exact k5
    | 6, hq => cases hq; exact k6
    | k + 7, hq => cases hq
  · match k, hq with
    | 0, hq => cases hq; exact r0
    | 1, hq => cases hq; exact r1
    | 2, hq => cases hq; exact r2
    | 3, hq => cases hq; exact r3
    | k + 4, hq => cases hq
theorem law_zz {args : Array Value} {s : State} (hts0 : ∀ w ∈ lw_tbl, w.before args s = true) (hgv : (Jvm.Cond.and given_1 narrow_1).before args s = true) : ZZ (fun q : Nat => s.heap.size ≤ q) s s.heap := by
  have hs := flat_of_before _ hgv
  have hA : ∀ a : Nat, a < s.heap.size → ¬ (fun q : Nat => s.heap.size ≤ q) a := fun a h => Nat.not_le.mpr h
  obtain ⟨t, h1, h2⟩ := va_Tof (tm := .static "PlaFolder" "WORDS_WITH_INPUT" "[J") (ty := .long) (N := 6) (f := fun k => .long (wwL k)) (A := fun q : Nat => s.heap.size ≤ q) (args := args) (s := s) (by decide) (hs (.arrayOf (.static "PlaFolder" "WORDS_WITH_INPUT" "[J") .long) (by decide +kernel)) (va_eqt (hs (.eq (.length (.static "PlaFolder" "WORDS_WITH_INPUT" "[J")) (.int 6)) (by decide +kernel))) (fun j hj => by
    rcases (show j = 0 ∨ j = 1 ∨ j = 2 ∨ j = 3 ∨ j = 4 ∨ j = 5 by omega) with rfl | rfl | rfl | rfl | rfl | rfl
    · exact va_eqtl (hs (.eq (.elem (.static "PlaFolder" "WORDS_WITH_INPUT" "[J") (.int 0)) (.long (-6148914691236517206))) (by decide +kernel))
    · exact va_eqtl (hs (.eq (.elem (.static "PlaFolder" "WORDS_WITH_INPUT" "[J") (.int 1)) (.long (-3689348814741910324))) (by decide +kernel))
    · exact va_eqtl (hs (.eq (.elem (.static "PlaFolder" "WORDS_WITH_INPUT" "[J") (.int 2)) (.long (-1085102592571150096))) (by decide +kernel))
    · exact va_eqtl (hs (.eq (.elem (.static "PlaFolder" "WORDS_WITH_INPUT" "[J") (.int 3)) (.long (-71777214294589696))) (by decide +kernel))
    · exact va_eqtl (hs (.eq (.elem (.static "PlaFolder" "WORDS_WITH_INPUT" "[J") (.int 4)) (.long (-281470681808896))) (by decide +kernel))
    · exact va_eqtl (hs (.eq (.elem (.static "PlaFolder" "WORDS_WITH_INPUT" "[J") (.int 5)) (.long (-4294967296))) (by decide +kernel))) hA
  exact ⟨t, va_Zof (hts0 (.laysStatic "PlaFolder" "WORDS_WITH_INPUT" "[J") (List.mem_append_right _ (List.mem_of_getElem? (i := 269) (by decide +kernel)))) (hts0 (.initialized "PlaFolder") (List.mem_append_right _ (List.mem_of_getElem? (i := 1) (by decide +kernel)))) h1 hA, h2⟩
theorem law_ao {args : Array Value} {s : State} (hts0 : ∀ w ∈ lw_tbl, w.before args s = true) : AO s := ⟨va_AO.of (hts0 (.arrayOver (.object "PlaFolder$State")) (List.mem_append_right _ (List.mem_of_getElem? (i := 78) (by decide +kernel)))), va_AO.of (hts0 (.arrayOver (.object "PlaFolder$Demands")) (List.mem_append_right _ (List.mem_of_getElem? (i := 122) (by decide +kernel))))⟩
