-- the class lays the rows
theorem next_ex {n r : Nat} {R : Nat → Nat → Prop} {f : Nat → Nat} (hn : n ≤ 10) (hl : ∀ a b, R a b → a < n ∧ b < n) (hac : Acyc R) (hf : RowsTo n R f r) (hr : r < n) : ∃ t, t < n ∧ (∀ j, j < r → f j ≠ t) ∧ (∀ a, R a t → ∃ i, i < r ∧ f i = a) ∧ ∀ s, s < t → (∀ i, i < r → f i ≠ s) → ∃ a, R a s ∧ ∀ i, i < r → f i ≠ a := by
  have hlow : Low R := fun a b q => by have := hl a b q; omega
  have ex0 : ∃ t, t < n ∧ ∀ j, j < r → f j ≠ t := by
    rcases Classical.em (∃ t, t < n ∧ ∀ j, j < r → f j ≠ t) with q | q
    · exact q
    · exfalso
      have k1 := rows_cnt r hf
      have k2 : ∀ m, m ≤ n → cnt (fun x => dcd (∃ j, j < r ∧ f j = x)) m = m := by
        intro m
        induction m with
        | zero => exact fun _ => rfl
        | succ m ih =>
          intro hm
          show cnt _ m + (if dcd (∃ j, j < r ∧ f j = m) then 1 else 0) = m + 1
          have hd : dcd (∃ j, j < r ∧ f j = m) = true := by
            apply dcd_iff.mpr
            rcases Classical.em (∃ j, j < r ∧ f j = m) with g | g
            · exact g
            · exact absurd ⟨m, by omega, fun j hj e => g ⟨j, hj, e⟩⟩ q
          rw [ih (by omega), hd]
          rfl
      have := k2 n (Nat.le_refl n)
      omega
  have ex1 : ∃ t, (t < n ∧ ∀ j, j < r → f j ≠ t) ∧ ∀ a, R a t → ∃ i, i < r ∧ f i = a := by
    rcases Classical.em (∃ t, (t < n ∧ ∀ j, j < r → f j ≠ t) ∧ ∀ a, R a t → ∃ i, i < r ∧ f i = a) with q | q
    · exact q
    · obtain ⟨t0, ht0⟩ := ex0
      refine absurd hac (stuck_cyc hlow (P := fun t => t < n ∧ ∀ j, j < r → f j ≠ t) ht0 (fun t ht => ?_))
      rcases Classical.em (∃ a, (a < n ∧ ∀ j, j < r → f j ≠ a) ∧ R a t) with g | g
      · exact g
      · refine absurd ⟨t, ht, fun a ha => ?_⟩ q
        rcases Classical.em (∃ i, i < r ∧ f i = a) with g2 | g2
        · exact g2
        · exact absurd ⟨a, ⟨(hl a t ha).1, fun j hj e => g2 ⟨j, hj, e⟩⟩, ha⟩ g
  obtain ⟨t, ⟨⟨h1, h2⟩, h3⟩, h4⟩ := pk_least (fun t => (t < n ∧ ∀ j, j < r → f j ≠ t) ∧ ∀ a, R a t → ∃ i, i < r ∧ f i = a) ex1
  refine ⟨t, h1, h2, h3, fun s hs hsp => ?_⟩
  rcases Classical.em (∃ a, R a s ∧ ∀ i, i < r → f i ≠ a) with g | g
  · exact g
  · refine absurd ⟨⟨by omega, hsp⟩, fun a ha => ?_⟩ (h4 s hs)
    rcases Classical.em (∃ i, i < r ∧ f i = a) with g2 | g2
    · exact g2
    · exact absurd ⟨a, ha, fun i hi e => g2 ⟨i, hi, e⟩⟩ g
theorem sp_nextTerm {n r P : Nat} {R : Nat → Nat → Prop} {f : Nat → Nat} {ab : Nat → Int32} {K : Int32 → Prop} (hn : n ≤ 10) (hl : ∀ a b, R a b → a < n ∧ b < n) (hac : Acyc R) (hC : Clo ab R) (hf : RowsTo n R f r) (hr : r < n) (hP : P < 2 ^ 10) (hPb : ∀ t, P.testBit t = true ↔ ∃ j, j < r ∧ f j = t)
    (h : ∀ t, t < n → (∀ j, j < r → f j ≠ t) → (∀ a, R a t → ∃ i, i < r ∧ f i = a) → (∀ s, s < t → (∀ i, i < r → f i ≠ s) → ∃ a, R a s ∧ ∀ i, i < r → f i ≠ a) → K (nI t)) : wp_X3_nextTerm (nI n) (nI P) ab K := by
  obtain ⟨t, t1, t2, t3, t4⟩ := next_ex hn hl hac hf hr
  unfold wp_X3_nextTerm
  refine Lp1.dn t (fun m y => ∃ q, m + q = t ∧ y = nI q) ⟨0, by omega, rfl⟩ ?_
  rintro m y J ⟨q, eq1, rfl⟩ hJ
  refine le_br (by omega) (by omega) (fun c => by omega) (fun c => ?_)
  have go : q < t → J (nI q + 1) := fun hq => hJ (m - 1) _ (by omega) ⟨q + 1, by omega, nI_1 q⟩
  refine sp_contains (by omega) (by omega) (fun b => ⟨fun _ => ?_, fun z => absurd z (by decide)⟩) (fun b => ⟨fun z => absurd rfl z, fun _ => ⟨vp_in_nI (by omega) (by decide), ?_⟩⟩)
  · refine go ?_
    rcases Nat.lt_or_ge q t with d | d
    · exact d
    · obtain ⟨j, hj, e⟩ := (hPb q).mp b
      exact absurd (by rw [e]; omega) (t2 j hj)
  · obtain ⟨m2, hm2, e2, hb2⟩ := hC q (by omega)
    rw [nI_clamp (by omega), e2, nI_diff]
    have hlt : bdiff m2 P < 2 ^ 10 := bdiff_le hm2
    have key : bdiff m2 P = 0 ↔ ∀ a, TC R a q → ∃ i, i < r ∧ f i = a := by
      rw [bit0]
      constructor
      · intro g a ha
        have g2 := g a
        rw [bdiff_bit, (hb2 a).mpr ha] at g2
        apply (hPb a).mp
        cases hp : P.testBit a
        · rw [hp] at g2
          exact absurd g2 (by decide)
        · rfl
      · intro g a
        rw [bdiff_bit]
        cases hm : m2.testBit a
        · rfl
        · rw [(hPb a).mpr (g a ((hb2 a).mp hm))]
          rfl
    refine ne_br (b := 0) (by omega) (by decide) (fun e => go ?_) (fun e => ?_)
    · rcases Nat.lt_or_ge q t with d | d
      · exact d
      · have eqt : q = t := by omega
        subst eqt
        refine absurd (key.mpr (fun a ha => ?_)) e
        obtain ⟨c2, hc2, hd⟩ := ha.last
        obtain ⟨i, hi, ei⟩ := t3 c2 hc2
        rcases hd with rfl | hd
        · exact ⟨i, hi, ei⟩
        · obtain ⟨i2, hi2, ei2⟩ := hf.anc hd i hi ei
          exact ⟨i2, by omega, ei2⟩
    · have hqp : ∀ j, j < r → f j ≠ q := fun j hj ej => by
        rw [(hPb q).mpr ⟨j, hj, ej⟩] at b
        exact absurd b (by decide)
      have hdir : ∀ a, R a q → ∃ i, i < r ∧ f i = a := fun a ha => key.mp e a (TC.one ha)
      have eqt : q = t := by
        rcases Nat.lt_or_ge q t with d | d
        · obtain ⟨a, g1, g2⟩ := t4 q d hqp
          obtain ⟨i, hi, ei⟩ := hdir a g1
          exact absurd ei (g2 i hi)
        · omega
      subst eqt
      exact h q t1 t2 t3 t4
/-- the rows as the class holds them -/
def RowC (tr rt : Nat → Int32) (n : Nat) (R : Nat → Nat → Prop) : Prop := ∃ f, RowsTo n R f n ∧ ∀ j, j < n → tr j = nI (f j) ∧ rt (f j) = nI j
theorem sp_build {n : Nat} {R : Nat → Nat → Prop} {tr rt ab : Nat → Int32} {K : (Nat → Int32) → (Nat → Int32) → Prop} (hn : n ≤ 10) (hl : ∀ a b, R a b → a < n ∧ b < n) (hac : Acyc R) (hC : Clo ab R) (h : ∀ tr2 rt2, RowC tr2 rt2 n R → K tr2 rt2) : wp_X3_build (nI n) tr rt ab K := by
  unfold wp_X3_build
  refine Lp4.up n (fun k x1 x2 z3 z4 => x2 = nI k ∧ ∃ P f, x1 = nI P ∧ P < 2 ^ 10 ∧ (∀ t, P.testBit t = true ↔ ∃ j, j < k ∧ f j = t) ∧ RowsTo n R f k ∧ ∀ j, j < k → z3 j = nI (f j) ∧ z4 (f j) = nI j) 0 (Nat.zero_le _) ⟨rfl, 0, fun _ => 0, rfl, by decide, fun t => ?_, fun j hj => by omega, fun j hj => by omega⟩ ?_
  · rw [Nat.zero_testBit]
    exact ⟨fun q => absurd q (by decide), fun ⟨j, q, _⟩ => by omega⟩
  · rintro k x1 x2 z3 z4 J hk ⟨rfl, P, f, rfl, hP, hPb, hf, hz⟩ hJ
    refine le_br (by omega) (by omega) (fun c => ?_) (fun c => ?_)
    · have ek : k = n := by omega
      subst ek
      exact h z3 z4 ⟨f, hf, hz⟩
    · refine sp_nextTerm hn hl hac hC hf c hP hPb (fun t t1 t2 t3 t4 => ?_)
      refine ⟨fun _ => ⟨vp_in_nI (by omega) (by decide), vp_in_nI (by omega) (by decide), ?_⟩, fun z => absurd z (nI_ne_m1 (by omega))⟩
      rw [jshl_1 (by omega), nI_or, nI_clamp (by omega), nI_clamp (by omega)]
      have hp2 : 2 ^ t < 2 ^ 10 := Nat.pow_lt_pow_right (by decide) (by omega)
      have e1 : ∀ i, i < k → (fun j => if j = k then t else f j) i = f i := fun i hi => if_neg (by omega)
      have e2 : (fun j => if j = k then t else f j) k = t := if_pos rfl
      refine hJ _ _ _ _ c ⟨nI_1 k, P ||| 2 ^ t, fun j => if j = k then t else f j, rfl, Nat.or_lt_two_pow hP hp2, fun s => ?_, rows_ext hf e1 e2 t1 t2 t3 t4, fun j hj => ?_⟩
      · rw [Nat.testBit_or, Bool.or_eq_true, hPb, Nat.testBit_two_pow, decide_eq_true_iff]
        constructor
        · rintro (⟨j, hj, e⟩ | e)
          · exact ⟨j, by omega, (e1 j hj).trans e⟩
          · exact ⟨k, by omega, e2.trans e⟩
        · rintro ⟨j, hj, e⟩
          by_cases ej : j = k
          · subst ej
            exact Or.inr (e2.symm.trans e)
          · exact Or.inl ⟨j, by omega, (e1 j (by omega)).symm.trans e⟩
      · by_cases ej : j = k
        · subst ej
          rw [e2, pk_us, pk_us]
          exact ⟨rfl, rfl⟩
        · rw [e1 j (by omega), pk_un ej, pk_un (t2 j (by omega))]
          exact hz j (by omega)
