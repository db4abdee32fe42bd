-- the order of the rows
noncomputable def dcd (p : Prop) : Bool := @decide p (Classical.propDecidable p)
theorem dcd_iff {p : Prop} : dcd p = true ↔ p := by
  unfold dcd
  exact @decide_eq_true_iff p (Classical.propDecidable p)
theorem cnt_le {p q : Nat → Bool} (h : ∀ k, p k = true → q k = true) : ∀ n, cnt p n ≤ cnt q n
  | 0 => Nat.le_refl _
  | n + 1 => by
    have ih := cnt_le h n
    show cnt p n + (if p n then 1 else 0) ≤ cnt q n + (if q n then 1 else 0)
    cases hp : p n
    · simp only [Bool.false_eq_true, if_false]
      omega
    · rw [h n hp]
      omega
theorem cnt_lt {p q : Nat → Bool} (h : ∀ k, p k = true → q k = true) {k : Nat} (h1 : p k = false) (h2 : q k = true) : ∀ n, k < n → cnt p n < cnt q n
  | 0, hk => by omega
  | n + 1, hk => by
    show cnt p n + (if p n then 1 else 0) < cnt q n + (if q n then 1 else 0)
    by_cases e : k = n
    · subst e
      have := cnt_le h k
      rw [h1, h2]
      simp only [Bool.false_eq_true, if_false, if_true]
      omega
    · have ih := cnt_lt h h1 h2 n (by omega)
      cases hp : p n
      · simp only [Bool.false_eq_true, if_false]
        omega
      · rw [h n hp]
        omega
def Acyc (R : Nat → Nat → Prop) : Prop := ∀ t, ¬ TC R t t
/-- in a set where each term has one of the set above it, there is a round -/
theorem stuck_cyc {R : Nat → Nat → Prop} (hl : Low R) {P : Nat → Prop} {t0 : Nat} (h0 : P t0) (h : ∀ t, P t → ∃ a, P a ∧ R a t) : ¬ Acyc R := by
  intro ha
  obtain ⟨c, ⟨t, ht, ec⟩, hmin⟩ := pk_least (fun c => ∃ t, P t ∧ c = cnt (fun a => dcd (TC R a t)) 10) ⟨_, t0, h0, rfl⟩
  obtain ⟨a, hp, hr⟩ := h t ht
  have h1 : cnt (fun x => dcd (TC R x a)) 10 < cnt (fun x => dcd (TC R x t)) 10 := by
    refine cnt_lt (k := a) (fun x hx => dcd_iff.mpr ((dcd_iff.mp hx).step hr)) ?_ (dcd_iff.mpr (TC.one hr)) 10 (hl a t hr).1
    cases hd : dcd (TC R a a)
    · rfl
    · exact absurd (dcd_iff.mp hd) (ha a)
  exact hmin _ (by rw [ec]; exact h1) ⟨a, hp, rfl⟩
/-- the first r rows: each the lowest term, not placed yet, whose direct predecessors are placed -/
def RowsTo (n : Nat) (R : Nat → Nat → Prop) (f : Nat → Nat) (r : Nat) : Prop := ∀ j, j < r → f j < n ∧ (∀ i, i < j → f i ≠ f j) ∧ (∀ a, R a (f j) → ∃ i, i < j ∧ f i = a) ∧ ∀ t, t < f j → (∀ i, i < j → f i ≠ t) → ∃ a, R a t ∧ ∀ i, i < j → f i ≠ a
theorem RowsTo.unique {n r : Nat} {R : Nat → Nat → Prop} {f g : Nat → Nat} (hf : RowsTo n R f r) (hg : RowsTo n R g r) : ∀ j, j < r → f j = g j := by
  intro j
  induction j using Nat.strongRecOn with
  | ind j ih =>
    intro hj
    have same : ∀ i, i < j → f i = g i := fun i hi => ih i hi (by omega)
    obtain ⟨f1, f2, f3, f4⟩ := hf j hj
    obtain ⟨g1, g2, g3, g4⟩ := hg j hj
    rcases Nat.lt_trichotomy (f j) (g j) with c | c | c
    · obtain ⟨a, h1, h2⟩ := g4 (f j) c (fun i hi => by rw [← same i hi]; exact f2 i hi)
      obtain ⟨i, hi, e⟩ := f3 a h1
      exact absurd (by rw [← same i hi]; exact e) (h2 i hi)
    · exact c
    · obtain ⟨a, h1, h2⟩ := f4 (g j) c (fun i hi => by rw [same i hi]; exact g2 i hi)
      obtain ⟨i, hi, e⟩ := g3 a h1
      exact absurd (by rw [same i hi]; exact e) (h2 i hi)
theorem RowsTo.congr {n r : Nat} {R : Nat → Nat → Prop} {f g : Nat → Nat} (hf : RowsTo n R f r) (e : ∀ j, j < r → f j = g j) : RowsTo n R g r := by
  intro j hj
  obtain ⟨f1, f2, f3, f4⟩ := hf j hj
  rw [← e j hj]
  refine ⟨f1, fun i hi => by rw [← e i (by omega)]; exact f2 i hi, fun a ha => ?_, fun t ht h => ?_⟩
  · obtain ⟨i, hi, e2⟩ := f3 a ha
    exact ⟨i, hi, by rw [← e i (by omega)]; exact e2⟩
  · obtain ⟨a, h1, h2⟩ := f4 t ht (fun i hi => by rw [e i (by omega)]; exact h i hi)
    exact ⟨a, h1, fun i hi => by rw [← e i (by omega)]; exact h2 i hi⟩
/-- ancestors of a row lie in earlier rows -/
theorem RowsTo.anc {n r : Nat} {R : Nat → Nat → Prop} {f : Nat → Nat} (hf : RowsTo n R f r) {a b : Nat} (h : TC R a b) : ∀ j, j < r → f j = b → ∃ i, i < j ∧ f i = a := by
  refine h (fun b => ∀ j, j < r → f j = b → ∃ i, i < j ∧ f i = a) (fun x hr j hj e => ?_) (fun x y p hr j hj e => ?_)
  · exact (hf j hj).2.2.1 a (by rw [e]; exact hr)
  · obtain ⟨i, hi, e2⟩ := (hf j hj).2.2.1 x (by rw [e]; exact hr)
    obtain ⟨i2, h2, e3⟩ := p i (by omega) e2
    exact ⟨i2, by omega, e3⟩
theorem RowsTo.acyc {n r : Nat} {R : Nat → Nat → Prop} {f : Nat → Nat} (hf : RowsTo n R f r) (hl : ∀ a b, R a b → b < n) (hall : ∀ t, t < n → ∃ j, j < r ∧ f j = t) : Acyc R := by
  intro t ht
  obtain ⟨c, hc, -⟩ := ht.last
  obtain ⟨j, hj, e⟩ := hall t (hl c t hc)
  obtain ⟨i, hi, e2⟩ := hf.anc ht j hj e
  exact (hf j hj).2.1 i hi (by rw [e, e2])
/-- all terms are placed when n are -/
theorem RowsTo.full {n : Nat} {R : Nat → Nat → Prop} {f : Nat → Nat} (hf : RowsTo n R f n) : ∀ t, t < n → ∃ j, j < n ∧ f j = t := by
  intro t ht
  rcases Classical.em (∃ j, j < n ∧ f j = t) with h | h
  · exact h
  exfalso
  -- more rows than terms without t
  have key : ∀ r, r ≤ n → cnt (fun x => dcd (∃ j, j < r ∧ f j = x)) n = r := by
    intro r
    induction r with
    | zero =>
      intro _
      have : ∀ m, cnt (fun x => dcd (∃ j, j < 0 ∧ f j = x)) m = 0 := by
        intro m
        induction m with
        | zero => rfl
        | succ m ih =>
          show cnt _ m + (if dcd (∃ j, j < 0 ∧ f j = m) then 1 else 0) = 0
          rw [ih, if_neg]
          intro hd
          obtain ⟨j, hj, -⟩ := dcd_iff.mp hd
          omega
      exact this n
    | succ r ih =>
      intro hr
      have h1 := ih (by omega)
      obtain ⟨f1, f2, -, -⟩ := hf r (by omega)
      have step : ∀ m, cnt (fun x => dcd (∃ j, j < r + 1 ∧ f j = x)) m = cnt (fun x => dcd (∃ j, j < r ∧ f j = x)) m + (if f r < m then 1 else 0) := by
        intro m
        induction m with
        | zero => rfl
        | succ m ihm =>
          show cnt _ m + (if dcd (∃ j, j < r + 1 ∧ f j = m) then 1 else 0) = cnt _ m + (if dcd (∃ j, j < r ∧ f j = m) then 1 else 0) + (if f r < m + 1 then 1 else 0)
          rw [ihm]
          by_cases e : f r = m
          · have d1 : dcd (∃ j, j < r + 1 ∧ f j = m) = true := dcd_iff.mpr ⟨r, by omega, e⟩
            have d2 : dcd (∃ j, j < r ∧ f j = m) = false := by
              cases hd : dcd (∃ j, j < r ∧ f j = m)
              · rfl
              · obtain ⟨j, hj, e2⟩ := dcd_iff.mp hd
                exact absurd (by rw [e2, e]) (f2 j hj)
            rw [d1, d2, if_neg (by omega : ¬ f r < m), if_pos (by omega : f r < m + 1)]
            rfl
          · have d3 : dcd (∃ j, j < r + 1 ∧ f j = m) = dcd (∃ j, j < r ∧ f j = m) := by
              apply Bool.eq_iff_iff.mpr
              rw [dcd_iff, dcd_iff]
              constructor
              · rintro ⟨j, hj, e2⟩
                have : j ≠ r := fun q => e (by rw [← q]; exact e2)
                exact ⟨j, by omega, e2⟩
              · rintro ⟨j, hj, e2⟩
                exact ⟨j, by omega, e2⟩
            rw [d3]
            by_cases l : f r < m
            · rw [if_pos l, if_pos (by omega : f r < m + 1)]
              omega
            · rw [if_neg l, if_neg (by omega : ¬ f r < m + 1)]
      rw [step n, h1, if_pos f1]
  have h2 := key n (Nat.le_refl n)
  have h3 : cnt (fun x => dcd (∃ j, j < n ∧ f j = x)) n < cnt (fun _ => true) n := by
    refine cnt_lt (k := t) (fun _ _ => rfl) ?_ rfl n ht
    cases hd : dcd (∃ j, j < n ∧ f j = t)
    · rfl
    · exact absurd (dcd_iff.mp hd) h
  have h4 : ∀ m, cnt (fun _ => true) m = m := by
    intro m
    induction m with
    | zero => rfl
    | succ m ih =>
      show cnt _ m + 1 = m + 1
      rw [ih]
  rw [h4 n] at h3
  omega
