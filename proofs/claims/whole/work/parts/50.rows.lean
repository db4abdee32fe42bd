-- the order of the rows
noncomputable def dcd (p : Prop) : Bool := @decide p (Classical.propDecidable p)
theorem dcd_iff {p : Prop} : dcd p = true ↔ p := by
  unfold dcd
  exact @decide_eq_true_iff p (Classical.propDecidable p)
theorem cnt_le {p q : Nat → Bool} (h : ∀ k, p k = true → q k = true) : ∀ n, cnt p n ≤ cnt q n
  | 0 => Nat.le_refl _
  | n + 1 => by
    have ih := cnt_le h n
    show cnt p n + (if p n then 1 else 0) ≤ cnt q n + (if q n then 1 else 0)
    cases hp : p n
    · simp only [Bool.false_eq_true, if_false]
      omega
    · rw [h n hp]
      omega
theorem cnt_lt {p q : Nat → Bool} (h : ∀ k, p k = true → q k = true) {k : Nat} (h1 : p k = false) (h2 : q k = true) : ∀ n, k < n → cnt p n < cnt q n
  | 0, hk => by omega
  | n + 1, hk => by
    show cnt p n + (if p n then 1 else 0) < cnt q n + (if q n then 1 else 0)
    by_cases e : k = n
    · subst e
      have := cnt_le h k
      rw [h1, h2]
      simp only [Bool.false_eq_true, if_false, if_true]
      omega
    · have ih := cnt_lt h h1 h2 n (by omega)
      cases hp : p n
      · simp only [Bool.false_eq_true, if_false]
        omega
      · rw [h n hp]
        omega
def Acyc (R : Nat → Nat → Prop) : Prop := ∀ t, ¬ TC R t t
/-- in a set where each term has one of the set above it, there is a round -/
theorem stuck_cyc {R : Nat → Nat → Prop} (hl : Low R) {P : Nat → Prop} {t0 : Nat} (h0 : P t0) (h : ∀ t, P t → ∃ a, P a ∧ R a t) : ¬ Acyc R := by
  intro ha
  obtain ⟨N, eN⟩ : ∃ N : Nat, N = 10 := ⟨_, rfl⟩
  obtain ⟨c, ⟨t, ht, ec⟩, hmin⟩ := pk_least (fun c => ∃ t, P t ∧ c = cnt (fun a => dcd (TC R a t)) N) ⟨_, t0, h0, rfl⟩
  obtain ⟨a, hp, hr⟩ := h t ht
  have hlow := (hl a t hr).1
  have hf : dcd (TC R a a) = false := by
    cases hd : dcd (TC R a a)
    · rfl
    · exact absurd (dcd_iff.mp hd) (ha a)
  have h1 : cnt (fun x => dcd (TC R x a)) N < cnt (fun x => dcd (TC R x t)) N := cnt_lt (p := fun x => dcd (TC R x a)) (q := fun x => dcd (TC R x t)) (k := a) (fun x hx => dcd_iff.mpr ((dcd_iff.mp hx).step hr)) hf (dcd_iff.mpr (TC.one hr)) N (by omega)
  exact hmin _ (by rw [ec]; exact h1) ⟨a, hp, rfl⟩
/-- the first r rows: each the lowest term, not placed yet, whose direct predecessors are placed -/
def RowsTo (n : Nat) (R : Nat → Nat → Prop) (f : Nat → Nat) (r : Nat) : Prop := ∀ j, j < r → f j < n ∧ (∀ i, i < j → f i ≠ f j) ∧ (∀ a, R a (f j) → ∃ i, i < j ∧ f i = a) ∧ ∀ t, t < f j → (∀ i, i < j → f i ≠ t) → ∃ a, R a t ∧ ∀ i, i < j → f i ≠ a
theorem RowsTo.unique {n r : Nat} {R : Nat → Nat → Prop} {f g : Nat → Nat} (hf : RowsTo n R f r) (hg : RowsTo n R g r) : ∀ j, j < r → f j = g j := by
  intro j
  induction j using Nat.strongRecOn with
  | ind j ih =>
    intro hj
    have same : ∀ i, i < j → f i = g i := fun i hi => ih i hi (by omega)
    obtain ⟨f1, f2, f3, f4⟩ := hf j hj
    obtain ⟨g1, g2, g3, g4⟩ := hg j hj
    rcases Nat.lt_trichotomy (f j) (g j) with c | c | c
    · obtain ⟨a, h1, h2⟩ := g4 (f j) c (fun i hi => by rw [← same i hi]; exact f2 i hi)
      obtain ⟨i, hi, e⟩ := f3 a h1
      exact absurd (by rw [← same i hi]; exact e) (h2 i hi)
    · exact c
    · obtain ⟨a, h1, h2⟩ := f4 (g j) c (fun i hi => by rw [same i hi]; exact g2 i hi)
      obtain ⟨i, hi, e⟩ := g3 a h1
      exact absurd (by rw [same i hi]; exact e) (h2 i hi)
theorem RowsTo.congr {n r : Nat} {R : Nat → Nat → Prop} {f g : Nat → Nat} (hf : RowsTo n R f r) (e : ∀ j, j < r → f j = g j) : RowsTo n R g r := by
  intro j hj
  obtain ⟨f1, f2, f3, f4⟩ := hf j hj
  rw [← e j hj]
  refine ⟨f1, fun i hi => by rw [← e i (by omega)]; exact f2 i hi, fun a ha => ?_, fun t ht h => ?_⟩
  · obtain ⟨i, hi, e2⟩ := f3 a ha
    exact ⟨i, hi, by rw [← e i (by omega)]; exact e2⟩
  · obtain ⟨a, h1, h2⟩ := f4 t ht (fun i hi => by rw [e i (by omega)]; exact h i hi)
    exact ⟨a, h1, fun i hi => by rw [← e i (by omega)]; exact h2 i hi⟩
/-- ancestors of a row lie in earlier rows -/
theorem RowsTo.anc {n r : Nat} {R : Nat → Nat → Prop} {f : Nat → Nat} (hf : RowsTo n R f r) {a b : Nat} (h : TC R a b) : ∀ j, j < r → f j = b → ∃ i, i < j ∧ f i = a := by
  refine h (fun b => ∀ j, j < r → f j = b → ∃ i, i < j ∧ f i = a) (fun x hr j hj e => ?_) (fun x y p hr j hj e => ?_)
  · exact (hf j hj).2.2.1 a (by rw [e]; exact hr)
  · obtain ⟨i, hi, e2⟩ := (hf j hj).2.2.1 x (by rw [e]; exact hr)
    obtain ⟨i2, h2, e3⟩ := p i (by omega) e2
    exact ⟨i2, by omega, e3⟩
theorem RowsTo.acyc {n r : Nat} {R : Nat → Nat → Prop} {f : Nat → Nat} (hf : RowsTo n R f r) (hl : ∀ a b, R a b → b < n) (hall : ∀ t, t < n → ∃ j, j < r ∧ f j = t) : Acyc R := by
  intro t ht
  obtain ⟨c, hc, -⟩ := ht.last
  obtain ⟨j, hj, e⟩ := hall t (hl c t hc)
  obtain ⟨i, hi, e2⟩ := hf.anc ht j hj e
  exact (hf j hj).2.1 i hi (by rw [e, e2])
theorem RowsTo.sub {n r q : Nat} {R : Nat → Nat → Prop} {f : Nat → Nat} (hf : RowsTo n R f r) (h : q ≤ r) : RowsTo n R f q := fun j hj => hf j (by omega)
/-- r rows hold r terms -/
theorem cnt_zero {p : Nat → Bool} (h : ∀ x, p x = false) : ∀ m, cnt p m = 0
  | 0 => rfl
  | m + 1 => by
    show cnt p m + (if p m then 1 else 0) = 0
    rw [cnt_zero h m, h m]
    rfl
theorem cnt_true : ∀ m, cnt (fun _ => true) m = m
  | 0 => rfl
  | m + 1 => by
    show cnt (fun _ => true) m + 1 = m + 1
    rw [cnt_true m]
theorem cnt_one {p q : Nat → Bool} {k : Nat} (hp : p k = false) (hq : q k = true) (h : ∀ x, x ≠ k → q x = p x) : ∀ m, cnt q m = cnt p m + (if k < m then 1 else 0)
  | 0 => rfl
  | m + 1 => by
    show cnt q m + (if q m then 1 else 0) = cnt p m + (if p m then 1 else 0) + (if k < m + 1 then 1 else 0)
    rw [cnt_one hp hq h m]
    by_cases e : m = k
    · subst e
      rw [hp, hq, if_neg (by omega : ¬ m < m), if_pos (by omega : m < m + 1)]
      rfl
    · rw [h m e]
      by_cases l : k < m
      · rw [if_pos l, if_pos (by omega : k < m + 1)]
        omega
      · rw [if_neg l, if_neg (by omega : ¬ k < m + 1)]
        rfl
theorem rows_cnt {n : Nat} {R : Nat → Nat → Prop} {f : Nat → Nat} : ∀ r, RowsTo n R f r → cnt (fun x => dcd (∃ j, j < r ∧ f j = x)) n = r := by
  intro r
  induction r with
  | zero =>
    intro _
    refine cnt_zero (fun x => ?_) n
    cases hd : dcd (∃ j, j < 0 ∧ f j = x)
    · rfl
    · obtain ⟨j, hj, -⟩ := dcd_iff.mp hd
      omega
  | succ r ih =>
    intro hf
    obtain ⟨f1, f2, -, -⟩ := hf r (by omega)
    have d2 : dcd (∃ j, j < r ∧ f j = f r) = false := by
      cases hd : dcd (∃ j, j < r ∧ f j = f r)
      · rfl
      · obtain ⟨j, hj, e2⟩ := dcd_iff.mp hd
        exact absurd e2 (f2 j hj)
    rw [cnt_one (p := fun x => dcd (∃ j, j < r ∧ f j = x)) (q := fun x => dcd (∃ j, j < r + 1 ∧ f j = x)) (k := f r) d2 (dcd_iff.mpr ⟨r, by omega, rfl⟩) (fun x hx => ?_) n, ih (hf.sub (by omega)), if_pos f1]
    apply Bool.eq_iff_iff.mpr
    rw [dcd_iff, dcd_iff]
    constructor
    · rintro ⟨j, hj, e2⟩
      have : j ≠ r := fun q => hx (by rw [← q]; exact e2.symm)
      exact ⟨j, by omega, e2⟩
    · rintro ⟨j, hj, e2⟩
      exact ⟨j, by omega, e2⟩
theorem rows_le {n r : Nat} {R : Nat → Nat → Prop} {f : Nat → Nat} (hf : RowsTo n R f r) : r ≤ n := by
  have h1 := rows_cnt r hf
  have h2 := cnt_le (p := fun x => dcd (∃ j, j < r ∧ f j = x)) (q := fun _ => true) (fun _ _ => rfl) n
  rw [h1, cnt_true] at h2
  exact h2
theorem rows_lt {n r t : Nat} {R : Nat → Nat → Prop} {f : Nat → Nat} (hf : RowsTo n R f r) (ht : t < n) (h : ∀ j, j < r → f j ≠ t) : r < n := by
  have h1 := rows_cnt r hf
  have h3 : dcd (∃ j, j < r ∧ f j = t) = false := by
    cases hd : dcd (∃ j, j < r ∧ f j = t)
    · rfl
    · obtain ⟨j, hj, e⟩ := dcd_iff.mp hd
      exact absurd e (h j hj)
  have h2 := cnt_lt (p := fun x => dcd (∃ j, j < r ∧ f j = x)) (q := fun _ => true) (k := t) (fun _ _ => rfl) h3 rfl n ht
  rw [h1, cnt_true] at h2
  exact h2
/-- all terms are placed when n are -/
theorem rows_full {n : Nat} {R : Nat → Nat → Prop} {f : Nat → Nat} (hf : RowsTo n R f n) : ∀ t, t < n → ∃ j, j < n ∧ f j = t := by
  intro t ht
  rcases Classical.em (∃ j, j < n ∧ f j = t) with h | h
  · exact h
  · have := rows_lt hf ht (fun j hj e => h ⟨j, hj, e⟩)
    omega
/-- one more row -/
theorem rows_ext {n r t : Nat} {R : Nat → Nat → Prop} {f g : Nat → Nat} (hf : RowsTo n R f r) (e : ∀ i, i < r → g i = f i) (er : g r = t) (ht : t < n) (h1 : ∀ j, j < r → f j ≠ t) (h2 : ∀ a, R a t → ∃ i, i < r ∧ f i = a) (h3 : ∀ s, s < t → (∀ i, i < r → f i ≠ s) → ∃ a, R a s ∧ ∀ i, i < r → f i ≠ a) : RowsTo n R g (r + 1) := by
  intro j hj
  by_cases ej : j = r
  · subst ej
    rw [er]
    refine ⟨ht, fun i hi => ?_, fun a ha => ?_, fun s hs hp => ?_⟩
    · rw [e i hi]
      exact h1 i hi
    · obtain ⟨i, hi, e2⟩ := h2 a ha
      exact ⟨i, hi, (e i hi).trans e2⟩
    · obtain ⟨a, q1, q2⟩ := h3 s hs (fun i hi => by have := hp i hi; rw [e i hi] at this; exact this)
      exact ⟨a, q1, fun i hi => by rw [e i hi]; exact q2 i hi⟩
  · have hj2 : j < r := by omega
    exact (hf.congr (fun i hi => (e i hi).symm)) j hj2
