-- numbers of bits
def b32a (a : Int32) : Int32 := a - ((jushr a (1 : Int32)) &&& (nI 1431655765))
def b32b (y : Int32) : Int32 := (y &&& (nI 858993459)) + ((jushr y (nI 2)) &&& (nI 858993459))
def b32c (y : Int32) : Int32 := (y + (jushr y (nI 4))) &&& (nI 252645135)
def b32d (y : Int32) : Int32 := y + (jushr y (nI 8))
def b32e (y : Int32) : Int32 := (y + (jushr y (nI 16))) &&& (nI 63)
def bc32 (a : Int32) : Int32 := b32e (b32d (b32c (b32b (b32a a))))
set_option maxRecDepth 100000 in
theorem bc32_eq : ∀ n, n < 1024 → bc32 (nI n) = nI (c10 n) := by decide +kernel
theorem sp_bitCount {n : Nat} {K : Int32 → Prop} (hn : n < 1024) (h : K (nI (c10 n))) : wp_J6_bitCount_0f7a4 (nI n) K := by
  have e := bc32_eq n hn
  show K (bc32 (nI n))
  rw [e]
  exact h
set_option maxRecDepth 100000 in
theorem c10_drop : ∀ n, n < 1024 → n ≠ 0 → c10 (n &&& (n - 1)) + 1 = c10 n ∧ n &&& (n - 1) < n := by decide +kernel
theorem c10_le (M : Nat) : c10 M ≤ 10 := by
  have := cnt_le (p := fun t => M.testBit t) (q := fun _ => true) (fun _ _ => rfl) 10
  rw [cnt_true] at this
  exact this
theorem sp_many {n : Nat} {K : Int32 → Prop} (hn : n < 1024) (h : K (nI (c10 n))) : wp_X6_many (nI n) K := by
  unfold wp_X6_many
  refine Lp2.dn n (fun m x y => m < 1024 ∧ y = nI m ∧ ∃ r, x = nI r ∧ r + c10 m = c10 n) ⟨hn, rfl, 0, rfl, by omega⟩ ?_
  rintro m x y J ⟨hm, rfl, r, rfl, er⟩ hJ
  refine eq_br (b := 0) (by omega) (by decide) (fun e => ?_) (fun e => ?_)
  · subst e
    have e0 : c10 0 = 0 := rfl
    rw [show r = c10 n by omega]
    exact h
  · obtain ⟨d1, d2⟩ := c10_drop m hm e
    have e1 : nI m - (1 : Int32) = nI (m - 1) := pk_sub (a := m) (b := 1) (by omega)
    rw [e1, nI_and]
    exact hJ (m &&& (m - 1)) _ _ d2 ⟨by omega, rfl, r + 1, nI_1 r, by omega⟩
/-- the class's bound on the folds of one kind -/
def mok (F u : Nat) : Nat := if c10 F / 2 < c10 (F / 2 ^ u) then c10 F / 2 else c10 (F / 2 ^ u)
theorem sp_mostOfKind {F u : Nat} {K : Int32 → Prop} (hF : F < 1024) (hu : u < 32) (h : K (nI (mok F u))) : wp_X0_mostOfKind (nI F) (nI u) K := by
  unfold wp_X0_mostOfKind
  have h1 : F / 2 ^ u < 1024 := Nat.lt_of_le_of_lt (Nat.div_le_self _ _) hF
  have c1 := c10_le F
  have c2 := c10_le (F / 2 ^ u)
  rw [jshr_n (by omega) hu]
  refine sp_bitCount h1 (sp_bitCount hF ?_)
  have e : nI (c10 F) / nI 2 = nI (c10 F / 2) := pk_div (by omega) (by decide) (by decide)
  rw [e]
  unfold mok at h
  by_cases q : c10 F / 2 < c10 (F / 2 ^ u)
  · rw [if_pos q] at h
    rw [if_pos (nI_lt q (by omega))]
    exact h
  · rw [if_neg q] at h
    rw [if_neg (nI_nlt (by omega) (by omega))]
    exact h
theorem sp_mostFolds {F u : Nat} {K : Int32 → Prop} (hF : F < 1024) (hu : u < 32) (h : K (nI (mok (F &&& 63) u + mok (F &&& 960) u))) : wp_X0_mostFolds (nI F) (nI u) K := by
  unfold wp_X0_mostFolds
  rw [nI_and, nI_and]
  refine sp_mostOfKind (Nat.lt_of_le_of_lt Nat.and_le_left hF) hu (sp_mostOfKind (Nat.lt_of_le_of_lt Nat.and_le_left hF) hu ?_)
  rw [nI_add]
  exact h
/-- as many places as there are different values in a set -/
theorem inj_cnt {p : Nat → Bool} {N : Nat} {g : Nat → Nat} : ∀ q, (∀ i j, i < q → j < q → g i = g j → i = j) → (∀ j, j < q → p (g j) = true ∧ g j < N) → q ≤ cnt p N := by
  intro q hi hp
  have key : ∀ r, r ≤ q → cnt (fun x => dcd (∃ j, j < r ∧ g j = x)) N = r := by
    intro r
    induction r with
    | zero =>
      intro _
      refine cnt_zero (fun x => ?_) N
      cases hd : dcd (∃ j, j < 0 ∧ g j = x)
      · rfl
      · obtain ⟨j, hj, -⟩ := dcd_iff.mp hd
        omega
    | succ r ih =>
      intro hr
      have d2 : dcd (∃ j, j < r ∧ g j = g r) = false := by
        cases hd : dcd (∃ j, j < r ∧ g j = g r)
        · rfl
        · obtain ⟨j, hj, e2⟩ := dcd_iff.mp hd
          have := hi j r (by omega) (by omega) e2
          omega
      rw [cnt_one (p := fun x => dcd (∃ j, j < r ∧ g j = x)) (q := fun x => dcd (∃ j, j < r + 1 ∧ g j = x)) (k := g r) d2 (dcd_iff.mpr ⟨r, by omega, rfl⟩) (fun x hx => ?_) N, ih (by omega), if_pos (hp r (by omega)).2]
      apply Bool.eq_iff_iff.mpr
      rw [dcd_iff, dcd_iff]
      constructor
      · rintro ⟨j, hj, e2⟩
        have : j ≠ r := fun q => hx (by rw [← q]; exact e2.symm)
        exact ⟨j, by omega, e2⟩
      · rintro ⟨j, hj, e2⟩
        exact ⟨j, by omega, e2⟩
  have h1 := key q (Nat.le_refl q)
  have h2 := cnt_le (p := fun x => dcd (∃ j, j < q ∧ g j = x)) (q := p) (fun x hx => by
    obtain ⟨j, hj, e⟩ := dcd_iff.mp hx
    rw [← e]
    exact (hp j hj).1) N
  rw [h1] at h2
  exact h2
