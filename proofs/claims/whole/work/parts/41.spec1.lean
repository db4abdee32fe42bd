-- the reference's small methods
theorem ixv {a k n : Nat} (h : a + k < n) (hn : n < 2 ^ 31) : vp_in (nI a + nI k) n := by rw [nI_add]; exact vp_in_nI h hn
theorem ixc {a k : Nat} (h : a + k < 2 ^ 31) : (nI a + nI k).toNatClampNeg = a + k := by rw [nI_add]; exact nI_clamp h
theorem i32_nlt {a b : Int32} (h : ¬ a < b) : b ≤ a := by
  rw [Int32.lt_iff_toInt_lt] at h
  rw [Int32.le_iff_toInt_le]
  omega
theorem i32_nle {a b : Int32} (h : ¬ a ≤ b) : b < a := by
  rw [Int32.le_iff_toInt_le] at h
  rw [Int32.lt_iff_toInt_lt]
  omega
theorem i32_lt_nle {a b : Int32} (h : a < b) : ¬ b ≤ a := by
  rw [Int32.lt_iff_toInt_lt] at h
  rw [Int32.le_iff_toInt_le]
  omega
/-- an argument between a and the number before b -/
theorem tm_iff {t : Int32} {a n : Nat} (hn : a + n < 2 ^ 30) : (nI a ≤ t ∧ t ≤ nI (a + n) - 1) ↔ ∃ k, k < n ∧ t = nI (a + k) := by
  have e : (nI (a + n) - nI 1).toInt = ((a + n : Nat) : Int) - ((1 : Nat) : Int) := pk_sub_toInt hn (by decide)
  have e2 : (nI (a + n) - 1).toInt = ((a + n : Nat) : Int) - 1 := e
  rw [Int32.le_iff_toInt_le, Int32.le_iff_toInt_le, e2, nI_toInt (by omega)]
  constructor
  · intro ⟨h1, h2⟩
    have h3 : ¬ t < 0 := by
      rw [Int32.lt_iff_toInt_lt]
      show ¬ t.toInt < 0
      omega
    obtain ⟨j, hj, rfl⟩ := nI_of h3
    rw [nI_toInt hj] at h1 h2
    exact ⟨j - a, by omega, by rw [show a + (j - a) = j by omega]⟩
  · rintro ⟨k, hk, rfl⟩
    rw [nI_toInt (by omega)]
    omega
theorem sp_in {a b c : Int32} {K : Int32 → Prop} (h1 : b ≤ a → a ≤ c → K 1) (h0 : ¬ (b ≤ a ∧ a ≤ c) → K 0) : wp_X6_in a b c K := by
  unfold wp_X6_in
  exact ⟨fun h => h0 (fun q => i32_lt_nle h q.1), fun h => ⟨fun g => h0 (fun q => i32_lt_nle g q.2), fun g => h1 (i32_nlt h) (i32_nlt g)⟩⟩
theorem sp_has {S k : Nat} {K : Int32 → Prop} (hS : S < 2 ^ 31) (hk : k < 32) (h1 : S.testBit k = true → K 1) (h0 : S.testBit k = false → K 0) : wp_X6_has (nI S) (nI k) K := by
  unfold wp_X6_has
  refine ⟨fun h => h0 ?_, fun h => h1 ((bit_n hS hk).mp h)⟩
  cases hb : S.testBit k
  · rfl
  · exact absurd ((bit_n hS hk).mpr hb) h
theorem sp_contains {S k : Nat} {K : Int32 → Prop} (hS : S < 2 ^ 31) (hk : k < 32) (h1 : S.testBit k = true → K 1) (h0 : S.testBit k = false → K 0) : wp_X5_contains (nI S) (nI k) K := by
  unfold wp_X5_contains
  refine ⟨fun h => h0 ?_, fun h => h1 ((bit_n hS hk).mp h)⟩
  cases hb : S.testBit k
  · rfl
  · exact absurd ((bit_n hS hk).mpr hb) h
theorem sp_error {c : Int32} {j : Nat} {er : Nat → Int32} {K : Int32 → (Nat → Int32) → Prop} (hj : j < 5) (hc : (-2 : Int32) - c = nI j) (h : K c (upd er j (er j + 1))) : wp_X6_error c er K := by
  unfold wp_X6_error
  rw [hc, nI_clamp (by omega)]
  exact ⟨vp_in_nI hj (by decide), vp_in_nI hj (by decide), h⟩
theorem sp_isTerm {t : Int32} {n : Nat} {nw : Nat → Int32} {K : Int32 → Prop} (h2 : nw 2 = nI n) (hn : n ≤ 10) (h1 : ∀ k, k < n → t = nI k → K 1) (h0 : (∀ k, k < n → ¬ t = nI k) → K 0) : wp_X6_isTerm t nw K := by
  unfold wp_X6_isTerm
  rw [h2]
  have e := tm_iff (t := t) (a := 0) (n := n) (by omega)
  simp only [Nat.zero_add] at e
  refine sp_in (fun a b => ?_) (fun a => ?_)
  · obtain ⟨k, hk, e2⟩ := e.mp ⟨a, b⟩
    exact ⟨Or.inr rfl, h1 k hk e2⟩
  · exact ⟨Or.inl rfl, h0 (fun k hk e2 => a (e.mpr ⟨k, hk, e2⟩))⟩
/-- the columns that there are -/
def colE (i o c : Nat) : Prop := c < i ∨ (6 ≤ c ∧ c < 6 + o)
theorem sp_isColumn {t : Int32} {i o : Nat} {nw : Nat → Int32} {K : Int32 → Prop} (hi : nw 0 = nI i) (ho : nw 1 = nI o) (hi6 : i ≤ 6) (ho4 : o ≤ 4) (h1 : ∀ k, colE i o k → t = nI k → K 1) (h0 : (∀ k, colE i o k → ¬ t = nI k) → K 0) : wp_X6_isColumn t nw K := by
  unfold wp_X6_isColumn
  rw [hi, ho]
  have e := tm_iff (t := t) (a := 0) (n := i) (by omega)
  have f := tm_iff (t := t) (a := 6) (n := o) (by omega)
  simp only [Nat.zero_add] at e
  rw [← nI_add] at f
  refine sp_in (fun a b => ?_) (fun a => ?_)
  · obtain ⟨k, hk, e2⟩ := e.mp ⟨a, b⟩
    exact ⟨fun _ => h1 k (Or.inl hk) e2, fun c => absurd c (by decide)⟩
  · refine ⟨fun c => absurd rfl c, fun _ => sp_in (fun b c => ?_) (fun b => ?_)⟩
    · obtain ⟨k, hk, e2⟩ := f.mp ⟨b, c⟩
      exact ⟨fun c => absurd c (by decide), fun _ => h1 (6 + k) (Or.inr ⟨by omega, by omega⟩) e2⟩
    · refine ⟨fun _ => h0 ?_, fun c => absurd rfl c⟩
      rintro k (hk | ⟨hk, hk2⟩) e2
      · exact a (e.mpr ⟨k, hk, e2⟩)
      · exact b (f.mpr ⟨k - 6, by omega, by rw [show 6 + (k - 6) = k by omega]; exact e2⟩)
def nf (nw : Nat → Int32) : Nat → Int32 := fun j => if 33 ≤ j ∧ j < 53 then -1 else nw j
theorem sp_noFolds {nw : Nat → Int32} {K : (Nat → Int32) → Prop} (h : K (nf nw)) : wp_X6_noFolds nw K := by
  unfold wp_X6_noFolds
  refine Lp2.up 10 (fun k x z => x = nI k ∧ ∀ j, z j = if (33 ≤ j ∧ j < 33 + k) ∨ (43 ≤ j ∧ j < 43 + k) then -1 else nw j) 0 (by omega) ⟨rfl, fun j => by rw [if_neg (by omega)]⟩ ?_
  rintro k x z J hk ⟨rfl, hz⟩ hJ
  refine ⟨fun c => ?_, fun c => ?_⟩
  · have hk2 : k = 10 := by
      have := (nI_leI (by decide) (by omega)).mp c
      omega
    have e : z = nf nw := by
      funext j
      rw [hz, hk2]
      unfold nf
      by_cases q : 33 ≤ j ∧ j < 53
      · rw [if_pos q, if_pos (by omega)]
      · rw [if_neg q, if_neg (by omega)]
    rw [e]
    exact h
  · have hk2 : k < 10 := by
      rcases Nat.lt_or_ge k 10 with q | q
      · exact q
      · exact absurd ((nI_leI (by decide) (by omega)).mpr q) c
    refine ⟨ixv (by omega) (by decide), ixv (by omega) (by decide), hJ _ _ hk2 ⟨nI_1 k, fun j => ?_⟩⟩
    rw [ixc (by omega), ixc (by omega)]
    simp only [upd, hz]
    by_cases q1 : j = 43 + k
    · rw [if_pos q1, if_pos (by omega)]
    · rw [if_neg q1]
      by_cases q2 : j = 33 + k
      · rw [if_pos q2, if_pos (by omega)]
      · rw [if_neg q2]
        by_cases q3 : (33 ≤ j ∧ j < 33 + k) ∨ (43 ≤ j ∧ j < 43 + k)
        · rw [if_pos q3, if_pos (by omega)]
        · rw [if_neg q3, if_neg (by omega)]
