-- rows of terms, spans, ways
theorem sp_rowAt {n j0 : Nat} {f : Nat → Nat} {od : Nat → Int32} {K : Int32 → Prop} (hn : n ≤ 10) (hj : j0 < n) (hf : ∀ j, j < n → f j < n) (hinj : ∀ i, i < j0 → f i ≠ f j0) (ho : ∀ j, j < n → od j = nI (f j)) (h : K (nI j0)) : wp_X6_rowAt (nI (f j0)) od K := by
  unfold wp_X6_rowAt
  have hf0 := hf j0 hj
  refine Lp1.dn j0 (fun m y => ∃ q, m + q = j0 ∧ y = nI q) ⟨0, by omega, rfl⟩ ?_
  rintro m y J ⟨q, eq1, rfl⟩ hJ
  have hfq := hf q (by omega)
  rw [nI_clamp (by omega), ho q (by omega)]
  refine ⟨vp_in_nI (by omega) (by decide), eq_br (by omega) (by omega) (fun e => ?_) (fun e => ?_)⟩
  · have : q = j0 := by
      rcases Nat.lt_or_ge q j0 with d | d
      · exact absurd e (hinj q d)
      · omega
    rw [this]
    exact h
  · have hne : q ≠ j0 := fun e2 => e (by rw [e2])
    exact hJ (m - 1) _ (by omega) ⟨q + 1, by omega, nI_1 q⟩
/-- the span of the rows with p -/
def Spn (p : Nat → Bool) (n : Nat) (v : Int32) : Prop := ((∀ j, j < n → p j = false) ∧ v = 0) ∨ ∃ a b, a < n ∧ b < n ∧ p a = true ∧ p b = true ∧ (∀ j, j < n → p j = true → a ≤ j ∧ j ≤ b) ∧ v = nI (b - a + 1)
theorem Spn.unique {p : Nat → Bool} {n : Nat} {v w : Int32} (h : Spn p n v) (g : Spn p n w) : v = w := by
  rcases h with ⟨h1, h2⟩ | ⟨a, b, h1, h2, h3, h4, h5, h6⟩ <;> rcases g with ⟨g1, g2⟩ | ⟨c, d, g1, g2, g3, g4, g5, g6⟩
  · rw [h2, g2]
  · rw [h1 c g1] at g3
    exact absurd g3 (by decide)
  · rw [g1 a h1] at h3
    exact absurd h3 (by decide)
  · have k1 := h5 c g1 g3
    have k2 := g5 a h1 h3
    have k3 := h5 d g2 g4
    have k4 := g5 b h2 h4
    rw [h6, g6, show b = d by omega, show a = c by omega]
theorem sub_1 {a b : Nat} (h : a ≤ b) : nI b - nI a + 1 = nI (b - a + 1) := by rw [pk_sub h, nI_1]
theorem sp_spanOf {nw us od : Nat → Int32} {n c C : Nat} {f : Nat → Nat} {K : Int32 → Prop} (h2 : nw 2 = nI n) (hn : n ≤ 10) (hc : c < 10) (hu : us c = nI C) (hC : C < 2 ^ 10) (hf : ∀ j, j < n → f j < n) (ho : ∀ j, j < n → od j = nI (f j)) (h : ∀ v, Spn (fun j => C.testBit (f j)) n v → K v) : wp_X6_spanOf (nI c) nw us od K := by
  unfold wp_X6_spanOf
  rw [h2, clamp_n (k := c) (by omega), hu]
  refine Lp3.up n (fun k x y z => z = nI k ∧ ((x = -1 ∧ y = -1 ∧ ∀ j, j < k → C.testBit (f j) = false) ∨ ∃ a b, a < k ∧ b < k ∧ x = nI a ∧ y = nI b ∧ C.testBit (f a) = true ∧ C.testBit (f b) = true ∧ ∀ j, j < k → C.testBit (f j) = true → a ≤ j ∧ j ≤ b)) 0 (Nat.zero_le _) ⟨rfl, Or.inl ⟨rfl, rfl, fun j hj => by omega⟩⟩ ?_
  rintro k x y z J hk ⟨rfl, hs⟩ hJ
  refine le_br (by omega) (by omega) (fun d => ?_) (fun d => ?_)
  · have ek : k = n := by omega
    subst ek
    rcases hs with ⟨rfl, rfl, hs⟩ | ⟨a, b, h3, h4, rfl, rfl, h5, h6, h7⟩
    · exact ⟨fun q => absurd rfl q, fun _ => h 0 (Or.inl ⟨hs, rfl⟩)⟩
    · refine ⟨fun _ => ?_, fun q => absurd q (nI_ne_m1 (by omega))⟩
      have hab := (h7 a h3 h5).2
      rw [sub_1 hab]
      exact h _ (Or.inr ⟨a, b, h3, h4, h5, h6, h7, rfl⟩)
  · have hfk := hf k d
    rw [clamp_n (k := k) (by omega), ho k d]
    refine ⟨vp_in_nI hc (by decide), vp_in_nI (by omega) (by decide), sp_has (by omega) (by omega) (fun b1 => ⟨fun q => absurd q (by decide), fun _ => ?_⟩) (fun b0 => ⟨fun _ => ?_, fun q => absurd rfl q⟩)⟩
    · rcases hs with ⟨rfl, rfl, hs⟩ | ⟨a, b, h3, h4, rfl, rfl, h5, h6, h7⟩
      · refine Jn1.to (fun y => y = nI k) ⟨fun q => absurd rfl q, fun _ => rfl⟩ ?_
        rintro y rfl
        refine hJ _ _ _ d ⟨nI_1 k, Or.inr ⟨k, k, by omega, by omega, rfl, rfl, b1, b1, fun j hj hb => ?_⟩⟩
        rcases Nat.lt_or_ge j k with g | g
        · rw [hs j g] at hb
          exact absurd hb (by decide)
        · omega
      · refine Jn1.to (fun y => y = nI a) ⟨fun _ => rfl, fun q => absurd q (nI_ne_m1 (by omega))⟩ ?_
        rintro y rfl
        refine hJ _ _ _ d ⟨nI_1 k, Or.inr ⟨a, k, by omega, by omega, rfl, rfl, h5, b1, fun j hj hb => ?_⟩⟩
        rcases Nat.lt_or_ge j k with g | g
        · have := h7 j g hb
          omega
        · omega
    · refine hJ _ _ _ d ⟨nI_1 k, ?_⟩
      rcases hs with ⟨rfl, rfl, hs⟩ | ⟨a, b, h3, h4, rfl, rfl, h5, h6, h7⟩
      · refine Or.inl ⟨rfl, rfl, fun j hj => ?_⟩
        rcases Nat.lt_or_ge j k with g | g
        · exact hs j g
        · rw [show j = k by omega]
          exact b0
      · refine Or.inr ⟨a, b, by omega, by omega, rfl, rfl, h5, h6, fun j hj hb => ?_⟩
        rcases Nat.lt_or_ge j k with g | g
        · exact h7 j g hb
        · rw [show j = k by omega, b0] at hb
          exact absurd hb (by decide)
theorem sp_spread {rt : Nat → Int32} {n C : Nat} {f g : Nat → Nat} {K : Int32 → Prop} (hn : n ≤ 10) (hC : C < 2 ^ 10) (hf : ∀ j, j < n → f j < n ∧ g (f j) = j) (hg : ∀ t, t < n → g t < n ∧ f (g t) = t) (hr : ∀ t, t < n → rt t = nI (g t)) (h : ∀ v, Spn (fun j => C.testBit (f j)) n v → K v) : wp_X3_spread (nI C) (nI n) rt K := by
  unfold wp_X3_spread
  refine Lp3.up n (fun k x y z => z = nI k ∧ ((x = nI n ∧ y = -1 ∧ ∀ t, t < k → C.testBit t = false) ∨ ∃ a b, a < n ∧ b < n ∧ x = nI a ∧ y = nI b ∧ C.testBit (f a) = true ∧ C.testBit (f b) = true ∧ ∀ t, t < k → C.testBit t = true → a ≤ g t ∧ g t ≤ b)) 0 (Nat.zero_le _) ⟨rfl, Or.inl ⟨rfl, rfl, fun j hj => by omega⟩⟩ ?_
  rintro k x y z J hk ⟨rfl, hs⟩ hJ
  refine le_br (by omega) (by omega) (fun d => ?_) (fun d => ?_)
  · have ek : k = n := by omega
    subst ek
    rcases hs with ⟨rfl, rfl, hs⟩ | ⟨a, b, h3, h4, rfl, rfl, h5, h6, h7⟩
    · exact ⟨fun q => absurd q (by decide), fun _ => h 0 (Or.inl ⟨fun j hj => hs (f j) (hf j hj).1, rfl⟩)⟩
    · refine ⟨fun _ => ?_, fun q => absurd (nI_pos' (by omega)) q⟩
      have h8 : ∀ j, j < k → C.testBit (f j) = true → a ≤ j ∧ j ≤ b := fun j hj hb => by
        have := h7 (f j) (hf j hj).1 hb
        rw [(hf j hj).2] at this
        exact this
      rw [sub_1 (h8 a h3 h5).2]
      exact h _ (Or.inr ⟨a, b, h3, h4, h5, h6, h8, rfl⟩)
  · obtain ⟨g1, g2⟩ := hg k d
    rw [clamp_n (k := k) (by omega), hr k d]
    have v1 : vp_in (nI k) 10 := vp_in_nI (by omega) (by decide)
    refine sp_contains (by omega) (by omega) (fun b1 => ⟨fun q => absurd q (by decide), fun _ => ⟨v1, v1, ?_⟩⟩) (fun b0 => ⟨fun _ => ?_, fun q => absurd rfl q⟩)
    · rcases hs with ⟨rfl, rfl, hs⟩ | ⟨a, b, h3, h4, rfl, rfl, h5, h6, h7⟩
      · rw [if_pos (nI_lt g1 (by omega)), if_pos (by rw [Int32.lt_iff_toInt_lt, nI_toInt (by omega)]; show (-1 : Int) < _; omega)]
        refine hJ _ _ _ d ⟨nI_1 k, Or.inr ⟨g k, g k, g1, g1, rfl, rfl, by rw [g2]; exact b1, by rw [g2]; exact b1, fun t ht hb => ?_⟩⟩
        rcases Nat.lt_or_ge t k with q | q
        · rw [hs t q] at hb
          exact absurd hb (by decide)
        · rw [show t = k by omega]
          omega
      · have e1 : (if nI (g k) < nI a then nI (g k) else nI a) = nI (if g k < a then g k else a) := by
          by_cases q : g k < a
          · rw [if_pos q, if_pos (nI_lt q (by omega))]
          · rw [if_neg q, if_neg (nI_nlt (by omega) (by omega))]
        have e2 : (if nI b < nI (g k) then nI (g k) else nI b) = nI (if b < g k then g k else b) := by
          by_cases q : b < g k
          · rw [if_pos q, if_pos (nI_lt q (by omega))]
          · rw [if_neg q, if_neg (nI_nlt (by omega) (by omega))]
        rw [e1, e2]
        refine hJ _ _ _ d ⟨nI_1 k, Or.inr ⟨_, _, ?_, ?_, rfl, rfl, ?_, ?_, fun t ht hb => ?_⟩⟩
        · split <;> omega
        · split <;> omega
        · by_cases q : g k < a
          · rw [if_pos q, g2]
            exact b1
          · rw [if_neg q]
            exact h5
        · by_cases q : b < g k
          · rw [if_pos q, g2]
            exact b1
          · rw [if_neg q]
            exact h6
        · rcases Nat.lt_or_ge t k with q | q
          · have := h7 t q hb
            split <;> split <;> omega
          · rw [show t = k by omega]
            split <;> split <;> omega
    · refine hJ _ _ _ d ⟨nI_1 k, ?_⟩
      rcases hs with ⟨rfl, rfl, hs⟩ | ⟨a, b, h3, h4, rfl, rfl, h5, h6, h7⟩
      · refine Or.inl ⟨rfl, rfl, fun t ht => ?_⟩
        rcases Nat.lt_or_ge t k with q | q
        · exact hs t q
        · rw [show t = k by omega]
          exact b0
      · refine Or.inr ⟨a, b, h3, h4, rfl, rfl, h5, h6, fun t ht hb => ?_⟩
        rcases Nat.lt_or_ge t k with q | q
        · exact h7 t q hb
        · rw [show t = k by omega, b0] at hb
          exact absurd hb (by decide)
