-- output words
def outW (T : List Tm) (x w : Nat) : Nat → Nat
  | 0 => 0
  | n + 1 => outW T x w n ||| (match T[n]? with
    | some q => if n ≠ w ∧ tru q x = true then q.2.2 else 0
    | none => 0)
theorem outW_succ {T : List Tm} {x w n : Nat} {q : Tm} (h : T[n]? = some q) : outW T x w (n + 1) = outW T x w n ||| (if n ≠ w ∧ tru q x = true then q.2.2 else 0) := by
  show outW T x w n ||| (match T[n]? with
    | some q => if n ≠ w ∧ tru q x = true then q.2.2 else 0
    | none => 0) = _
  rw [h]
theorem get_of_lt {α : Type} {l : List α} {k : Nat} (h : k < l.length) : ∃ q, l[k]? = some q ∧ q ∈ l := ⟨l[k], List.getElem?_eq_getElem h, List.getElem_mem h⟩
theorem outW_lt {T : List Tm} {o : Nat} (hT : ∀ q ∈ T, q.2.2 < 2 ^ o) (x w : Nat) : ∀ n, n ≤ T.length → outW T x w n < 2 ^ o
  | 0, _ => Nat.two_pow_pos o
  | n + 1, h => by
    obtain ⟨q, hq, hm⟩ := get_of_lt (l := T) (k := n) (by omega)
    rw [outW_succ hq]
    refine Nat.or_lt_two_pow (outW_lt hT x w n (by omega)) ?_
    split
    · exact hT q hm
    · exact Nat.two_pow_pos o
/-- a bit of the output word -/
theorem outW_bit {T : List Tm} {x w k : Nat} : ∀ n, n ≤ T.length → ((outW T x w n).testBit k = true ↔ ∃ t q, t < n ∧ t ≠ w ∧ T[t]? = some q ∧ tru q x = true ∧ q.2.2.testBit k = true)
  | 0, _ => by
    constructor
    · intro h
      have h : (0 : Nat).testBit k = true := h
      rw [Nat.zero_testBit] at h
      exact absurd h (by decide)
    · rintro ⟨t, q, h, -⟩
      omega
  | n + 1, hn => by
    obtain ⟨q, hq, hm⟩ := get_of_lt (l := T) (k := n) (by omega)
    rw [outW_succ hq, Nat.testBit_or, Bool.or_eq_true, outW_bit n (by omega)]
    constructor
    · rintro (⟨t, q2, h1, h2, h3⟩ | h)
      · exact ⟨t, q2, by omega, h2, h3⟩
      · by_cases c : n ≠ w ∧ tru q x = true
        · rw [if_pos c] at h
          exact ⟨n, q, by omega, c.1, hq, c.2, h⟩
        · rw [if_neg c, Nat.zero_testBit] at h
          exact absurd h (by decide)
    · rintro ⟨t, q2, h1, h2, h3, h4, h5⟩
      by_cases e : t = n
      · subst e
        rw [hq] at h3
        cases h3
        right
        rw [if_pos ⟨h2, h4⟩]
        exact h5
      · exact Or.inl ⟨t, q2, by omega, h2, h3, h4, h5⟩
theorem nz_br {A B : Prop} {r : Int32} (h0 : r = 0 → A) (h1 : r = 1 → B) (h : r = 0 ∨ r = 1) : (r = 0 → A) ∧ (¬ r = 0 → B) := ⟨h0, fun c => h1 (h.resolve_left c)⟩
theorem sp_outputs {nw : Nat → Int32} {S : AS} {x w : Nat} {a2 : Int32} {K : Int32 → Prop} (hR : RepM nw S) (hz : Size S) (hx : x < 2 ^ 31) (hw : ∀ k, k < 10 → (nI k = a2 ↔ k = w)) (h : K (nI (outW S.2.2.1 x w S.2.2.1.length))) : wp_X6_outputs (nI x) a2 nw K := by
  obtain ⟨r0, r1, r2, r3, r4⟩ := hR
  obtain ⟨z1, z2, z3, z4, z5, z6⟩ := hz
  have hp6 : 2 ^ S.1 ≤ 2 ^ 6 := Nat.pow_le_pow_right (by decide) z2
  unfold wp_X6_outputs
  rw [r2]
  refine Lp2.up S.2.2.1.length (fun k r y => y = nI k ∧ r = nI (outW S.2.2.1 x w k)) 0 (by omega) ⟨rfl, rfl⟩ ?_
  rintro k r y J hk ⟨rfl, rfl⟩ hJ
  refine le_br (by omega) (by omega) (fun c => ?_) (fun c => ?_)
  · rw [show k = S.2.2.1.length by omega]
    exact h
  · obtain ⟨q, hq, hm⟩ := get_of_lt c
    obtain ⟨g1, g2, g3⟩ := r3 k q hq
    obtain ⟨b1, b2, b3⟩ := z6 q hm
    have e1 := ixc (a := 3) (k := k) (by omega)
    have e2 := ixc (a := 13) (k := k) (by omega)
    have e3 := ixc (a := 23) (k := k) (by omega)
    have v1 : vp_in (nI 3 + nI k) 53 := ixv (by omega) (by decide)
    have v2 : vp_in (nI 13 + nI k) 53 := ixv (by omega) (by decide)
    have v3 : vp_in (nI 23 + nI k) 53 := ixv (by omega) (by decide)
    rw [e1, e2, e3, g1, g2, g3, nI_and, nI_and]
    have hand : x &&& q.1 < 2 ^ 31 := Nat.lt_of_le_of_lt Nat.and_le_left hx
    have hand2 : x &&& q.2.1 < 2 ^ 31 := Nat.lt_of_le_of_lt Nat.and_le_left hx
    refine Jn1.to (fun y => y = if k ≠ w ∧ tru q x = true then 1 else 0) ⟨fun e => ?_, fun e => ?_⟩ ?_
    · rw [if_neg (fun z => z.1 ((hw k (by omega)).mp e))]
    · have hne : k ≠ w := fun z => e ((hw k (by omega)).mpr z)
      refine ⟨v1, v1, ne_br hand (by omega) (fun c1 => ?_) (fun c1 => ⟨v2, ne_br (b := 0) hand2 (by decide) (fun c2 => ?_) (fun c2 => ?_)⟩)⟩
      · rw [if_neg (fun z => ?_)]
        have := z.2
        unfold tru at this
        rw [Bool.and_eq_true, beq_iff_eq] at this
        exact c1 this.1
      · rw [if_neg (fun z => ?_)]
        have := z.2
        unfold tru at this
        rw [Bool.and_eq_true, beq_iff_eq, beq_iff_eq] at this
        exact c2 this.2
      · rw [if_pos ⟨hne, by unfold tru; rw [Bool.and_eq_true, beq_iff_eq, beq_iff_eq]; exact ⟨c1, c2⟩⟩]
    · rintro y rfl
      refine Jn1.to (fun y => y = nI (if k ≠ w ∧ tru q x = true then q.2.2 else 0)) ⟨fun e => ?_, fun e => ⟨v3, ?_⟩⟩ ?_
      · by_cases z : k ≠ w ∧ tru q x = true
        · rw [if_pos z] at e
          exact absurd e (by decide)
        · rw [if_neg z]
          rfl
      · by_cases z : k ≠ w ∧ tru q x = true
        · rw [if_pos z]
        · rw [if_neg z] at e
          exact absurd rfl e
      · rintro y rfl
        exact hJ _ _ c ⟨nI_1 k, by rw [nI_or, outW_succ hq]⟩
/-- a term is redundant -/
def Red (S : AS) (t : Nat) : Prop := ∀ x, x < 2 ^ S.1 → outW S.2.2.1 x 100 S.2.2.1.length = outW S.2.2.1 x t S.2.2.1.length
theorem w_none {k : Nat} (hk : k < 10) : nI k = (-1 : Int32) ↔ k = 100 := by
  constructor
  · intro h
    exact absurd h (nI_ne_m1 (by omega))
  · intro h
    omega
theorem w_some {t k : Nat} (ht : t < 10) (hk : k < 10) : nI k = nI t ↔ k = t := nI_eq (by omega) (by omega)
theorem sp_words {nw : Nat → Int32} {S : AS} {K : Int32 → Prop} (hR : RepM nw S) (hz : Size S) (h : K (nI (2 ^ S.1))) : wp_X6_words nw K := by
  unfold wp_X6_words
  obtain ⟨z1, z2, z3⟩ := hz
  rw [hR.1, jshl_1 (by omega)]
  exact h
theorem sp_redundant {nw : Nat → Int32} {S : AS} {t : Nat} {K : Int32 → Prop} (hR : RepM nw S) (hz : Size S) (ht : t < S.2.2.1.length) (h1 : Red S t → K 1) (h0 : ¬ Red S t → K 0) : wp_X6_redundant (nI t) nw K := by
  have hz2 := hz
  obtain ⟨z1, z2, z3, z4, z5, z6⟩ := hz2
  have hp6 : 2 ^ S.1 ≤ 2 ^ 6 := Nat.pow_le_pow_right (by decide) z2
  have ho : ∀ x w, outW S.2.2.1 x w S.2.2.1.length < 2 ^ 4 := fun x w => Nat.lt_of_lt_of_le (outW_lt (fun q hq => (z6 q hq).2.2) x w _ (Nat.le_refl _)) (Nat.pow_le_pow_right (by decide) z4)
  unfold wp_X6_redundant
  refine Lp2.up (2 ^ S.1) (fun k s y => y = nI k ∧ ((s = 1 ∧ ∀ x, x < k → outW S.2.2.1 x 100 S.2.2.1.length = outW S.2.2.1 x t S.2.2.1.length) ∨ (s = 0 ∧ ¬ Red S t))) 0 (Nat.zero_le _) ⟨rfl, Or.inl ⟨rfl, fun x hx => by omega⟩⟩ ?_
  rintro k s y J hk ⟨rfl, hs⟩ hJ
  refine sp_words hR hz (le_br (by omega) (by omega) (fun c => ?_) (fun c => ?_))
  · rcases hs with ⟨rfl, hs⟩ | ⟨rfl, hs⟩
    · exact ⟨Or.inr rfl, h1 (fun x hx => hs x (by omega))⟩
    · exact ⟨Or.inl rfl, h0 hs⟩
  · rcases hs with ⟨rfl, hs⟩ | ⟨rfl, hs⟩
    · refine ⟨fun e => absurd e (by decide), fun _ => ?_⟩
      refine sp_outputs hR hz (by omega) (fun k hk => w_none hk) ?_
      refine sp_outputs hR hz (by omega) (fun k hk => w_some (by omega) hk) ?_
      have b1 := ho k 100
      have b2 := ho k t
      refine ne_br (by omega) (by omega) (fun e => ?_) (fun e => ?_)
      · exact hJ _ _ c ⟨nI_1 k, Or.inr ⟨rfl, fun hr => e (hr k c)⟩⟩
      · refine hJ _ _ c ⟨nI_1 k, Or.inl ⟨rfl, fun x hx => ?_⟩⟩
        by_cases ex : x = k
        · rw [ex]
          exact e
        · exact hs x (by omega)
    · exact ⟨fun _ => ⟨Or.inl rfl, h0 hs⟩, fun e => absurd rfl e⟩
