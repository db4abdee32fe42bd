-- what is reached from a term
def c10 (M : Nat) : Nat := cnt (fun t => M.testBit t) 10
theorem c10_lt {M Q t : Nat} (h : ∀ k, M.testBit k = true → Q.testBit k = true) (h1 : M.testBit t = false) (h2 : Q.testBit t = true) (ht : t < 10) : c10 M < c10 Q := by
  unfold c10
  exact cnt_lt (p := fun t => M.testBit t) (q := fun t => Q.testBit t) h h1 h2 10 ht
theorem c10_full {M : Nat} (h : 10 ≤ c10 M) : ∀ t, t < 10 → M.testBit t = true := by
  intro t ht
  cases hb : M.testBit t
  · exfalso
    have h3 := cnt_lt (p := fun t => M.testBit t) (q := fun _ => true) (k := t) (fun _ _ => rfl) hb rfl 10 ht
    rw [cnt_true] at h3
    unfold c10 at h
    omega
  · rfl
theorem sp_reach {un : Nat → Int32} {R : Nat → Nat → Prop} {a M0 : Nat} {A : Int32 → Prop} (hD : Dir un R) (hl : Low R) (hM0 : M0 < 2 ^ 10) (hb0 : ∀ b, M0.testBit b = true ↔ R a b) (h : ∀ M, M < 2 ^ 10 → (∀ b, M.testBit b = true ↔ TC R a b) → A (nI M)) :
    Lp2 (nI M0) (0 : Int32) (fun (x12 : Int32) (x13 : Int32) (J17 : Int32 → Int32 → Prop) => (((nI 10) ≤ x13 → A x12) ∧
     (¬ ((nI 10) ≤ x13) → (Lp2 x12 (0 : Int32) (fun (x24 : Int32) (x25 : Int32) (J29 : Int32 → Int32 → Prop) => (((nI 10) ≤ x25 → J17 x24 (x13 + (1 : Int32))) ∧
     (¬ ((nI 10) ≤ x25) → wp_X6_has x24 x25 (fun (r36 : Int32) => (Jn1 (fun (y38 : Int32) => J29 (x24 ||| y38) (x25 + (1 : Int32)))
     (fun (J39 : Int32 → Prop) => ((r36 = 0 → J39 (0 : Int32)) ∧
     (¬ (r36 = 0) → (vp_in x25 10 ∧ J39 (un x25.toNatClampNeg)))))))))))))) := by
  refine Lp2.up 10 (fun k x y => y = nI k ∧ ∃ M, x = nI M ∧ M < 2 ^ 10 ∧ (∀ b, R a b → M.testBit b = true) ∧ (∀ b, M.testBit b = true → TC R a b) ∧ (k ≤ c10 M ∨ ∀ t b, M.testBit t = true → R t b → M.testBit b = true)) 0 (by omega) ⟨rfl, M0, rfl, hM0, fun b => (hb0 b).mpr, fun b hb => TC.one ((hb0 b).mp hb), Or.inl (Nat.zero_le _)⟩ ?_
  rintro k x y J hk ⟨rfl, M, rfl, hM, m1, m2, m3⟩ hJ
  refine le_br (by decide) (by omega) (fun c => ?_) (fun c => ?_)
  · have hcl : ∀ t b, M.testBit t = true → R t b → M.testBit b = true := by
      rcases m3 with q | q
      · exact fun t b _ hr => c10_full (by omega) b (hl t b hr).2
      · exact q
    refine h M hM (fun b => ⟨m2 b, fun hb => ?_⟩)
    exact hb (fun b => M.testBit b = true) (fun x hx => m1 x hx) (fun x y p q => hcl x y p q)
  · refine Lp2.up 10 (fun i x y => y = nI i ∧ ∃ Q, x = nI Q ∧ Q < 2 ^ 10 ∧ (∀ b, M.testBit b = true → Q.testBit b = true) ∧ (∀ b, Q.testBit b = true → TC R a b) ∧ ∀ t, t < i → M.testBit t = true → ∀ b, R t b → Q.testBit b = true) 0 (by omega) ⟨rfl, M, rfl, hM, fun b q => q, m2, fun t ht => by omega⟩ ?_
    rintro i x y J2 hi ⟨rfl, Q, rfl, hQ, q1, q2, q3⟩ hJ2
    refine le_br (by decide) (by omega) (fun d => ?_) (fun d => ?_)
    · refine hJ _ _ c ⟨nI_1 k, Q, rfl, hQ, fun b hb => q1 b (m1 b hb), q2, ?_⟩
      rcases Classical.em (∃ t, Q.testBit t = true ∧ M.testBit t = false) with ⟨t, e1, e2⟩ | e
      · rcases m3 with q | q
        · have := c10_lt q1 e2 e1 (bit_lt hQ e1)
          exact Or.inl (by omega)
        · -- M was closed: nothing new can have come
          exfalso
          have hin : TC R a t := q2 t e1
          have : M.testBit t = true := hin (fun b => M.testBit b = true) (fun x hx => m1 x hx) (fun x y p r => q x y p r)
          rw [e2] at this
          exact absurd this (by decide)
      · refine Or.inr (fun t b ht hr => ?_)
        have htM : M.testBit t = true := by
          cases hm : M.testBit t
          · exact absurd ⟨t, ht, hm⟩ e
          · rfl
        exact q3 t (by have := bit_lt hM htM; omega) htM b hr
    · refine sp_has (by omega) (by omega) (fun b1 => ?_) (fun b0 => ?_)
      · obtain ⟨m4, hm4, e4, hb4⟩ := hD i d
        rw [nI_clamp (by omega), e4]
        refine Jn1.to (fun y => y = nI m4) ⟨fun z => absurd z (by decide), fun _ => ⟨vp_in_nI d (by decide), rfl⟩⟩ ?_
        rintro y rfl
        rw [nI_or]
        refine hJ2 _ _ d ⟨nI_1 i, Q ||| m4, rfl, Nat.or_lt_two_pow hQ hm4, fun b hb => ?_, fun b hb => ?_, fun t ht htM b hr => ?_⟩
        · rw [Nat.testBit_or, q1 b hb]
          rfl
        · rw [Nat.testBit_or, Bool.or_eq_true] at hb
          rcases hb with hb | hb
          · exact q2 b hb
          · exact (q2 i b1).step ((hb4 b).mp hb)
        · rw [Nat.testBit_or, Bool.or_eq_true]
          by_cases e : t = i
          · subst e
            exact Or.inr ((hb4 b).mpr hr)
          · exact Or.inl (q3 t (by omega) htM b hr)
      · refine Jn1.to (fun y => y = nI 0) ⟨fun _ => rfl, fun z => absurd rfl z⟩ ?_
        rintro y rfl
        rw [nI_or, Nat.or_zero]
        refine hJ2 _ _ d ⟨nI_1 i, Q, rfl, hQ, q1, q2, fun t ht htM b hr => ?_⟩
        by_cases e : t = i
        · subst e
          rw [q1 t htM] at b0
          exact absurd b0 (by decide)
        · exact q3 t (by omega) htM b hr
