-- the class's words: output word, words of an output, spare terms
def cnt (p : Nat → Bool) : Nat → Nat
  | 0 => 0
  | n + 1 => cnt p n + (if p n then 1 else 0)
def nF (F : Nat → Option Nat) : Nat := cnt (fun c => (F c).isSome) 10
/-- the class's State holds the picture S -/
def RepC (inp otp tc fc : Int32) (on ze ou : Nat → Int32) (wd : Nat → Int64) (lo up : Nat → Int32) (S : AS) : Prop :=
  inp = nI S.1 ∧ otp = nI S.2.1 ∧ tc = nI S.2.2.1.length ∧ fc = nI (nF S.2.2.2.1) ∧ (∀ s q, S.2.2.1[s]? = some q → on s = nI q.1 ∧ ze s = nI q.2.1 ∧ ou s = nI q.2.2 ∧ wd s = tt S.1 q) ∧ ∀ c, c < 10 → lo c = opt (S.2.2.2.1 c) ∧ up c = opt (S.2.2.2.2 c)
theorem sp_outputWord {tc : Int32} {ou : Nat → Int32} {wd : Nat → Int64} {S : AS} {x : Nat} {K : Int32 → Prop} (hz : Size S) (htc : tc = nI S.2.2.1.length) (hr : ∀ s q, S.2.2.1[s]? = some q → ou s = nI q.2.2 ∧ wd s = tt S.1 q) (hx : x < 2 ^ S.1) (h : K (nI (outW S.2.2.1 x 100 S.2.2.1.length))) : wp_X4_outputWord (nI x) tc ou wd K := by
  obtain ⟨z1, z2, z3, z4, z5, z6⟩ := hz
  have hp := pow_le_64 z2
  subst htc
  unfold wp_X4_outputWord
  refine Lp2.up S.2.2.1.length (fun k r y => y = nI k ∧ r = nI (outW S.2.2.1 x 100 k)) 0 (Nat.zero_le _) ⟨rfl, rfl⟩ ?_
  rintro k r y J hk ⟨rfl, rfl⟩ hJ
  refine le_br (by omega) (by omega) (fun c => ?_) (fun c => ?_)
  · rw [show k = S.2.2.1.length by omega]
    exact h
  · obtain ⟨q, hq, hm⟩ := get_of_lt c
    obtain ⟨g1, g2⟩ := hr k q hq
    rw [nI_clamp (by omega), g1, g2]
    have v1 : vp_in (nI k) 10 := vp_in_nI (by omega) (by decide)
    have hb := bitL (a := mk (tru q) (2 ^ S.1)) (x := x) (mk_lt64 _ hp) (by omega)
    rw [mk_bit, decide_eq_true hx, Bool.true_and] at hb
    refine ⟨v1, fun e => ?_, fun e => ⟨v1, ?_⟩⟩
    · refine hJ _ _ c ⟨nI_1 k, ?_⟩
      rw [outW_succ hq, if_neg (fun z => e (hb.mpr z.2)), Nat.or_zero]
    · refine hJ _ _ c ⟨nI_1 k, ?_⟩
      rw [outW_succ hq, if_pos ⟨by omega, hb.mp e⟩, nI_or]
theorem sp_wordsOfOutput {tc a2 : Int32} {ou : Nat → Int32} {wd : Nat → Int64} {S : AS} {j w : Nat} {K : Int64 → Prop} (hz : Size S) (htc : tc = nI S.2.2.1.length) (hr : ∀ s q, S.2.2.1[s]? = some q → ou s = nI q.2.2 ∧ wd s = tt S.1 q) (hj : j < 32) (hw : ∀ k, k < 10 → (nI k = a2 ↔ k = w)) (h : K (lN (mk (fun x => (outW S.2.2.1 x w S.2.2.1.length).testBit j) (2 ^ S.1)))) : wp_X4_wordsOfOutput (nI j) a2 tc ou wd K := by
  obtain ⟨z1, z2, z3, z4, z5, z6⟩ := hz
  have hp := pow_le_64 z2
  have ho16 : 2 ^ S.2.1 ≤ 2 ^ 4 := Nat.pow_le_pow_right (by decide) z4
  subst htc
  unfold wp_X4_wordsOfOutput
  refine Lp2.up S.2.2.1.length (fun k r y => y = nI k ∧ r = lN (mk (fun x => (outW S.2.2.1 x w k).testBit j) (2 ^ S.1))) 0 (Nat.zero_le _) ⟨rfl, ?_⟩ ?_
  · show lN 0 = _
    congr 1
    apply bits_eq (n := 64) (by decide) (mk_lt64 _ hp)
    intro x hx
    rw [mk_bit]
    show (0 : Nat).testBit x = (decide (x < 2 ^ S.1) && (0 : Nat).testBit j)
    rw [Nat.zero_testBit, Nat.zero_testBit, Bool.and_false]
  rintro k r y J hk ⟨rfl, rfl⟩ hJ
  refine le_br (by omega) (by omega) (fun c => ?_) (fun c => ?_)
  · rw [show k = S.2.2.1.length by omega]
    exact h
  · obtain ⟨q, hq, hm⟩ := get_of_lt c
    obtain ⟨g1, g2⟩ := hr k q hq
    obtain ⟨b1, b2, b3⟩ := z6 q hm
    have same : (k = w ∨ q.2.2.testBit j = false) → mk (fun x => (outW S.2.2.1 x w k).testBit j) (2 ^ S.1) = mk (fun x => (outW S.2.2.1 x w (k + 1)).testBit j) (2 ^ S.1) := by
      intro hs
      apply bits_eq (n := 64) (mk_lt64 _ hp) (mk_lt64 _ hp)
      intro x hx
      rw [mk_bit, mk_bit, outW_succ hq, Nat.testBit_or]
      by_cases cz : k ≠ w ∧ tru q x = true
      · rw [if_pos cz, hs.resolve_left cz.1, Bool.or_false]
      · rw [if_neg cz, Nat.zero_testBit, Bool.or_false]
    rw [nI_clamp (by omega), g1, g2]
    have v1 : vp_in (nI k) 10 := vp_in_nI (by omega) (by decide)
    refine ⟨fun e => ?_, fun e => ⟨v1, sp_contains (by omega) hj (fun b => ?_) (fun b => ?_)⟩⟩
    · exact hJ _ _ c ⟨nI_1 k, congrArg lN (same (Or.inl ((hw k (by omega)).mp e)))⟩
    · refine ⟨fun z => absurd z (by decide), fun _ => ⟨v1, hJ _ _ c ⟨nI_1 k, ?_⟩⟩⟩
      show lN _ ||| lN _ = _
      rw [lN_or]
      congr 1
      apply bits_eq (n := 64) (Nat.or_lt_two_pow (mk_lt64 _ hp) (mk_lt64 _ hp)) (mk_lt64 _ hp)
      intro x hx
      rw [Nat.testBit_or, mk_bit, mk_bit, mk_bit, outW_succ hq, Nat.testBit_or]
      have hne : k ≠ w := fun z => e ((hw k (by omega)).mpr z)
      cases ht : tru q x
      · rw [if_neg (fun z => absurd z.2 (by decide)), Nat.zero_testBit]
        cases decide (x < 2 ^ S.1) <;> simp
      · rw [if_pos ⟨hne, rfl⟩, b]
        cases decide (x < 2 ^ S.1) <;> simp
    · exact ⟨fun _ => hJ _ _ c ⟨nI_1 k, congrArg lN (same (Or.inr b))⟩, fun z => absurd rfl z⟩
/-- redundant: each output of the term is 1 by others wherever the term is true -/
theorem Red_iff {S : AS} {t : Nat} {q : Tm} (hz : Size S) (hq : S.2.2.1[t]? = some q) : Red S t ↔ ∀ k, k < S.2.1 → q.2.2.testBit k = true → ∀ x, x < 2 ^ S.1 → tru q x = true → (outW S.2.2.1 x t S.2.2.1.length).testBit k = true := by
  obtain ⟨z1, z2, z3, z4, z5, z6⟩ := hz
  have ht := lt_of_get hq
  have hm : q ∈ S.2.2.1 := List.mem_of_getElem? hq
  constructor
  · intro h k hk hb x hx hx2
    rw [← h x hx]
    exact (outW_bit _ (Nat.le_refl _)).mpr ⟨t, q, ht, by omega, hq, hx2, hb⟩
  · intro h x hx
    apply Nat.eq_of_testBit_eq
    intro k
    apply Bool.eq_iff_iff.mpr
    rw [outW_bit _ (Nat.le_refl _)]
    constructor
    · rintro ⟨s, q2, h1, h2, h3, h4, h5⟩
      by_cases e : s = t
      · subst e
        rw [hq] at h3
        cases h3
        refine h k ?_ h5 x hx h4
        rcases Nat.lt_or_ge k S.2.1 with c | c
        · exact c
        · rw [Nat.testBit_lt_two_pow (Nat.lt_of_lt_of_le (z6 q hm).2.2 (Nat.pow_le_pow_right (by decide) c))] at h5
          exact absurd h5 (by decide)
      · exact (outW_bit _ (Nat.le_refl _)).mpr ⟨s, q2, h1, e, h3, h4, h5⟩
    · intro hb
      obtain ⟨s, q2, h1, h2, h3, h4⟩ := (outW_bit _ (Nat.le_refl _)).mp hb
      exact ⟨s, q2, h1, by omega, h3, h4⟩
theorem sp_isSpare {otp tc : Int32} {ou : Nat → Int32} {wd : Nat → Int64} {S : AS} {t : Nat} {K : Int32 → Prop} (hz : Size S) (hot : otp = nI S.2.1) (htc : tc = nI S.2.2.1.length) (hr : ∀ s q, S.2.2.1[s]? = some q → ou s = nI q.2.2 ∧ wd s = tt S.1 q) (ht : t < S.2.2.1.length) (h1 : Red S t → K 1) (h0 : ¬ Red S t → K 0) : wp_X4_isSpare (nI t) otp tc ou wd K := by
  obtain ⟨q, hq, hm⟩ := get_of_lt ht
  have hri := Red_iff hz hq
  obtain ⟨g1, g2⟩ := hr t q hq
  have hz2 := hz
  obtain ⟨z1, z2, z3, z4, z5, z6⟩ := hz2
  obtain ⟨b1, b2, b3⟩ := z6 q hm
  have hp := pow_le_64 z2
  have ho16 : 2 ^ S.2.1 ≤ 2 ^ 4 := Nat.pow_le_pow_right (by decide) z4
  subst hot
  unfold wp_X4_isSpare
  rw [nI_clamp (by omega), g1, g2]
  have v1 : vp_in (nI t) 10 := vp_in_nI (by omega) (by decide)
  refine Lp1.up S.2.1 (fun k y => y = nI k ∧ ∀ k2, k2 < k → q.2.2.testBit k2 = true → ∀ x, x < 2 ^ S.1 → tru q x = true → (outW S.2.2.1 x t S.2.2.1.length).testBit k2 = true) 0 (Nat.zero_le _) ⟨rfl, fun k2 h => by omega⟩ ?_
  rintro k y J hk ⟨rfl, hs⟩ hJ
  refine le_br (by omega) (by omega) (fun c => h1 (hri.mpr (fun k2 h => hs k2 (by omega)))) (fun c => ⟨v1, sp_contains (by omega) (by omega) (fun b => ?_) (fun b => ?_)⟩)
  · refine ⟨fun z => absurd z (by decide), fun _ => ⟨v1, ?_⟩⟩
    refine sp_wordsOfOutput hz htc hr (by omega) (fun k hk => w_some (by omega) hk) ?_
    have e9 : tt S.1 q &&& (lN (mk (fun x => (outW S.2.2.1 x t S.2.2.1.length).testBit k) (2 ^ S.1)) ^^^ (-1 : Int64)) = lN (bdiff (mk (tru q) (2 ^ S.1)) (mk (fun x => (outW S.2.2.1 x t S.2.2.1.length).testBit k) (2 ^ S.1))) := lN_diff
    rw [e9, lg_cmp_eq]
    have key : lN (bdiff (mk (tru q) (2 ^ S.1)) (mk (fun x => (outW S.2.2.1 x t S.2.2.1.length).testBit k) (2 ^ S.1))) = (0 : Int64) ↔ ∀ x, x < 2 ^ S.1 → tru q x = true → (outW S.2.2.1 x t S.2.2.1.length).testBit k = true := by
      constructor
      · intro e x hx hx2
        have e2 : bdiff (mk (tru q) (2 ^ S.1)) (mk (fun x => (outW S.2.2.1 x t S.2.2.1.length).testBit k) (2 ^ S.1)) = 0 := lN_inj (bdiff_le (mk_lt64 _ hp)) (by decide) e
        have e3 := bit0.mp e2 x
        rw [bdiff_bit, mk_bit, mk_bit, decide_eq_true hx, hx2] at e3
        simpa using e3
      · intro e
        have e2 : bdiff (mk (tru q) (2 ^ S.1)) (mk (fun x => (outW S.2.2.1 x t S.2.2.1.length).testBit k) (2 ^ S.1)) = 0 := by
          apply bit0.mpr
          intro x
          rw [bdiff_bit, mk_bit, mk_bit]
          by_cases hx : x < 2 ^ S.1
          · cases hx2 : tru q x
            · simp
            · rw [e x hx hx2]
              simp
          · rw [decide_eq_false hx]
            simp
        rw [e2]
        rfl
    refine ⟨fun e => hJ _ c ⟨nI_1 k, fun k2 hk2 => ?_⟩, fun e => h0 (fun hr2 => e (key.mpr (hri.mp hr2 k c b)))⟩
    by_cases ek : k2 = k
    · subst ek
      exact fun _ => key.mp e
    · exact hs k2 (by omega)
  · refine ⟨fun _ => hJ _ c ⟨nI_1 k, fun k2 hk2 hb => ?_⟩, fun z => absurd rfl z⟩
    by_cases ek : k2 = k
    · subst ek
      rw [b] at hb
      exact absurd hb (by decide)
    · exact hs k2 (by omega) hb
