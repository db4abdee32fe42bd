-- columns: the terms that a column uses
def colB (q : Tm) (c : Nat) : Bool := if c < 6 then (q.1 ||| q.2.1).testBit c else q.2.2.testBit (c - 6)
def use (T : List Tm) (c : Nat) : Nat := mk (fun t => match T[t]? with
  | some q => colB q c
  | none => false) T.length
theorem use_lt (T : List Tm) (c : Nat) (h : T.length ≤ 10) : use T c < 2 ^ 10 := Nat.lt_of_lt_of_le (mk_lt _ _) (Nat.pow_le_pow_right (by decide) h)
theorem use_bit {T : List Tm} {c t : Nat} : (use T c).testBit t = true ↔ ∃ q, T[t]? = some q ∧ colB q c = true := by
  unfold use
  rw [mk_bit, Bool.and_eq_true, decide_eq_true_iff]
  constructor
  · rintro ⟨h1, h2⟩
    obtain ⟨q, hq, -⟩ := get_of_lt h1
    rw [hq] at h2
    exact ⟨q, hq, h2⟩
  · rintro ⟨q, hq, h2⟩
    refine ⟨lt_of_get hq, ?_⟩
    rw [hq]
    exact h2
theorem use_step {T : List Tm} {c k : Nat} {q : Tm} (hq : T[k]? = some q) : mk (fun t => match T[t]? with
  | some q => colB q c
  | none => false) (k + 1) = mk (fun t => match T[t]? with
  | some q => colB q c
  | none => false) k ||| (if colB q c = true then 2 ^ k else 0) := by
  show _ ||| _ = _
  simp only [hq]
theorem sp_usedBy {nw : Nat → Int32} {S : AS} {c : Nat} {K : Int32 → Prop} (hR : RepM nw S) (hz : Size S) (hc : c < 10) (h : K (nI (use S.2.2.1 c))) : wp_X6_usedBy (nI c) nw K := by
  obtain ⟨r0, r1, r2, r3, r4⟩ := hR
  obtain ⟨z1, z2, z3, z4, z5, z6⟩ := hz
  have hp6 : 2 ^ S.1 ≤ 2 ^ 6 := Nat.pow_le_pow_right (by decide) z2
  have hp4 : 2 ^ S.2.1 ≤ 2 ^ 4 := Nat.pow_le_pow_right (by decide) z4
  unfold wp_X6_usedBy
  rw [r2]
  refine Lp2.up S.2.2.1.length (fun k r y => y = nI k ∧ r = nI (mk (fun t => match S.2.2.1[t]? with
    | some q => colB q c
    | none => false) k)) 0 (Nat.zero_le _) ⟨rfl, rfl⟩ ?_
  rintro k r y J hk ⟨rfl, rfl⟩ hJ
  refine le_br (by omega) (by omega) (fun d => ?_) (fun d => ?_)
  · rw [show k = S.2.2.1.length by omega]
    exact h
  · obtain ⟨q, hq, hm⟩ := get_of_lt d
    obtain ⟨g1, g2, g3⟩ := r3 k q hq
    obtain ⟨b1, b2, b3⟩ := z6 q hm
    have e1 := ixc (a := 3) (k := k) (by omega)
    have e2 := ixc (a := 13) (k := k) (by omega)
    have e3 := ixc (a := 23) (k := k) (by omega)
    have v1 : vp_in (nI 3 + nI k) 53 := ixv (by omega) (by decide)
    have v2 : vp_in (nI 13 + nI k) 53 := ixv (by omega) (by decide)
    have v3 : vp_in (nI 23 + nI k) 53 := ixv (by omega) (by decide)
    rw [e1, e2, e3, g1, g2, g3, nI_or]
    have hor : q.1 ||| q.2.1 < 2 ^ 6 := Nat.or_lt_two_pow (by omega) (by omega)
    refine Jn1.to (fun y => y = nI (if c < 6 then q.1 ||| q.2.1 else q.2.2)) (le_br (by decide) (by omega) (fun d2 => ⟨v3, ?_⟩) (fun d2 => ⟨v1, v2, ?_⟩)) ?_
    · rw [if_neg (by omega)]
    · rw [if_pos d2]
    · rintro y rfl
      refine Jn1.to (fun y => y = nI (if c < 6 then c else c - 6)) (le_br (by decide) (by omega) (fun d2 => ?_) (fun d2 => ?_)) ?_
      · rw [if_neg (by omega)]
        exact pk_sub (a := c) (b := 6) d2
      · rw [if_pos d2]
      · rintro y rfl
        have hS : (if c < 6 then q.1 ||| q.2.1 else q.2.2) < 2 ^ 31 := by
          split <;> omega
        have hk2 : (if c < 6 then c else c - 6) < 32 := by
          split <;> omega
        have ecol : (if c < 6 then q.1 ||| q.2.1 else q.2.2).testBit (if c < 6 then c else c - 6) = colB q c := by
          unfold colB
          by_cases d3 : c < 6
          · rw [if_pos d3, if_pos d3, if_pos d3]
          · rw [if_neg d3, if_neg d3, if_neg d3]
        refine sp_has hS hk2 (fun b => ?_) (fun b => ?_)
        · rw [ecol] at b
          refine Jn1.to (fun y => y = nI (2 ^ k)) ⟨fun z => absurd z (by decide), fun _ => jshl_1 (by omega)⟩ ?_
          rintro y rfl
          exact hJ _ _ d ⟨nI_1 k, by rw [nI_or, use_step hq, if_pos b]⟩
        · rw [ecol] at b
          refine Jn1.to (fun y => y = 0) ⟨fun _ => rfl, fun z => absurd rfl z⟩ ?_
          rintro y rfl
          refine hJ _ _ d ⟨nI_1 k, ?_⟩
          rw [use_step hq, if_neg (by rw [b]; decide)]
          exact nI_or _ 0
theorem sp_termsOfColumn {tc : Int32} {on ze ou : Nat → Int32} {wd : Nat → Int64} {S : AS} {c : Nat} {K : Int32 → Prop} (htc : tc = nI S.2.2.1.length) (hR : RepT on ze ou wd S.1 S.2.2.1) (hz : Size S) (hc : c < 10) (h : K (nI (use S.2.2.1 c))) : wp_X4_termsOfColumn (nI c) tc on ze ou K := by
  obtain ⟨z1, z2, z3, z4, z5, z6⟩ := hz
  have hp6 : 2 ^ S.1 ≤ 2 ^ 6 := Nat.pow_le_pow_right (by decide) z2
  have hp4 : 2 ^ S.2.1 ≤ 2 ^ 4 := Nat.pow_le_pow_right (by decide) z4
  subst htc
  unfold wp_X4_termsOfColumn
  refine Lp2.up S.2.2.1.length (fun k r y => y = nI k ∧ r = nI (mk (fun t => match S.2.2.1[t]? with
    | some q => colB q c
    | none => false) k)) 0 (Nat.zero_le _) ⟨rfl, rfl⟩ ?_
  rintro k r y J hk ⟨rfl, rfl⟩ hJ
  refine le_br (by omega) (by omega) (fun d => ?_) (fun d => ?_)
  · rw [show k = S.2.2.1.length by omega]
    exact h
  · obtain ⟨q, hq, hm⟩ := get_of_lt d
    obtain ⟨g1, g2, g3, g4⟩ := hR k q hq
    obtain ⟨b1, b2, b3⟩ := z6 q hm
    have v1 : vp_in (nI k) 10 := vp_in_nI (by omega) (by decide)
    rw [nI_clamp (by omega), g1, g2, g3, nI_or, jshl_n (a := q.2.2) (t := 6) (by decide) (by omega), nI_or]
    have hor : q.1 ||| q.2.1 < 2 ^ 6 := Nat.or_lt_two_pow (by omega) (by omega)
    have hor2 : q.1 ||| q.2.1 ||| q.2.2 * 2 ^ 6 < 2 ^ 10 := Nat.or_lt_two_pow (by omega) (by omega)
    have ecol : (q.1 ||| q.2.1 ||| q.2.2 * 2 ^ 6).testBit c = colB q c := by
      rw [Nat.testBit_or, Nat.mul_comm, Nat.testBit_two_pow_mul]
      unfold colB
      by_cases d3 : c < 6
      · rw [if_pos d3, decide_eq_false (by omega), Bool.false_and, Bool.or_false]
      · rw [if_neg d3, decide_eq_true (by omega), Bool.true_and, Nat.testBit_lt_two_pow (Nat.lt_of_lt_of_le hor (Nat.pow_le_pow_right (by decide) (by omega))), Bool.false_or]
    refine ⟨v1, v1, v1, sp_contains (by omega) (by omega) (fun b => ?_) (fun b => ?_)⟩
    · rw [ecol] at b
      refine ⟨fun z => absurd z (by decide), fun _ => ?_⟩
      rw [jshl_1 (by omega)]
      exact hJ _ _ d ⟨nI_1 k, by rw [nI_or, use_step hq, if_pos b]⟩
    · rw [ecol] at b
      refine ⟨fun _ => hJ _ _ d ⟨nI_1 k, ?_⟩, fun z => absurd rfl z⟩
      rw [use_step hq, if_neg (by rw [b]; decide), Nat.or_zero]
theorem sp_layUsed {nw us : Nat → Int32} {S : AS} {K : (Nat → Int32) → Prop} (hR : RepM nw S) (hz : Size S) (h : ∀ us2, (∀ c, c < 10 → us2 c = nI (use S.2.2.1 c)) → K us2) : wp_X6_layUsed nw us K := by
  unfold wp_X6_layUsed
  refine Lp2.up 10 (fun k x z => x = nI k ∧ ∀ c, c < k → z c = nI (use S.2.2.1 c)) 0 (by omega) ⟨rfl, fun c hc => by omega⟩ ?_
  rintro k x z J hk ⟨rfl, hs⟩ hJ
  refine le_br (by decide) (by omega) (fun d => h z (fun c hc => hs c (by omega))) (fun d => ?_)
  refine sp_usedBy hR hz d ⟨vp_in_nI d (by decide), hJ _ _ d ⟨nI_1 k, fun c hc => ?_⟩⟩
  rw [nI_clamp (by omega)]
  by_cases e : c = k
  · rw [e, pk_us]
  · rw [pk_un e]
    exact hs c (by omega)
