-- the class's columns and pairs
theorem sp_hasColumn {a inp otp : Int32} {i o : Nat} {K : Int32 → Prop} (hi : inp = nI i) (ho : otp = nI o) (hi6 : i ≤ 6) (ho4 : o ≤ 4) (h1 : ∀ k, colE i o k → a = nI k → K 1) (h0 : (∀ k, colE i o k → ¬ a = nI k) → K 0) : wp_X4_hasColumn a inp otp K := by
  subst hi
  subst ho
  unfold wp_X4_hasColumn
  by_cases hn : a < 0
  · have hno : ∀ k, colE i o k → ¬ a = nI k := by
      rintro k hk rfl
      exact nI_pos (by have := col10 hi6 ho4 hk; omega) hn
    refine ⟨fun c => ?_, fun _ => ⟨fun _ => h0 hno, fun c => absurd hn c⟩⟩
    exfalso
    rw [Int32.lt_iff_toInt_lt] at hn
    rw [Int32.le_iff_toInt_le] at c
    have : (nI 6).toInt = 6 := rfl
    have h00 : (0 : Int32).toInt = 0 := rfl
    omega
  · obtain ⟨j, hj, rfl⟩ := nI_of hn
    refine le_br (by decide) hj (fun c => ?_) (fun c => ⟨fun d => absurd d hn, fun _ => ?_⟩)
    · have e : nI j - nI 6 = nI (j - 6) := pk_sub c
      rw [e]
      refine le_br (by omega) (by omega) (fun d => h0 (fun k hk ek => ?_)) (fun d => h1 j (Or.inr ⟨c, by omega⟩) rfl)
      have k10 := col10 hi6 ho4 hk
      have : j = k := (nI_eq hj (by omega)).mp ek
      rcases hk with q | q <;> omega
    · refine le_br (by omega) hj (fun d => h0 (fun k hk ek => ?_)) (fun d => h1 j (Or.inl d) rfl)
      have k10 := col10 hi6 ho4 hk
      have : j = k := (nI_eq hj (by omega)).mp ek
      rcases hk with q | q <;> omega
def pairP (S : AS) (u v : Nat) : Prop := u ≠ v ∧ (u < 6 ↔ v < 6) ∧ use S.2.2.1 u &&& use S.2.2.1 v = 0
theorem sp_isPair {tc : Int32} {on ze ou : Nat → Int32} {wd : Nat → Int64} {S : AS} {u v : Nat} {K : Int32 → Prop} (htc : tc = nI S.2.2.1.length) (hR : RepT on ze ou wd S.1 S.2.2.1) (hz : Size S) (hu : u < 10) (hv : v < 10) (h1 : pairP S u v → K 1) (h0 : ¬ pairP S u v → K 0) : wp_X4_isPair (nI u) (nI v) tc on ze ou K := by
  have z5 : S.2.2.1.length ≤ 10 := hz.2.2.2.2.1
  unfold wp_X4_isPair
  refine Jn1.to (fun y => y = if u < 6 then 1 else 0) (le_br (by decide) (by omega) (fun d => by rw [if_neg (by omega)]) (fun d => by rw [if_pos d])) ?_
  rintro y rfl
  refine Jn1.to (fun y => y = if v < 6 then 1 else 0) (le_br (by decide) (by omega) (fun d => by rw [if_neg (by omega)]) (fun d => by rw [if_pos d])) ?_
  rintro y rfl
  refine Jn1.to (fun y => (y = 1 ∧ (u < 6 ↔ v < 6)) ∨ (y = 0 ∧ ¬ (u < 6 ↔ v < 6))) ⟨fun c => Or.inr ⟨rfl, fun f4 => c ?_⟩, fun c => Or.inl ⟨rfl, ?_⟩⟩ ?_
  · by_cases q : u < 6
    · rw [if_pos q, if_pos (f4.mp q)]
    · rw [if_neg q, if_neg (fun q2 => q (f4.mpr q2))]
  · by_cases q : u < 6 <;> by_cases q2 : v < 6
    · exact ⟨fun _ => q2, fun _ => q⟩
    · rw [if_pos q, if_neg q2] at c
      exact absurd c (by decide)
    · rw [if_neg q, if_pos q2] at c
      exact absurd c (by decide)
    · exact ⟨fun q3 => absurd q3 q, fun q3 => absurd q3 q2⟩
  · have hut := use_lt S.2.2.1 u z5
    have hand : use S.2.2.1 u &&& use S.2.2.1 v < 2 ^ 31 := Nat.lt_of_le_of_lt Nat.and_le_left (by omega)
    rintro y (⟨rfl, hk⟩ | ⟨rfl, hk⟩)
    · refine eq_br (by omega) (by omega) (fun e => h0 (fun f => f.1 e)) (fun e => ⟨fun q => absurd q (by decide), fun _ => ?_⟩)
      refine sp_termsOfColumn htc hR hz hu (sp_termsOfColumn htc hR hz hv ?_)
      rw [nI_and]
      exact ne_br (b := 0) hand (by decide) (fun d => h0 (fun f => d f.2.2)) (fun d => h1 ⟨e, hk, d⟩)
    · exact ⟨fun _ => h0 (fun f => hk f.2.1), fun _ => ⟨fun _ => h0 (fun f => hk f.2.1), fun q => absurd rfl q⟩⟩
theorem fit_pair {S : AS} {u v : Nat} : fitP S u v ↔ colE S.1 S.2.1 u ∧ colE S.1 S.2.1 v ∧ pairP S u v := ⟨fun ⟨a, b, c, d, e⟩ => ⟨b, c, a, d, e⟩, fun ⟨b, c, a, d, e⟩ => ⟨a, b, c, d, e⟩⟩
theorem bit_add {m k : Nat} {P : Nat → Prop} (hm : m < 2 ^ 10) (hk : k < 10) (hb : ∀ v, m.testBit v = true ↔ v < k ∧ P v) (hp : P k) : (m ||| 2 ^ k) < 2 ^ 10 ∧ ∀ v, (m ||| 2 ^ k).testBit v = true ↔ v < k + 1 ∧ P v := by
  refine ⟨Nat.or_lt_two_pow hm (Nat.pow_lt_pow_right (by decide) hk), fun v => ?_⟩
  rw [Nat.testBit_or, Bool.or_eq_true, hb, Nat.testBit_two_pow, decide_eq_true_iff]
  constructor
  · rintro (⟨q1, q2⟩ | q)
    · exact ⟨by omega, q2⟩
    · rw [← q]
      exact ⟨by omega, hp⟩
  · rintro ⟨q1, q2⟩
    by_cases e : v = k
    · exact Or.inr e.symm
    · exact Or.inl ⟨by omega, q2⟩
theorem bit_not {m k : Nat} {P : Nat → Prop} (hb : ∀ v, m.testBit v = true ↔ v < k ∧ P v) (hp : ¬ P k) : ∀ v, m.testBit v = true ↔ v < k + 1 ∧ P v := by
  intro v
  rw [hb]
  constructor
  · rintro ⟨q1, q2⟩
    exact ⟨by omega, q2⟩
  · rintro ⟨q1, q2⟩
    by_cases e : v = k
    · rw [e] at q2
      exact absurd q2 hp
    · exact ⟨by omega, q2⟩
theorem sp_matesOf {inp otp tc : Int32} {on ze ou : Nat → Int32} {wd : Nat → Int64} {S : AS} {u : Nat} {K : Int32 → Prop} (hi : inp = nI S.1) (ho : otp = nI S.2.1) (htc : tc = nI S.2.2.1.length) (hR : RepT on ze ou wd S.1 S.2.2.1) (hz : Size S) (hu : u < 10) (h : ∀ m, m < 2 ^ 10 → (∀ v, m.testBit v = true ↔ v < 10 ∧ fitP S u v) → K (nI m)) : wp_X0_matesOf (nI u) inp otp tc on ze ou K := by
  have hz2 := hz
  obtain ⟨z1, z2, z3, z4, z5, z6⟩ := hz2
  unfold wp_X0_matesOf
  refine Lp2.up 10 (fun k x y => y = nI k ∧ ∃ m, x = nI m ∧ m < 2 ^ 10 ∧ ∀ v, m.testBit v = true ↔ v < k ∧ fitP S u v) 0 (by omega) ⟨rfl, 0, rfl, by decide, fun v => by rw [Nat.zero_testBit]; exact ⟨fun q => absurd q (by decide), fun q => by omega⟩⟩ ?_
  rintro k x y J hk ⟨rfl, m, rfl, hm, hb⟩ hJ
  refine le_br (by decide) (by omega) (fun c => ?_) (fun c => ?_)
  · rw [show k = 10 by omega] at hb
    exact h m hm hb
  · have no : ¬ fitP S u k → J (nI m) (nI k + 1) := fun hno => hJ _ _ c ⟨nI_1 k, m, rfl, hm, bit_not hb hno⟩
    refine sp_hasColumn hi ho z2 z4 (fun k1 hk1 e1 => ⟨fun q => absurd q (by decide), fun _ => ?_⟩) (fun hno => ⟨fun _ => no (fun f => hno u f.2.1 rfl), fun q => absurd rfl q⟩)
    have e1 : u = k1 := (nI_eq (by omega) (by have := col10 z2 z4 hk1; omega)).mp e1
    subst e1
    refine sp_hasColumn hi ho z2 z4 (fun k2 hk2 e2 => ⟨fun q => absurd q (by decide), fun _ => ?_⟩) (fun hno => ⟨fun _ => no (fun f => hno k f.2.2.1 rfl), fun q => absurd rfl q⟩)
    have e2 : k = k2 := (nI_eq (by omega) (by have := col10 z2 z4 hk2; omega)).mp e2
    subst e2
    refine sp_isPair htc hR hz hu c (fun hp => ⟨fun q => absurd q (by decide), fun _ => ?_⟩) (fun hp => ⟨fun _ => no (fun f => hp (fit_pair.mp f).2.2), fun q => absurd rfl q⟩)
    rw [jshl_1 (by omega), nI_or]
    obtain ⟨b1, b2⟩ := bit_add hm c hb (fit_pair.mpr ⟨hk1, hk2, hp⟩)
    exact hJ _ _ c ⟨nI_1 k, _, rfl, b1, b2⟩
theorem sp_foldable {bd bm : Nat → Int32} {inp otp tc : Int32} {on ze ou : Nat → Int32} {wd : Nat → Int64} {S : AS} {K : Int32 → (Nat → Int32) → (Nat → Int32) → Prop} (hi : inp = nI S.1) (ho : otp = nI S.2.1) (htc : tc = nI S.2.2.1.length) (hR : RepT on ze ou wd S.1 S.2.2.1) (hz : Size S)
    (h : ∀ Fr bd2 bm2, Fr < 2 ^ 10 → (∀ u, Fr.testBit u = true ↔ u < 10 ∧ ∃ v, fitP S u v) → (∀ c, c < 10 → bd2 c = nI (use S.2.2.1 c)) → (∀ c, c < 10 → ∃ m, bm2 c = nI m ∧ m < 2 ^ 10 ∧ ∀ v, m.testBit v = true ↔ v < 10 ∧ fitP S c v) → K (nI Fr) bd2 bm2) : wp_X0_foldableColumns bd bm inp otp tc on ze ou K := by
  have hz2 := hz
  obtain ⟨z1, z2, z3, z4, z5, z6⟩ := hz2
  unfold wp_X0_foldableColumns
  refine Lp4.up 10 (fun k x y z3 z4 => y = nI k ∧ (∃ Fr, x = nI Fr ∧ Fr < 2 ^ 10 ∧ ∀ u, Fr.testBit u = true ↔ u < k ∧ ∃ v, fitP S u v) ∧ (∀ c, c < k → z3 c = nI (use S.2.2.1 c)) ∧ ∀ c, c < k → ∃ m, z4 c = nI m ∧ m < 2 ^ 10 ∧ ∀ v, m.testBit v = true ↔ v < 10 ∧ fitP S c v) 0 (by omega) ⟨rfl, ⟨0, rfl, by decide, fun v => by rw [Nat.zero_testBit]; exact ⟨fun q => absurd q (by decide), fun q => by omega⟩⟩, fun c hc => by omega, fun c hc => by omega⟩ ?_
  rintro k x y b1 b2 J hk ⟨rfl, ⟨Fr, rfl, hF, hFb⟩, h3, h4⟩ hJ
  refine le_br (by decide) (by omega) (fun c => ?_) (fun c => ?_)
  · rw [show k = 10 by omega] at hFb h3 h4
    exact h Fr b1 b2 hF hFb h3 h4
  · have v1 : vp_in (nI k) 10 := vp_in_nI c (by decide)
    refine sp_termsOfColumn htc hR hz c ⟨v1, sp_matesOf hi ho htc hR hz c (fun m hm hmb => ⟨v1, v1, ?_⟩)⟩
    rw [nI_clamp (by omega), pk_us]
    have g3 : ∀ c, c < k + 1 → upd b1 k (nI (use S.2.2.1 k)) c = nI (use S.2.2.1 c) := fun c hc => by
      by_cases e : c = k
      · rw [e, pk_us]
      · rw [pk_un e]
        exact h3 c (by omega)
    have g4 : ∀ c, c < k + 1 → ∃ m2, upd b2 k (nI m) c = nI m2 ∧ m2 < 2 ^ 10 ∧ ∀ v, m2.testBit v = true ↔ v < 10 ∧ fitP S c v := fun c hc => by
      by_cases e : c = k
      · rw [e, pk_us]
        exact ⟨m, rfl, hm, hmb⟩
      · rw [pk_un e]
        exact h4 c (by omega)
    refine eq_br (b := 0) (by omega) (by decide) (fun e => ?_) (fun e => ?_)
    · refine hJ _ _ _ _ c ⟨nI_1 k, ⟨Fr, rfl, hF, bit_not hFb (fun ⟨v, hv⟩ => ?_)⟩, g3, g4⟩
      have := (hmb v).mpr ⟨col10 z2 z4 hv.2.2.1, hv⟩
      rw [e, Nat.zero_testBit] at this
      exact absurd this (by decide)
    · obtain ⟨v, hv⟩ := Nat.exists_testBit_of_ne_zero e
      rw [jshl_1 (by omega), nI_or]
      obtain ⟨w1, w2⟩ := bit_add hF c hFb ⟨v, ((hmb v).mp hv).2⟩
      exact hJ _ _ _ _ c ⟨nI_1 k, ⟨_, rfl, w1, w2⟩, g3, g4⟩
