-- lists of folds: a fold is the number 10 * upper + lower
def fitP (S : AS) (u v : Nat) : Prop := u ≠ v ∧ colE S.1 S.2.1 u ∧ colE S.1 S.2.1 v ∧ (u < 6 ↔ v < 6) ∧ use S.2.2.1 u &&& use S.2.2.1 v = 0
theorem col10 {i o c : Nat} (hi : i ≤ 6) (ho : o ≤ 4) (h : colE i o c) : c < 10 := by
  rcases h with h | ⟨h, h2⟩ <;> omega
theorem sp_fits {nw us : Nat → Int32} {S : AS} {u v : Nat} {K : Int32 → Prop} (hR : RepM nw S) (hz : Size S) (hu : u < 10) (hv : v < 10) (hus : ∀ c, c < 10 → us c = nI (use S.2.2.1 c)) (h1 : fitP S u v → K 1) (h0 : ¬ fitP S u v → K 0) : wp_X6_fits (nI u) (nI v) nw us K := by
  obtain ⟨r0, r1, r2, r3, r4⟩ := hR
  have hz2 := hz
  obtain ⟨z1, z2, z3, z4, z5, z6⟩ := hz2
  unfold wp_X6_fits
  refine eq_br (by omega) (by omega) (fun e => h0 (fun f => f.1 e)) (fun e => ?_)
  refine sp_isColumn r0 r1 z2 z4 (fun k hk ek => ⟨fun c => absurd c (by decide), fun _ => ?_⟩) (fun hno => ⟨fun _ => h0 (fun f => hno u f.2.1 rfl), fun c => absurd rfl c⟩)
  have k10 := col10 z2 z4 hk
  have eu : u = k := (nI_eq (by omega) (by omega)).mp ek
  subst eu
  refine sp_isColumn r0 r1 z2 z4 (fun k2 hk2 ek2 => ⟨fun c => absurd c (by decide), fun _ => ?_⟩) (fun hno => ⟨fun _ => h0 (fun f => hno v f.2.2.1 rfl), fun c => absurd rfl c⟩)
  have k210 := col10 z2 z4 hk2
  have ev : v = k2 := (nI_eq (by omega) (by omega)).mp ek2
  subst ev
  refine Jn1.to (fun y => y = if u < 6 then 1 else 0) (le_br (by decide) (by omega) (fun d => by rw [if_neg (by omega)]) (fun d => by rw [if_pos d])) ?_
  rintro y rfl
  refine Jn1.to (fun y => y = if v < 6 then 1 else 0) (le_br (by decide) (by omega) (fun d => by rw [if_neg (by omega)]) (fun d => by rw [if_pos d])) ?_
  rintro y rfl
  have hut := use_lt S.2.2.1 u z5
  have hvt := use_lt S.2.2.1 v z5
  have hand : use S.2.2.1 u &&& use S.2.2.1 v < 2 ^ 31 := Nat.lt_of_le_of_lt Nat.and_le_left (by omega)
  refine ⟨fun c => h0 (fun f => c ?_), fun c => ⟨vp_in_nI (by omega) (by decide), vp_in_nI (by omega) (by decide), ?_⟩⟩
  · have f4 := f.2.2.2.1
    by_cases q : u < 6
    · rw [if_pos q, if_pos (f4.mp q)]
    · rw [if_neg q, if_neg (fun q2 => q (f4.mpr q2))]
  · have hkind : (u < 6 ↔ v < 6) := by
      by_cases q : u < 6 <;> by_cases q2 : v < 6
      · exact ⟨fun _ => q2, fun _ => q⟩
      · rw [if_pos q, if_neg q2] at c
        exact absurd c (by decide)
      · rw [if_neg q, if_pos q2] at c
        exact absurd c (by decide)
      · exact ⟨fun q3 => absurd q3 q, fun q3 => absurd q3 q2⟩
    rw [clamp_n (k := u) (by omega), clamp_n (k := v) (by omega), hus u hu, hus v hv, nI_and]
    exact ne_br (b := 0) hand (by decide) (fun d => h0 (fun f => d f.2.2.2.2)) (fun d => h1 ⟨e, hk, hk2, hkind, d⟩)
def LRf (T : List Tm) (m : Nat) (l : Nat → Nat) : Nat → Nat → Prop := fun a b => ∃ j, j < m ∧ (use T (l j / 10)).testBit a = true ∧ (use T (l j % 10)).testBit b = true
theorem LRf_low {T : List Tm} {m : Nat} {l : Nat → Nat} (a b : Nat) (h : LRf T m l a b) : a < T.length ∧ b < T.length := by
  obtain ⟨j, hj, h1, h2⟩ := h
  obtain ⟨q, hq, -⟩ := use_bit.mp h1
  obtain ⟨q2, hq2, -⟩ := use_bit.mp h2
  exact ⟨lt_of_get hq, lt_of_get hq2⟩
theorem LRf_succ {T : List Tm} {m : Nat} {l : Nat → Nat} (a b : Nat) : addR (LRf T m l) (use T (l m / 10)) (use T (l m % 10)) a b ↔ LRf T (m + 1) l a b := by
  constructor
  · rintro (⟨j, hj, h⟩ | h)
    · exact ⟨j, by omega, h⟩
    · exact ⟨m, by omega, h⟩
  · rintro ⟨j, hj, h⟩
    by_cases e : j = m
    · subst e
      exact Or.inr h
    · exact Or.inl ⟨j, by omega, h⟩
theorem LRf_congr {T : List Tm} {m : Nat} {l g : Nat → Nat} (e : ∀ j, j < m → l j = g j) (a b : Nat) : LRf T m l a b ↔ LRf T m g a b := by
  constructor
  · rintro ⟨j, hj, h⟩
    exact ⟨j, hj, by rw [← e j hj]; exact h⟩
  · rintro ⟨j, hj, h⟩
    exact ⟨j, hj, by rw [e j hj]; exact h⟩
/-- no column twice -/
def Cdj (m : Nat) (l : Nat → Nat) : Prop := ∀ i j, i < j → j < m → l i / 10 ≠ l j / 10 ∧ l i / 10 ≠ l j % 10 ∧ l i % 10 ≠ l j / 10 ∧ l i % 10 ≠ l j % 10
theorem div10 {a : Nat} (h : a < 100) : nI a / nI 10 = nI (a / 10) := pk_div (by omega) (by decide) (by decide)
theorem rem10 {a : Nat} (h : a < 100) : jrem (nI a) (nI 10) = nI (a % 10) := pk_rem (by omega) (by decide) (by decide)
theorem sp_mayStand {nw us un od li : Nat → Int32} {S : AS} {m : Nat} {l : Nat → Nat} {K : Int32 → (Nat → Int32) → (Nat → Int32) → Prop} (hR : RepM nw S) (hz : Size S) (hus : ∀ c, c < 10 → us c = nI (use S.2.2.1 c)) (hm : m ≤ 6) (hli : ∀ j, j < m → li j = nI (l j) ∧ l j < 100)
    (h1 : Cdj m l → Acyc (LRf S.2.2.1 m l) → ∀ un2 od2, K 1 un2 od2) (h0 : ¬ (Cdj m l ∧ Acyc (LRf S.2.2.1 m l)) → ∀ un2 od2, K 0 un2 od2) : wp_X6_mayStand (nI m) nw us un od li K := by
  have z5 : S.2.2.1.length ≤ 10 := hz.2.2.2.2.1
  unfold wp_X6_mayStand
  refine sp_noDemands (R := LRf S.2.2.1 0 l) (fun a b ⟨j, q, _⟩ => by omega) (fun un2 hd => ?_)
  refine Lp3.up m (fun k x y z => y = nI k ∧ Cdj k l ∧ Dir z (LRf S.2.2.1 k l) ∧ ∃ B, x = nI B ∧ B < 2 ^ 10 ∧ ∀ c, B.testBit c = true ↔ ∃ i, i < k ∧ (c = l i / 10 ∨ c = l i % 10)) 0 (Nat.zero_le _) ⟨rfl, fun i j h1 h2 => by omega, hd, 0, rfl, by decide, fun c => ?_⟩ ?_
  · rw [Nat.zero_testBit]
    exact ⟨fun q => absurd q (by decide), fun ⟨i, q, _⟩ => by omega⟩
  · rintro k x y z J hk ⟨rfl, hcd, hdir, B, rfl, hB, hBb⟩ hJ
    refine le_br (by omega) (by omega) (fun c => ?_) (fun c => ?_)
    · have ek : k = m := by omega
      subst ek
      exact sp_layRows hR.2.2.1 z5 hdir LRf_low (fun od2 f _ _ hac => ⟨Or.inr rfl, h1 hcd hac z od2⟩) (fun hac od2 => ⟨Or.inl rfl, h0 (fun q => hac q.2) z od2⟩)
    · obtain ⟨e1, e2⟩ := hli k c
      have v1 : vp_in (nI k) 6 := vp_in_nI (by omega) (by decide)
      rw [nI_clamp (by omega), e1, div10 e2, rem10 e2, jshl_1 (by omega), jshl_1 (by omega), nI_or, nI_and]
      have hu : l k / 10 < 10 := by omega
      have hv : l k % 10 < 10 := by omega
      have p1 : 2 ^ (l k / 10) < 2 ^ 10 := Nat.pow_lt_pow_right (by decide) hu
      have p2 : 2 ^ (l k % 10) < 2 ^ 10 := Nat.pow_lt_pow_right (by decide) hv
      have hor : 2 ^ (l k / 10) ||| 2 ^ (l k % 10) < 2 ^ 10 := Nat.or_lt_two_pow p1 p2
      have hbo : ∀ c, (2 ^ (l k / 10) ||| 2 ^ (l k % 10)).testBit c = true ↔ (c = l k / 10 ∨ c = l k % 10) := by
        intro c
        rw [Nat.testBit_or, Bool.or_eq_true, Nat.testBit_two_pow, Nat.testBit_two_pow, decide_eq_true_iff, decide_eq_true_iff]
        constructor
        · rintro (q | q)
          · exact Or.inl q.symm
          · exact Or.inr q.symm
        · rintro (q | q)
          · exact Or.inl q.symm
          · exact Or.inr q.symm
      have hand : B &&& (2 ^ (l k / 10) ||| 2 ^ (l k % 10)) < 2 ^ 31 := Nat.lt_of_le_of_lt Nat.and_le_left (by omega)
      refine ⟨v1, v1, eq_br (b := 0) hand (by decide) (fun e => ⟨v1, v1, ?_⟩) (fun e => h0 (fun q => ?_) z od)⟩
      · have hno := and0.mp e
        refine sp_demand hdir hu hv (hus _ hu) (hus _ hv) (use_lt _ _ z5) (use_lt _ _ z5) (fun un3 h3 => ?_)
        rw [nI_or]
        refine hJ _ _ _ c ⟨nI_1 k, fun i j hij hj => ?_, h3.congr LRf_succ, _, rfl, Nat.or_lt_two_pow hB hor, fun c2 => ?_⟩
        · by_cases ej : j = k
          · subst ej
            have nu := fun q => hno (l i / 10) ⟨(hBb _).mpr ⟨i, hij, Or.inl rfl⟩, (hbo _).mpr q⟩
            have nv := fun q => hno (l i % 10) ⟨(hBb _).mpr ⟨i, hij, Or.inr rfl⟩, (hbo _).mpr q⟩
            exact ⟨fun q => nu (Or.inl q), fun q => nu (Or.inr q), fun q => nv (Or.inl q), fun q => nv (Or.inr q)⟩
          · exact hcd i j hij (by omega)
        · rw [Nat.testBit_or, Bool.or_eq_true, hBb, hbo]
          constructor
          · rintro (⟨i, hi, q⟩ | q)
            · exact ⟨i, by omega, q⟩
            · exact ⟨k, by omega, q⟩
          · rintro ⟨i, hi, q⟩
            by_cases ei : i = k
            · subst ei
              exact Or.inr q
            · exact Or.inl ⟨i, by omega, q⟩
      · obtain ⟨c2, hc2⟩ := Nat.exists_testBit_of_ne_zero e
        rw [Nat.testBit_and, Bool.and_eq_true] at hc2
        obtain ⟨i, hi, q1⟩ := (hBb c2).mp hc2.1
        have q2 := (hbo c2).mp hc2.2
        obtain ⟨w1, w2, w3, w4⟩ := q.1 i k hi c
        rcases q1 with q1 | q1 <;> rcases q2 with q2 | q2
        · exact w1 (q1.symm.trans q2)
        · exact w2 (q1.symm.trans q2)
        · exact w3 (q1.symm.trans q2)
        · exact w4 (q1.symm.trans q2)
