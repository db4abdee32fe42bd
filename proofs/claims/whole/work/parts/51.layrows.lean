-- the reference lays the rows
theorem low_bit {F : Nat} (h : F ≠ 0) : ∃ t, F.testBit t = true ∧ ∀ s, s < t → F.testBit s = false := by
  obtain ⟨t, h1, h2⟩ := pk_least (fun t => F.testBit t = true) (Nat.exists_testBit_of_ne_zero h)
  refine ⟨t, h1, fun s hs => ?_⟩
  cases hb : F.testBit s
  · rfl
  · exact absurd hb (h2 s hs)
theorem sp_layRows {nw un od : Nat → Int32} {n : Nat} {R : Nat → Nat → Prop} {K : Int32 → (Nat → Int32) → Prop} (h2 : nw 2 = nI n) (hn : n ≤ 10) (hD : Dir un R) (hl : ∀ a b, R a b → a < n ∧ b < n)
    (h1 : ∀ od2 f, RowsTo n R f n → (∀ j, j < n → od2 j = nI (f j)) → Acyc R → K 1 od2) (h0 : ¬ Acyc R → ∀ od2, K 0 od2) : wp_X6_layRows nw un od K := by
  have hp : 2 ^ n ≤ 2 ^ 10 := Nat.pow_le_pow_right (by decide) hn
  have hp0 : 0 < 2 ^ n := Nat.two_pow_pos n
  have hlow : Low R := fun a b r => by have := hl a b r; omega
  unfold wp_X6_layRows
  rw [h2, jshl_1 (by omega)]
  have e0 : nI (2 ^ n) - (1 : Int32) = nI (2 ^ n - 1) := pk_sub (a := 2 ^ n) (b := 1) hp0
  rw [e0]
  refine Lp4.dn (n + 1) (fun m x1 x2 x3 z => (x3 = 1 ∧ ∃ r L f, m + r = n + 1 ∧ x2 = nI r ∧ x1 = nI L ∧ L < 2 ^ 10 ∧ (∀ t, L.testBit t = true ↔ t < n ∧ ∀ j, j < r → f j ≠ t) ∧ RowsTo n R f r ∧ ∀ j, j < r → z j = nI (f j)) ∨ (x3 = 0 ∧ m = 0 ∧ ¬ Acyc R)) ?_ ?_
  · refine Or.inl ⟨rfl, 0, 2 ^ n - 1, fun _ => 0, by omega, rfl, rfl, by omega, fun t => ?_, fun j hj => by omega, fun j hj => by omega⟩
    rw [Nat.testBit_two_pow_sub_one, decide_eq_true_iff]
    exact ⟨fun q => ⟨q, fun j hj => by omega⟩, fun q => q.1⟩
  · rintro m x1 x2 x3 z J hI hJ
    rcases hI with ⟨rfl, r, L, f, em, rfl, rfl, hL, hLb, hf, hz⟩ | ⟨rfl, rfl, hc⟩
    · have hrn := rows_le hf
      refine ⟨fun e => ⟨Or.inr rfl, ?_⟩, fun e => ⟨fun c => absurd c (by decide), fun _ => ?_⟩⟩
      · -- all placed
        have e2 : L = 0 := (nI_eq (by omega) (by decide)).mp e
        have er : r = n := by
          rcases Nat.lt_or_ge r n with c | c
          · exfalso
            have hall : ∀ t, t < n → ∃ j, j < r ∧ f j = t := by
              intro t ht
              rcases Classical.em (∃ j, j < r ∧ f j = t) with q | q
              · exact q
              · have := (hLb t).mpr ⟨ht, fun j hj e3 => q ⟨j, hj, e3⟩⟩
                rw [e2, Nat.zero_testBit] at this
                exact absurd this (by decide)
            have k1 := rows_cnt r hf
            have k2 := cnt_le (p := fun _ => true) (q := fun x => dcd (x < n → ∃ j, j < r ∧ f j = x)) (fun x _ => dcd_iff.mpr (hall x)) n
            have k3 : ∀ q, q ≤ n → cnt (fun x => dcd (x < n → ∃ j, j < r ∧ f j = x)) q = cnt (fun x => dcd (∃ j, j < r ∧ f j = x)) q := by
              intro q
              induction q with
              | zero => exact fun _ => rfl
              | succ q ih =>
                intro hq
                show cnt _ q + (if dcd (q < n → ∃ j, j < r ∧ f j = q) then 1 else 0) = cnt _ q + (if dcd (∃ j, j < r ∧ f j = q) then 1 else 0)
                rw [ih (by omega)]
                have : dcd (q < n → ∃ j, j < r ∧ f j = q) = dcd (∃ j, j < r ∧ f j = q) := by
                  apply Bool.eq_iff_iff.mpr
                  rw [dcd_iff, dcd_iff]
                  exact ⟨fun g => g (by omega), fun g _ => g⟩
                rw [this]
            rw [cnt_true, k3 n (Nat.le_refl n), k1] at k2
            omega
          · omega
        subst er
        exact h1 z f hf hz (hf.acyc (fun a b q => (hl a b q).2) (rows_full hf))
      · have hLne : L ≠ 0 := fun q => e (by rw [q]; rfl)
        -- the terms that lie below one that is left
        refine Lp2.up n (fun k b y => y = nI k ∧ ∃ B, B < 2 ^ 10 ∧ b = nI B ∧ ∀ t, B.testBit t = true ↔ ∃ s, s < k ∧ L.testBit s = true ∧ R s t) 0 (Nat.zero_le _) ⟨rfl, 0, by decide, rfl, fun t => ?_⟩ ?_
        · rw [Nat.zero_testBit]
          exact ⟨fun q => absurd q (by decide), fun ⟨s, q, _⟩ => by omega⟩
        · rintro k b y J2 hk ⟨rfl, B, hB, rfl, hBb⟩ hJ2
          refine le_br (by omega) (by omega) (fun c => ?_) (fun c => ?_)
          · have ek : k = n := by omega
            subst ek
            rw [nI_diff]
            have hFl : bdiff L B < 2 ^ 10 := bdiff_le hL
            have hFb : ∀ t, (bdiff L B).testBit t = true ↔ (t < k ∧ ∀ j, j < r → f j ≠ t) ∧ ¬ ∃ s, s < k ∧ L.testBit s = true ∧ R s t := by
              intro t
              rw [bdiff_bit, Bool.and_eq_true, hLb t]
              constructor
              · rintro ⟨q1, q2⟩
                refine ⟨q1, fun q3 => ?_⟩
                rw [(hBb t).mpr q3] at q2
                exact absurd q2 (by decide)
              · rintro ⟨q1, q2⟩
                refine ⟨q1, ?_⟩
                cases hb : B.testBit t
                · rfl
                · exact absurd ((hBb t).mp hb) q2
            refine Jn1.to (fun y => (y = 0 ∧ bdiff L B = 0) ∨ (y = 1 ∧ bdiff L B ≠ 0)) (eq_br (b := 0) (by omega) (by decide) (fun q => Or.inl ⟨rfl, q⟩) (fun q => Or.inr ⟨rfl, q⟩)) ?_
            rintro y (⟨rfl, hy⟩ | ⟨rfl, hy⟩)
            · refine ⟨fun _ => ?_, fun c => absurd rfl c⟩
              -- nothing is free
              obtain ⟨t0, ht0⟩ := Nat.exists_testBit_of_ne_zero hLne
              refine hJ 0 _ _ _ _ (by omega) (Or.inr ⟨rfl, rfl, stuck_cyc hlow (P := fun t => L.testBit t = true) ht0 (fun t ht => ?_)⟩)
              rcases Classical.em (∃ s, s < k ∧ L.testBit s = true ∧ R s t) with ⟨s, -, q2, q3⟩ | q
              · exact ⟨s, q2, q3⟩
              · have := (hFb t).mpr ⟨(hLb t).mp ht, q⟩
                rw [hy, Nat.zero_testBit] at this
                exact absurd this (by decide)
            · refine ⟨fun c => absurd c (by decide), fun _ => ?_⟩
              obtain ⟨t, ht1, ht2⟩ := low_bit hy
              have htl : t < 10 := bit_lt hFl ht1
              obtain ⟨⟨htn, htp⟩, htf⟩ := (hFb t).mp ht1
              have hrl := rows_lt hf htn htp
              refine Lp1.dn t (fun m y => ∃ q, m + q = t ∧ y = nI q) ⟨0, by omega, rfl⟩ ?_
              rintro m2 y J3 ⟨q, eq1, rfl⟩ hJ3
              refine sp_has (by omega) (by omega) (fun b1 => ?_) (fun b0 => ?_)
              · have eqt : q = t := by
                  rcases Nat.lt_or_ge q t with d | d
                  · rw [ht2 q d] at b1
                    exact absurd b1 (by decide)
                  · omega
                subst eqt
                refine ⟨fun _ => ⟨vp_in_nI (by omega) (by decide), ?_⟩, fun c => absurd c (by decide)⟩
                rw [jshl_1 (by omega), nI_diff, nI_clamp (by omega)]
                refine hJ (m - 1) _ _ _ _ (by omega) (Or.inl ⟨rfl, r + 1, bdiff L (2 ^ q), fun j => if j = r then q else f j, by omega, nI_1 r, rfl, bdiff_le hL, fun s => ?_, ?_, fun j hj => ?_⟩)
                · rw [bdiff_bit, Bool.and_eq_true, hLb s]
                  constructor
                  · rintro ⟨⟨q1, q2⟩, q3⟩
                    refine ⟨q1, fun j hj => ?_⟩
                    by_cases ej : j = r
                    · show (if j = r then q else f j) ≠ s
                      rw [if_pos ej]
                      intro es
                      subst es
                      rw [Nat.testBit_two_pow_self] at q3
                      exact absurd q3 (by decide)
                    · show (if j = r then q else f j) ≠ s
                      rw [if_neg ej]
                      exact q2 j (by omega)
                  · rintro ⟨q1, q2⟩
                    refine ⟨⟨q1, fun j hj => ?_⟩, ?_⟩
                    · have h9 : (if j = r then q else f j) ≠ s := q2 j (by omega)
                      rw [if_neg (by omega)] at h9
                      exact h9
                    · have h9 : (if r = r then q else f r) ≠ s := q2 r (by omega)
                      rw [if_pos rfl] at h9
                      rw [Nat.testBit_two_pow_of_ne h9]
                      rfl
                · refine rows_ext hf (fun i hi => if_neg (by omega)) (if_pos rfl) htn htp (fun a ha => ?_) (fun s hs hsp => ?_)
                  · rcases Classical.em (∃ i, i < r ∧ f i = a) with g | g
                    · exact g
                    · have han := (hl a q ha).1
                      exact absurd ⟨a, han, (hLb a).mpr ⟨han, fun j hj e3 => g ⟨j, hj, e3⟩⟩, ha⟩ htf
                  · rcases Classical.em (∃ a, a < k ∧ L.testBit a = true ∧ R a s) with ⟨a, -, g2, g3⟩ | g
                    · exact ⟨a, g3, ((hLb a).mp g2).2⟩
                    · have := (hFb s).mpr ⟨⟨by omega, hsp⟩, g⟩
                      rw [ht2 s hs] at this
                      exact absurd this (by decide)
                · show upd z r (nI q) j = nI (if j = r then q else f j)
                  by_cases ej : j = r
                  · rw [if_pos ej, ej, pk_us]
                  · rw [if_neg ej, pk_un ej]
                    exact hz j (by omega)
              · refine ⟨fun c => absurd rfl c, fun _ => ?_⟩
                have hne : q ≠ t := fun e3 => by
                  rw [e3, ht1] at b0
                  exact absurd b0 (by decide)
                exact hJ3 (m2 - 1) _ (by omega) ⟨q + 1, by omega, nI_1 q⟩
          · refine sp_has (by omega) (by omega) (fun b1 => ?_) (fun b0 => ?_)
            · obtain ⟨m3, hm3, e3, hb3⟩ := hD k (by omega)
              rw [nI_clamp (by omega), e3]
              refine Jn1.to (fun y => y = nI m3) ⟨fun c => absurd c (by decide), fun _ => ⟨vp_in_nI (by omega) (by decide), rfl⟩⟩ ?_
              rintro y rfl
              rw [nI_or]
              refine hJ2 _ _ c ⟨nI_1 k, B ||| m3, Nat.or_lt_two_pow hB hm3, rfl, fun t => ?_⟩
              rw [Nat.testBit_or, Bool.or_eq_true, hBb, hb3]
              constructor
              · rintro (⟨s, q1, q2⟩ | q)
                · exact ⟨s, by omega, q2⟩
                · exact ⟨k, by omega, b1, q⟩
              · rintro ⟨s, q1, q2, q3⟩
                by_cases es : s = k
                · subst es
                  exact Or.inr q3
                · exact Or.inl ⟨s, by omega, q2, q3⟩
            · refine Jn1.to (fun y => y = nI 0) ⟨fun _ => rfl, fun c => absurd rfl c⟩ ?_
              rintro y rfl
              rw [nI_or, Nat.or_zero]
              refine hJ2 _ _ c ⟨nI_1 k, B, hB, rfl, fun t => (hBb t).trans ?_⟩
              constructor
              · rintro ⟨s, q1, q2⟩
                exact ⟨s, by omega, q2⟩
              · rintro ⟨s, q1, q2, q3⟩
                refine ⟨s, ?_, q2, q3⟩
                rcases Nat.lt_or_ge s k with d | d
                · exact d
                · rw [show s = k by omega, b0] at q2
                  exact absurd q2 (by decide)
    · exact ⟨fun _ => ⟨Or.inl rfl, h0 hc z⟩, fun _ => ⟨fun _ => ⟨Or.inl rfl, h0 hc z⟩, fun c => absurd rfl c⟩⟩
