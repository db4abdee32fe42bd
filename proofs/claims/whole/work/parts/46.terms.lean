-- terms come and go
theorem sp_fill {v : Int32} {f : Nat → Int32} {K : (Nat → Int32) → Prop} (h : ∀ g, (∀ j, j < 10 → g j = v) → K g) : wp_J7_fill_53178 v f K := by
  unfold wp_J7_fill_53178
  refine Lp2.up 10 (fun k x z => x = nI k ∧ ∀ j, j < k → z j = v) 0 (by omega) ⟨rfl, fun j hj => by omega⟩ ?_
  rintro k x z J hk ⟨rfl, hz⟩ hJ
  refine le_br (by decide) (by omega) (fun c => h z (fun j hj => hz j (by omega))) (fun c => ⟨vp_in_nI c (by decide), hJ _ _ c ⟨nI_1 k, fun j hj => ?_⟩⟩)
  rw [nI_clamp (by omega)]
  simp only [upd]
  by_cases q : j = k
  · rw [if_pos q]
  · rw [if_neg q]
    exact hz j (by omega)
theorem nF_nof : nF nof = 0 := rfl
theorem sp_partAll {fc : Int32} {lo up : Nat → Int32} {K : Int32 → (Nat → Int32) → (Nat → Int32) → Prop} (h : ∀ lo2 up2, (∀ c, c < 10 → lo2 c = opt (nof c) ∧ up2 c = opt (nof c)) → K 0 lo2 up2) : wp_X4_partAll fc lo up K := by
  unfold wp_X4_partAll
  exact sp_fill (fun g hg => sp_fill (fun g2 hg2 => h g g2 (fun c hc => ⟨hg c hc, hg2 c hc⟩)))
theorem sp_drop {nw : Nat → Int32} {S : AS} {t : Nat} {K : (Nat → Int32) → Prop} (hR : RepM nw S) (hn : S.2.2.1.length ≤ 10) (ht : t < S.2.2.1.length) (h : ∀ nw2, RepM nw2 (S.1, S.2.1, S.2.2.1.eraseIdx t, nof, nof) → K nw2) : wp_X6_drop (nI t) nw K := by
  obtain ⟨r0, r1, r2, r3, r4⟩ := hR
  obtain ⟨n, en⟩ : ∃ n, S.2.2.1.length = n + 1 := ⟨S.2.2.1.length - 1, by omega⟩
  unfold wp_X6_drop
  rw [r2, en, nI_pred]
  refine Lp2.up n (fun k x z => t ≤ k ∧ x = nI k ∧ z 0 = nw 0 ∧ z 1 = nw 1 ∧ z 2 = nI n ∧ ∀ s, s < 10 → z (3 + s) = (if t ≤ s ∧ s < k then nw (3 + s + 1) else nw (3 + s)) ∧ z (13 + s) = (if t ≤ s ∧ s < k then nw (13 + s + 1) else nw (13 + s)) ∧ z (23 + s) = (if t ≤ s ∧ s < k then nw (23 + s + 1) else nw (23 + s))) t (by omega) ?_ ?_
  · refine ⟨Nat.le_refl _, rfl, rfl, rfl, rfl, fun s hs => ?_⟩
    rw [pk_un (by omega), pk_un (by omega), pk_un (by omega), if_neg (by omega), if_neg (by omega), if_neg (by omega)]
    exact ⟨rfl, rfl, rfl⟩
  · rintro k x z J hk ⟨htk, rfl, z0, z1, z2, hz⟩ hJ
    rw [z2]
    refine le_br (by omega) (by omega) (fun c => ?_) (fun c => ?_)
    · have ek : k = n := by omega
      subst ek
      refine sp_noFolds (h _ ⟨?_, ?_, ?_, fun s q hq => ?_, fun c hc => ?_⟩)
      · show nf z 0 = nI S.1
        rw [← r0, ← z0]
        rfl
      · show nf z 1 = nI S.2.1
        rw [← r1, ← z1]
        rfl
      · show nf z 2 = nI (S.2.2.1.eraseIdx t).length
        rw [List.length_eraseIdx_of_lt ht, en]
        show nf z 2 = nI k
        rw [← z2]
        rfl
      · have hq : (S.2.2.1.eraseIdx t)[s]? = some q := hq
        have hs : s < k := by
          have := lt_of_get hq
          rw [List.length_eraseIdx_of_lt ht, en] at this
          omega
        obtain ⟨a1, a2, a3⟩ := hz s (by omega)
        unfold nf
        rw [if_neg (by omega), if_neg (by omega), if_neg (by omega), a1, a2, a3]
        rw [List.getElem?_eraseIdx] at hq
        by_cases cs : s < t
        · rw [if_pos cs] at hq
          rw [if_neg (by omega), if_neg (by omega), if_neg (by omega)]
          exact r3 s q hq
        · rw [if_neg cs] at hq
          rw [if_pos (by omega), if_pos (by omega), if_pos (by omega)]
          exact r3 (s + 1) q hq
      · unfold nf
        rw [if_pos (by omega), if_pos (by omega)]
        exact ⟨rfl, rfl⟩
    · have c1 : (nI 3 + nI k).toNatClampNeg = 3 + k := ixc (by omega)
      have c2 : (nI 13 + nI k).toNatClampNeg = 13 + k := ixc (by omega)
      have c3 : (nI 23 + nI k).toNatClampNeg = 23 + k := ixc (by omega)
      have d1 : (nI 3 + nI k + 1) = nI (3 + k + 1) := by rw [nI_add, nI_1]
      have d2 : (nI 13 + nI k + 1) = nI (13 + k + 1) := by rw [nI_add, nI_1]
      have d3 : (nI 23 + nI k + 1) = nI (23 + k + 1) := by rw [nI_add, nI_1]
      rw [c1, c2, c3, d1, d2, d3, nI_clamp (by omega), nI_clamp (by omega), nI_clamp (by omega)]
      refine ⟨vp_in_nI (by omega) (by decide), ixv (by omega) (by decide), vp_in_nI (by omega) (by decide), ixv (by omega) (by decide), vp_in_nI (by omega) (by decide), ixv (by omega) (by decide), hJ _ _ c ⟨by omega, nI_1 k, ?_, ?_, ?_, fun s hs => ?_⟩⟩
      · rw [pk_un (by omega), pk_un (by omega), pk_un (by omega)]
        exact z0
      · rw [pk_un (by omega), pk_un (by omega), pk_un (by omega)]
        exact z1
      · rw [pk_un (by omega), pk_un (by omega), pk_un (by omega)]
        exact z2
      · obtain ⟨a1, a2, a3⟩ := hz s hs
        obtain ⟨b1, b2, b3⟩ := hz (k + 1) (by omega)
        rw [if_neg (by omega)] at b1 b2 b3
        have b1 : z (3 + k + 1) = nw (3 + k + 1) := b1
        have b2 : z (13 + k + 1) = nw (13 + k + 1) := b2
        have b3 : z (23 + k + 1) = nw (23 + k + 1) := b3
        by_cases es : s = k
        · subst es
          rw [if_pos (by omega), if_pos (by omega), if_pos (by omega)]
          refine ⟨?_, ?_, ?_⟩
          · rw [pk_un (by omega), pk_un (by omega), pk_us]
            exact b1
          · rw [pk_un (by omega), pk_us, pk_un (by omega)]
            exact b2
          · rw [pk_us, pk_un (by omega), pk_un (by omega)]
            exact b3
        · have e1 : (t ≤ s ∧ s < k + 1) = (t ≤ s ∧ s < k) := propext (by omega)
          simp only [e1]
          refine ⟨?_, ?_, ?_⟩
          · rw [pk_un (by omega), pk_un (by omega), pk_un (by omega)]
            exact a1
          · rw [pk_un (by omega), pk_un (by omega), pk_un (by omega)]
            exact a2
          · rw [pk_un (by omega), pk_un (by omega), pk_un (by omega)]
            exact a3
/-- the class's term arrays hold the terms T under i inputs -/
def RepT (on ze ou : Nat → Int32) (wd : Nat → Int64) (i : Nat) (T : List Tm) : Prop := ∀ s q, T[s]? = some q → on s = nI q.1 ∧ ze s = nI q.2.1 ∧ ou s = nI q.2.2 ∧ wd s = tt i q
theorem sp_dropTerm {tc fc : Int32} {on ze ou : Nat → Int32} {wd : Nat → Int64} {lo up : Nat → Int32} {T : List Tm} {i t : Nat} {K : Int32 → Int32 → (Nat → Int32) → (Nat → Int32) → (Nat → Int32) → (Nat → Int64) → (Nat → Int32) → (Nat → Int32) → Prop} (htc : tc = nI T.length) (hR : RepT on ze ou wd i T) (hn : T.length ≤ 10) (ht : t < T.length)
    (h : ∀ on2 ze2 ou2 wd2 lo2 up2, RepT on2 ze2 ou2 wd2 i (T.eraseIdx t) → (∀ c, c < 10 → lo2 c = opt (nof c) ∧ up2 c = opt (nof c)) → K (nI (T.eraseIdx t).length) 0 on2 ze2 ou2 wd2 lo2 up2) : wp_X4_dropTerm (nI t) tc fc on ze ou wd lo up K := by
  obtain ⟨n, en⟩ : ∃ n, T.length = n + 1 := ⟨T.length - 1, by omega⟩
  subst htc
  unfold wp_X4_dropTerm
  rw [nI_1]
  refine Lp5.up (n + 1) (fun k x a b c d => t + 1 ≤ k ∧ x = nI k ∧ ∀ s, s < 10 → a s = (if t ≤ s ∧ s + 1 < k then on (s + 1) else on s) ∧ b s = (if t ≤ s ∧ s + 1 < k then ze (s + 1) else ze s) ∧ c s = (if t ≤ s ∧ s + 1 < k then ou (s + 1) else ou s) ∧ d s = (if t ≤ s ∧ s + 1 < k then wd (s + 1) else wd s)) (t + 1) (by omega) ?_ ?_
  · refine ⟨Nat.le_refl _, rfl, fun s hs => ?_⟩
    rw [if_neg (by omega), if_neg (by omega), if_neg (by omega), if_neg (by omega)]
    exact ⟨rfl, rfl, rfl, rfl⟩
  · rintro k x a b c d J hk ⟨htk, rfl, hz⟩ hJ
    rw [en]
    refine le_br (by omega) (by omega) (fun c1 => ?_) (fun c1 => ?_)
    · have ek : k = n + 1 := by omega
      subst ek
      rw [nI_pred]
      refine sp_partAll (fun lo2 up2 hl => ?_)
      have e : nI n = nI (T.eraseIdx t).length := by rw [List.length_eraseIdx_of_lt ht, en]; rfl
      rw [e]
      refine h a b c d lo2 up2 (fun s q hq => ?_) hl
      have hs : s < n := by
        have := lt_of_get hq
        rw [List.length_eraseIdx_of_lt ht, en] at this
        omega
      obtain ⟨a1, a2, a3, a4⟩ := hz s (by omega)
      rw [a1, a2, a3, a4]
      rw [List.getElem?_eraseIdx] at hq
      by_cases cs : s < t
      · rw [if_pos cs] at hq
        rw [if_neg (by omega), if_neg (by omega), if_neg (by omega), if_neg (by omega)]
        exact hR s q hq
      · rw [if_neg cs] at hq
        rw [if_pos (by omega), if_pos (by omega), if_pos (by omega), if_pos (by omega)]
        exact hR (s + 1) q hq
    · obtain ⟨k2, ek⟩ : ∃ k2, k = k2 + 1 := ⟨k - 1, by omega⟩
      subst ek
      rw [nI_pred, nI_clamp (by omega), nI_clamp (by omega)]
      have v1 : vp_in (nI (k2 + 1)) 10 := vp_in_nI (by omega) (by decide)
      have v2 : vp_in (nI k2) 10 := vp_in_nI (by omega) (by decide)
      refine ⟨v1, v2, v1, v2, v1, v2, v1, v2, hJ _ _ _ _ _ c1 ⟨by omega, nI_1 _, fun s hs => ?_⟩⟩
      obtain ⟨a1, a2, a3, a4⟩ := hz s hs
      obtain ⟨b1, b2, b3, b4⟩ := hz (k2 + 1) (by omega)
      rw [if_neg (by omega)] at b1 b2 b3 b4
      by_cases es : s = k2
      · subst es
        rw [pk_us, pk_us, pk_us, pk_uLs, if_pos (by omega), if_pos (by omega), if_pos (by omega), if_pos (by omega)]
        exact ⟨b1, b2, b3, b4⟩
      · rw [pk_un es, pk_un es, pk_un es, pk_uLn es]
        have e1 : (t ≤ s ∧ s + 1 < k2 + 1 + 1) = (t ≤ s ∧ s + 1 < k2 + 1) := propext (by omega)
        simp only [e1]
        exact ⟨a1, a2, a3, a4⟩
