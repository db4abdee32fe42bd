-- digest
def itr (f : Nat → Int64 → Int64) : Nat → Int64 → Int64
  | 0, h => h
  | k + 1, h => f k (itr f k h)
theorem itr_congr {f g : Nat → Int64 → Int64} {h : Int64} : ∀ n, (∀ k, k < n → ∀ x, f k x = g k x) → itr f n h = itr g n h
  | 0, _ => rfl
  | n + 1, e => by
    show f n (itr f n h) = g n (itr g n h)
    rw [itr_congr n (fun k hk => e k (by omega)), e n (by omega)]
noncomputable def spV (p : Nat → Bool) (n : Nat) : Int32 := @dite Int32 (∃ v, Spn p n v) (Classical.propDecidable _) (fun h => Classical.choose h) (fun _ => 0)
theorem spV_eq {p : Nat → Bool} {n : Nat} {v : Int32} (h : Spn p n v) : spV p n = v := by
  have ex : ∃ v, Spn p n v := ⟨v, h⟩
  unfold spV
  rw [dif_pos ex]
  exact (Classical.choose_spec ex).unique h
noncomputable def redV (S : AS) (t : Nat) : Int32 := if dcd (Red S t) = true then 1 else 0
theorem redV_1 {S : AS} {t : Nat} (h : Red S t) : redV S t = 1 := by
  unfold redV
  rw [if_pos (dcd_iff.mpr h)]
theorem redV_0 {S : AS} {t : Nat} (h : ¬ Red S t) : redV S t = 0 := by
  unfold redV
  rw [if_neg (fun q => h (dcd_iff.mp q))]
def dgE (er : Nat → Int32) (j : Nat) (h : Int64) : Int64 := 31 * h + (er j).toInt64
def dgB (B : Nat → Nat) (j : Nat) (h : Int64) : Int64 := 31 * (31 * h + (nI (B j / 10)).toInt64) + (nI (B j % 10)).toInt64
noncomputable def dgT (S : AS) (g : Nat → Nat) (t : Nat) (h : Int64) : Int64 := match S.2.2.1[t]? with
  | some q => 31 * (31 * (31 * (31 * (31 * h + (nI q.1).toInt64) + (nI q.2.1).toInt64) + (nI q.2.2).toInt64) + (redV S t).toInt64) + (nI (g t)).toInt64
  | none => h
theorem dgT_eq {S : AS} {g : Nat → Nat} {t : Nat} {h : Int64} {q : Tm} (hq : S.2.2.1[t]? = some q) : dgT S g t h = 31 * (31 * (31 * (31 * (31 * h + (nI q.1).toInt64) + (nI q.2.1).toInt64) + (nI q.2.2).toInt64) + (redV S t).toInt64) + (nI (g t)).toInt64 := by
  unfold dgT
  rw [hq]
noncomputable def dgC (S : AS) (f : Nat → Nat) (c : Nat) (h : Int64) : Int64 := if dcd (colE S.1 S.2.1 c) = true then 31 * (31 * (31 * h + (nI (use S.2.2.1 c)).toInt64) + (opt (mate S c)).toInt64) + (spV (fun j => (use S.2.2.1 c).testBit (f j)) S.2.2.1.length).toInt64 else h
theorem dgC_y {S : AS} {f : Nat → Nat} {c : Nat} {h : Int64} (hc : colE S.1 S.2.1 c) : dgC S f c h = 31 * (31 * (31 * h + (nI (use S.2.2.1 c)).toInt64) + (opt (mate S c)).toInt64) + (spV (fun j => (use S.2.2.1 c).testBit (f j)) S.2.2.1.length).toInt64 := by
  unfold dgC
  rw [if_pos (dcd_iff.mpr hc)]
theorem dgC_n {S : AS} {f : Nat → Nat} {c : Nat} {h : Int64} (hc : ¬ colE S.1 S.2.1 c) : dgC S f c h = h := by
  unfold dgC
  rw [if_neg (fun q => hc (dcd_iff.mp q))]
theorem col_no {i o k : Nat} (hk : k < 10) (hi : i ≤ 6) (ho : o ≤ 4) (h : ¬ colE i o k) : ¬ ∃ j, colE i o j ∧ nI k = nI j := by
  rintro ⟨j, hj, e⟩
  have := col10 hi ho hj
  have e2 := (nI_eq (by omega) (by omega)).mp e
  rw [← e2] at hj
  exact h hj
theorem sp_rowG {n k : Nat} {R : Nat → Nat → Prop} {f g : Nat → Nat} {od : Nat → Int32} {K : Int32 → Prop} (hn : n ≤ 10) (hf : RowsTo n R f n) (hg : ∀ t, t < n → g t < n ∧ f (g t) = t) (hk : k < n) (ho : ∀ j, j < n → od j = nI (f j)) (h : K (nI (g k))) : wp_X6_rowAt (nI k) od K := by
  have key : wp_X6_rowAt (nI (f (g k))) od K := sp_rowAt hn (hg k hk).1 (fun j hj => (hf j hj).1) (hf _ (hg k hk).1).2.1 ho h
  rw [(hg k hk).2] at key
  exact key
section RR
variable {er : Nat → Int32} {inp otp tc fc : Int32} {on ze ou : Nat → Int32} {wd : Nat → Int64} {lo up : Nat → Int32} {hc : Int32} {sv : Nat → SS} {ab tr rt : Nat → Int32} {kn ct : Int32} {bu bl d0 : Nat → Int32} {nw ps er2 : Nat → Int32} {st : Int32}
theorem sp_mixTermsC {S : AS} {g : Nat → Nat} {h0 : Int64} {K : Int64 → Prop} (hC : RepC inp otp tc fc on ze ou wd lo up S) (hz : Size S) (hrt : ∀ t, t < S.2.2.1.length → rt t = nI (g t)) (h : K (itr (dgT S g) S.2.2.1.length h0)) : wp_X5_mixTerms h0 otp tc on ze ou wd rt K := by
  have hl := hz.2.2.2.2.1
  have hT := hC.T
  have how := hC.ow
  obtain ⟨k1, k2, k3, k4, k5, k6⟩ := hC
  subst k3
  unfold wp_X5_mixTerms wp_X5_mix wp_X5_flag
  refine Lp2.up S.2.2.1.length (fun k x y => y = nI k ∧ x = itr (dgT S g) k h0) 0 (Nat.zero_le _) ⟨rfl, rfl⟩ ?_
  rintro k x y J hk ⟨rfl, rfl⟩ hJ
  refine le_br (by omega) (by omega) (fun c => ?_) (fun c => ?_)
  · rw [show k = S.2.2.1.length by omega]
    exact h
  · obtain ⟨q, hq, hm⟩ := get_of_lt c
    obtain ⟨g1, g2, g3, g4⟩ := hT k q hq
    have v1 : vp_in (nI k) 10 := vp_in_nI (by omega) (by decide)
    rw [nI_clamp (by omega), g1, g2, g3, hrt k c]
    refine ⟨v1, v1, v1, sp_isSpare hz k2 rfl how c (fun r => b1' ⟨v1, hJ _ _ c ⟨nI_1 k, ?_⟩⟩) (fun r => b0' ⟨v1, hJ _ _ c ⟨nI_1 k, ?_⟩⟩)⟩
    · show _ = dgT S g k (itr (dgT S g) k h0)
      rw [dgT_eq hq, redV_1 r]
    · show _ = dgT S g k (itr (dgT S g) k h0)
      rw [dgT_eq hq, redV_0 r]
theorem sp_mixColumnsC {S : AS} {f g : Nat → Nat} {h0 : Int64} {K : Int64 → Prop} (hC : RepC inp otp tc fc on ze ou wd lo up S) (hF : Fok S) (hg1 : ∀ j, j < S.2.2.1.length → f j < S.2.2.1.length ∧ g (f j) = j) (hg2 : ∀ t, t < S.2.2.1.length → g t < S.2.2.1.length ∧ f (g t) = t) (hrt : ∀ t, t < S.2.2.1.length → rt t = nI (g t)) (h : K (itr (dgC S f) 10 h0)) : wp_X5_mixColumns h0 inp otp tc on ze ou lo up rt K := by
  have hz := hF.1
  have hl := hF.len
  have hT := hC.T
  obtain ⟨k1, k2, k3, k4, k5, k6⟩ := hC
  subst k3
  unfold wp_X5_mixColumns wp_X5_mix
  refine Lp2.up 10 (fun k x y => y = nI k ∧ x = itr (dgC S f) k h0) 0 (Nat.zero_le _) ⟨rfl, rfl⟩ ?_
  rintro k x y J hk ⟨rfl, rfl⟩ hJ
  refine le_br (by decide) (by omega) (fun c => ?_) (fun c => ?_)
  · have ek : k = 10 := by omega
    subst ek
    exact h
  · rcases Classical.em (colE S.1 S.2.1 k) with hk1 | hk1
    · refine hasCol_y k1 k2 hz hk1 (b1' (sp_termsOfColumn rfl hT hz c (sp_mateOf k6 hF c (sp_spread hl (use_lt _ _ hl) hg1 hg2 hrt (fun v hv => hJ _ _ c ⟨nI_1 k, ?_⟩)))))
      show _ = dgC S f k (itr (dgC S f) k h0)
      rw [dgC_y hk1, spV_eq hv]
    · refine hasCol_n k1 k2 hz (col_no c hz.2.1 hz.2.2.2.1 hk1) (b0' (hJ _ _ c ⟨nI_1 k, ?_⟩))
      show _ = dgC S f k (itr (dgC S f) k h0)
      rw [dgC_n hk1]
theorem sp_mixTermsM {us od : Nat → Int32} {S : AS} {f g : Nat → Nat} {h0 : Int64} {K : Int64 → Prop} (hM : RepM nw S) (hF : Fok S) (hus : ∀ c, c < 10 → us c = nI (use S.2.2.1 c)) (hf : RowsTo S.2.2.1.length (DR S.2.2.1 S.2.2.2.1) f S.2.2.1.length) (hg2 : ∀ t, t < S.2.2.1.length → g t < S.2.2.1.length ∧ f (g t) = t) (ho : ∀ j, j < S.2.2.1.length → od j = nI (f j)) (h : K (itr (dgC S f) 10 (itr (dgT S g) S.2.2.1.length h0))) : wp_X6_mixTerms nw us od h0 K := by
  have hz := hF.1
  have hl := hF.len
  unfold wp_X6_mixTerms wp_X6_mix
  rw [hM.2.2.1]
  refine Lp2.up S.2.2.1.length (fun k y x => y = nI k ∧ x = itr (dgT S g) k h0) 0 (Nat.zero_le _) ⟨rfl, rfl⟩ ?_
  rintro k y x J hk ⟨rfl, rfl⟩ hJ
  refine le_br (by omega) (by omega) (fun c => ?_) (fun c => ?_)
  · have ek : k = S.2.2.1.length := by omega
    subst ek
    refine Lp2.up 10 (fun k y x => y = nI k ∧ x = itr (dgC S f) k (itr (dgT S g) S.2.2.1.length h0)) 0 (Nat.zero_le _) ⟨rfl, rfl⟩ ?_
    rintro k y x J2 hk2 ⟨rfl, rfl⟩ hJ2
    refine le_br (by decide) (by omega) (fun c2 => ?_) (fun c2 => ?_)
    · have ek : k = 10 := by omega
      subst ek
      exact h
    · rcases Classical.em (colE S.1 S.2.1 k) with hk1 | hk1
      · refine isCol_y hM hz hk1 (b1' ⟨vp_in_nI c2 (by decide), sp_partnerOf hM hF c2 (sp_spanOf hM.2.2.1 hl c2 (hus k c2) (use_lt _ _ hl) (fun j hj => (hf j hj).1) ho (fun v hv => hJ2 _ _ c2 ⟨nI_1 k, ?_⟩))⟩)
        show _ = dgC S f k (itr (dgC S f) k (itr (dgT S g) S.2.2.1.length h0))
        rw [dgC_y hk1, spV_eq hv, nI_clamp (by omega), hus k c2]
      · refine isCol_n hM hz (col_no c2 hz.2.1 hz.2.2.2.1 hk1) (b0' (hJ2 _ _ c2 ⟨nI_1 k, ?_⟩))
        show _ = dgC S f k (itr (dgC S f) k (itr (dgT S g) S.2.2.1.length h0))
        rw [dgC_n hk1]
  · obtain ⟨q, hq, hm⟩ := get_of_lt c
    obtain ⟨g1, g2, g3⟩ := hM.2.2.2.1 k q hq
    have e1 := ixc (a := 3) (k := k) (by omega)
    have e2 := ixc (a := 13) (k := k) (by omega)
    have e3 := ixc (a := 23) (k := k) (by omega)
    rw [e1, e2, e3, g1, g2, g3]
    have fin : (redV S k).toInt64 = (redV S k).toInt64 → wp_X6_rowAt (nI k) od (fun r58 => J (nI k + 1) (31 * (31 * (31 * (31 * (31 * itr (dgT S g) k h0 + (nI q.1).toInt64) + (nI q.2.1).toInt64) + (nI q.2.2).toInt64) + (redV S k).toInt64) + r58.toInt64)) := by
      intro _
      refine sp_rowG hl hf hg2 c ho (hJ _ _ c ⟨nI_1 k, ?_⟩)
      show _ = dgT S g k (itr (dgT S g) k h0)
      rw [dgT_eq hq]
    refine ⟨ixv (by omega) (by decide), ixv (by omega) (by decide), ixv (by omega) (by decide), sp_redundant hM hz c (fun r => ?_) (fun r => ?_)⟩
    · refine Jn1.to (fun y => y = (redV S k).toInt64) (b1' (by rw [redV_1 r]; rfl)) ?_
      rintro y rfl
      exact fin rfl
    · refine Jn1.to (fun y => y = (redV S k).toInt64) (b0' (by rw [redV_0 r]; rfl)) ?_
      rintro y rfl
      exact fin rfl
theorem m_digest {tu tl bd bm d1 d2 d3 d4 d5 us un od li : Nat → Int32} {lm : Int32} {hs : Int64} (h : Rel er inp otp tc fc on ze ou wd lo up hc sv ab tr rt kn ct bu bl d0 nw ps er2 st) : wp_X5_digest er inp otp tc fc on ze ou wd lo up hc rt kn ct bu bl tu tl bd bm d0 d1 d2 d3 d4 d5 (fun r kn' ct' bu' bl' _ _ _ _ _ _ _ _ _ => wp_X6_digest nw er2 us un od li st lm hs (fun r2 _ _ _ _ _ _ => r = r2 ∧ Rel er inp otp tc fc on ze ou wd lo up hc sv ab tr rt kn' ct' bu' bl' d0 nw ps er2 st)) := by
  obtain ⟨S, L, hF, hC, hM, hH, hB, hd, hE⟩ := h
  have hl := hF.len
  have hCC := hC
  obtain ⟨f, hf, hfv⟩ := hC.2.2
  obtain ⟨g, hg1, hg2⟩ := rows_inv hf
  have hrt := rt_inv hfv hg2
  have k1 := hC.1.1
  have k2 := hC.1.2.1
  have k3 := hC.1.2.2.1
  have k4 := hC.1.2.2.2.1
  have k5 := hH.1.1
  have k6 := hH.2.2.1
  unfold wp_X5_digest wp_X5_mix
  refine sp_findBestC hC.1 hF.1 hB hd (fun kn2 ct2 bu2 bl2 _ _ _ _ _ _ _ _ _ C B ek hb hbst => ?_)
  have hR : Rel er inp otp tc fc on ze ou wd lo up hc sv ab tr rt kn2 ct2 bu2 bl2 d0 nw ps er2 st := ⟨S, L, hF, hCC, hM, hH, Or.inr ⟨ek, C, B, hb, hbst⟩, hd, hE⟩
  obtain ⟨ect, hC5, hbj⟩ := hbst
  refine Lp2.up 5 (fun k x y => y = nI k ∧ x = itr (dgE er) k 2713) 0 (Nat.zero_le _) ⟨rfl, rfl⟩ ?_
  rintro k x y J hk ⟨rfl, rfl⟩ hJ
  refine le_br (by decide) (by omega) (fun c => ?_) (fun c => ⟨vp_in_nI c (by decide), hJ _ _ c ⟨nI_1 k, ?_⟩⟩)
  · have ek : k = 5 := by omega
    subst ek
    refine sp_mixTermsC hC.1 hF.1 hrt (sp_mixColumnsC hC.1 hF hg1 hg2 hrt ?_)
    unfold wp_X5_area wp_X5_mixBest wp_X5_mix
    rw [ect]
    refine Lp2.up C (fun k x y => y = nI k ∧ x = itr (dgB B) k _) 0 (Nat.zero_le _) ⟨rfl, rfl⟩ ?_
    rintro k x y J2 hk2 ⟨rfl, rfl⟩ hJ2
    refine le_br (by omega) (by omega) (fun c2 => ?_) (fun c2 => ⟨vp_in_nI (by omega) (by decide), vp_in_nI (by omega) (by decide), hJ2 _ _ c2 ⟨nI_1 k, ?_⟩⟩)
    · have ekC : k = C := by omega
      subst ekC
      unfold wp_X6_digest wp_X6_mix
      refine Lp2.up 5 (fun k y x => y = nI k ∧ x = itr (dgE er) k 2713) 0 (Nat.zero_le _) ⟨rfl, rfl⟩ ?_
      rintro j y x J3 hj ⟨rfl, rfl⟩ hJ3
      refine le_br (by decide) (by omega) (fun c3 => ?_) (fun c3 => ⟨vp_in_nI c3 (by decide), hJ3 _ _ c3 ⟨nI_1 j, ?_⟩⟩)
      · have ej : j = 5 := by omega
        subst ej
        refine Lp2.up 3 (fun k y x => y = nI k ∧ x = itr (dgE nw) k (itr (dgE er) 5 2713)) 0 (Nat.zero_le _) ⟨rfl, rfl⟩ ?_
        rintro j y x J4 hj4 ⟨rfl, rfl⟩ hJ4
        refine lt_br (by decide) (by omega) (fun c4 => ?_) (fun c4 => ⟨vp_in_nI (by omega) (by decide), hJ4 _ _ (by omega) ⟨nI_1 j, ?_⟩⟩)
        · have ej : j = 3 := by omega
          subst ej
          refine sp_lay hM hF hf (fun us2 un2 od2 hus ho => sp_mixTermsM hM hF hus hf hg2 ho (sp_areaNow hM hF.low (sp_findBestM hM hF.1 (fun M l us3 un3 od3 li2 hbm hM5 hli => ?_))))
          obtain ⟨eM, hlB⟩ := hbm.unique hb
          rw [eM] at hli hlB ⊢
          refine Lp2.up k (fun j y x => y = nI j ∧ x = itr (dgB B) j _) 0 (Nat.zero_le _) ⟨rfl, rfl⟩ ?_
          rintro j y x J5 hj5 ⟨rfl, rfl⟩ hJ5
          refine le_br (by omega) (by omega) (fun c5 => ?_) (fun c5 => ⟨vp_in_nI (by omega) (by decide), vp_in_nI (by omega) (by decide), hJ5 _ _ c5 ⟨nI_1 j, ?_⟩⟩)
          · have ej : j = k := by omega
            subst ej
            refine ⟨?_, by rw [← ect]; exact hR⟩
            have e3 : itr (dgE nw) 3 (itr (dgE er) 5 2713) = 31 * (31 * (31 * itr (dgE er) 5 2713 + inp.toInt64) + otp.toInt64) + tc.toInt64 := by
              show 31 * (31 * (31 * itr (dgE er) 5 2713 + (nw 0).toInt64) + (nw 1).toInt64) + (nw 2).toInt64 = _
              rw [hM.1, hM.2.1, hM.2.2.1, k1, k2, k3]
            rw [e3, k5, k6, k1, k2, k3, k4]
          · show _ = dgB B j (itr (dgB B) j _)
            rw [nI_clamp (by omega), hli j c5, hlB j c5, div10 (hbj j c5).1, rem10 (hbj j c5).1]
            rfl
        · show _ = dgE nw j (itr (dgE nw) j _)
          rw [nI_clamp (by omega)]
          rfl
      · show _ = dgE er j (itr (dgE er) j 2713)
        rw [nI_clamp (by omega), ← hE j c3]
        rfl
    · show _ = dgB B k (itr (dgB B) k _)
      rw [nI_clamp (by omega), (hbj k c2).2.1, (hbj k c2).2.2]
      rfl
  · show _ = dgE er k (itr (dgE er) k 2713)
    rw [nI_clamp (by omega)]
    rfl
end RR
