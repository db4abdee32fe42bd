-- rows, best folding, undo
section RR
variable {er : Nat → Int32} {inp otp tc fc : Int32} {on ze ou : Nat → Int32} {wd : Nat → Int64} {lo up : Nat → Int32} {hc : Int32} {sv : Nat → SS} {ab tr rt : Nat → Int32} {kn ct : Int32} {bu bl d0 : Nat → Int32} {nw ps er2 : Nat → Int32} {st : Int32}
theorem sp_lay {us un od : Nat → Int32} {S : AS} {f : Nat → Nat} {K : (Nat → Int32) → (Nat → Int32) → (Nat → Int32) → Prop} (hM : RepM nw S) (hF : Fok S) (hf : RowsTo S.2.2.1.length (DR S.2.2.1 S.2.2.2.1) f S.2.2.1.length) (h : ∀ us2 un2 od2, (∀ c, c < 10 → us2 c = nI (use S.2.2.1 c)) → (∀ j, j < S.2.2.1.length → od2 j = nI (f j)) → K us2 un2 od2) : wp_X6_lay nw us un od K := by
  unfold wp_X6_lay
  refine sp_layDemands hM hF.1 hF.low (fun us2 un2 hus hun => ?_)
  refine sp_layRows hM.2.2.1 hF.len hun DR_low (fun od2 g hg ho _ => h us2 un2 od2 hus (fun j hj => ?_)) (fun c => absurd hF.2.2.2 c)
  rw [ho j hj, hg.unique hf j hj]
theorem rows_inj {n : Nat} {R : Nat → Nat → Prop} {f : Nat → Nat} (hf : RowsTo n R f n) {i j : Nat} (hi : i < n) (hj : j < n) (e : f i = f j) : i = j := by
  rcases Nat.lt_or_ge i j with c | c
  · exact absurd e ((hf j hj).2.1 i c)
  · rcases Nat.lt_or_ge j i with d | d
    · exact absurd e.symm ((hf i hi).2.1 j d)
    · omega
theorem rows_inv {n : Nat} {R : Nat → Nat → Prop} {f : Nat → Nat} (hf : RowsTo n R f n) : ∃ g : Nat → Nat, (∀ j, j < n → f j < n ∧ g (f j) = j) ∧ ∀ t, t < n → g t < n ∧ f (g t) = t := by
  have ex : ∀ t : Nat, ∃ j : Nat, t < n → (j < n ∧ f j = t) := fun t => by
    by_cases c : t < n
    · obtain ⟨j, h1, h2⟩ := rows_full hf t c
      exact ⟨j, fun _ => ⟨h1, h2⟩⟩
    · exact ⟨0, fun q => absurd q c⟩
  obtain ⟨g, hg⟩ := Classical.axiomOfChoice ex
  refine ⟨g, fun j hj => ⟨(hf j hj).1, ?_⟩, fun t ht => hg t ht⟩
  obtain ⟨h1, h2⟩ := hg (f j) (hf j hj).1
  exact rows_inj hf h1 hj h2
theorem m_termAt {a1 : Int32} {us un od : Nat → Int32} (h : Rel er inp otp tc fc on ze ou wd lo up hc sv ab tr rt kn ct bu bl d0 nw ps er2 st) : wp_X5_termAt a1 er tc tr (fun r er' => wp_X6_termAt a1 nw er2 us un od (fun r2 er2' _ _ _ => r = r2 ∧ Rel er' inp otp tc fc on ze ou wd lo up hc sv ab tr rt kn ct bu bl d0 nw ps er2' st)) := by
  have h0 := h
  obtain ⟨S, L, hF, hC, hM, hH, hB, hd, hE⟩ := h
  have hl := hF.len
  obtain ⟨f, hf, hfv⟩ := hC.2.2
  unfold wp_X5_termAt
  rcases Classical.em (∃ k, k < S.2.2.1.length ∧ a1 = nI k) with ⟨t, ht, rfl⟩ | hno
  · refine hasTerm_y hC.1.2.2.1 hl ht (b1 ⟨vp_in_nI (by omega) (by decide), ?_⟩)
    rw [nI_clamp (by omega)]
    unfold wp_X6_termAt
    rw [hM.2.2.1]
    refine sp_in0_y (by omega) ht (b1 (sp_lay hM hF hf (fun us2 un2 od2 hus ho => ⟨vp_in_nI (by omega) (by decide), ?_, h0⟩)))
    rw [nI_clamp (by omega), ho t ht]
    exact (hfv t ht).1
  · refine hasTerm_n hC.1.2.2.1 hl hno (b0 (sp_fail (by decide) er_2 ?_))
    unfold wp_X6_termAt
    rw [hM.2.2.1]
    exact sp_in0_n (by omega) hno (b0 (sp_error (by decide) er_2 ⟨rfl, h0.err 0 (by decide)⟩))
theorem m_rowOf {a1 : Int32} {us un od : Nat → Int32} (h : Rel er inp otp tc fc on ze ou wd lo up hc sv ab tr rt kn ct bu bl d0 nw ps er2 st) : wp_X5_rowOf a1 er tc rt (fun r er' => wp_X6_rowOf a1 nw er2 us un od (fun r2 er2' _ _ _ => r = r2 ∧ Rel er' inp otp tc fc on ze ou wd lo up hc sv ab tr rt kn ct bu bl d0 nw ps er2' st)) := by
  have h0 := h
  obtain ⟨S, L, hF, hC, hM, hH, hB, hd, hE⟩ := h
  have hl := hF.len
  obtain ⟨f, hf, hfv⟩ := hC.2.2
  unfold wp_X5_rowOf
  rcases Classical.em (∃ k, k < S.2.2.1.length ∧ a1 = nI k) with ⟨t, ht, rfl⟩ | hno
  · refine hasTerm_y hC.1.2.2.1 hl ht (b1 ⟨vp_in_nI (by omega) (by decide), ?_⟩)
    obtain ⟨j, hj, rfl⟩ := rows_full hf t ht
    rw [nI_clamp (by omega), (hfv j hj).2]
    unfold wp_X6_rowOf
    exact isTerm_y hM hl ht (b1 (sp_lay hM hF hf (fun us2 un2 od2 hus ho => sp_rowAt hl hj (fun j hj => (hf j hj).1) (hf j hj).2.1 ho ⟨rfl, h0⟩)))
  · refine hasTerm_n hC.1.2.2.1 hl hno (b0 (sp_fail (by decide) er_2 ?_))
    unfold wp_X6_rowOf
    exact isTerm_n hM hl hno (b0 (sp_error (by decide) er_2 ⟨rfl, h0.err 0 (by decide)⟩))
theorem m_mustPrecede {a1 a2 : Int32} {us un : Nat → Int32} (h : Rel er inp otp tc fc on ze ou wd lo up hc sv ab tr rt kn ct bu bl d0 nw ps er2 st) : wp_X5_mustPrecede a1 a2 er tc ab (fun r er' => wp_X6_mustPrecede a1 a2 nw er2 us un (fun r2 er2' _ _ => r = r2 ∧ Rel er' inp otp tc fc on ze ou wd lo up hc sv ab tr rt kn ct bu bl d0 nw ps er2' st)) := by
  have h0 := h
  obtain ⟨S, L, hF, hC, hM, hH, hB, hd, hE⟩ := h
  have hl := hF.len
  unfold wp_X5_mustPrecede
  rcases Classical.em (∃ k, k < S.2.2.1.length ∧ a1 = nI k) with ⟨a, ha, rfl⟩ | hno
  · refine hasTerm_y hC.1.2.2.1 hl ha (b1' ?_)
    rcases Classical.em (∃ k, k < S.2.2.1.length ∧ a2 = nI k) with ⟨b, hb, rfl⟩ | hno
    · refine hasTerm_y hC.1.2.2.1 hl hb (b1 ⟨vp_in_nI (by omega) (by decide), ?_⟩)
      obtain ⟨m, hm, em, hbm⟩ := hC.2.1 b (by omega)
      rw [nI_clamp (by omega), em]
      have model : ∀ (v : Int32) (er' : Nat → Int32), (TC (DR S.2.2.1 S.2.2.2.1) a b → v = 1) → (¬ TC (DR S.2.2.1 S.2.2.2.1) a b → v = 0) → Rel er' inp otp tc fc on ze ou wd lo up hc sv ab tr rt kn ct bu bl d0 nw ps er2 st → wp_X6_mustPrecede (nI a) (nI b) nw er2 us un (fun r2 er2' _ _ => v = r2 ∧ Rel er' inp otp tc fc on ze ou wd lo up hc sv ab tr rt kn ct bu bl d0 nw ps er2' st) := by
        intro v er' k1 k0 hR
        unfold wp_X6_mustPrecede
        refine isTerm_y hM hl ha (b1' (isTerm_y hM hl hb (b1 (sp_layDemands hM hF.1 hF.low (fun us2 un2 hus hun => ⟨vp_in_nI (by omega) (by decide), ?_⟩)))))
        obtain ⟨m2, hm2, em2, hbm2⟩ := hun a (by omega)
        rw [nI_clamp (by omega), em2]
        refine sp_reach hun (DRk_low hl) hm2 hbm2 (fun M hM3 hMb => sp_has (by omega) (by omega) (fun q => b1' ⟨k1 ((hMb b).mp q), hR⟩) (fun q => b0' ⟨k0 (fun c => ?_), hR⟩))
        rw [(hMb b).mpr c] at q
        cases q
      refine sp_contains (by omega) (by omega) (fun q => ?_) (fun q => ?_)
      · unfold wp_X5_flag
        exact b1' (model _ _ (fun _ => rfl) (fun c => absurd ((hbm a).mp q) c) h0)
      · unfold wp_X5_flag
        refine b0' (model _ _ (fun c => ?_) (fun _ => rfl) h0)
        rw [(hbm a).mpr c] at q
        cases q
    · refine hasTerm_n hC.1.2.2.1 hl hno (b0 (sp_fail (by decide) er_2 ?_))
      unfold wp_X6_mustPrecede
      exact isTerm_y hM hl ha (b1' (isTerm_n hM hl hno (b0 (sp_error (by decide) er_2 ⟨rfl, h0.err 0 (by decide)⟩))))
  · refine hasTerm_n hC.1.2.2.1 hl hno (b0' (sp_fail (by decide) er_2 ?_))
    unfold wp_X6_mustPrecede
    exact isTerm_n hM hl hno (b0' (sp_error (by decide) er_2 ⟨rfl, h0.err 0 (by decide)⟩))
theorem rt_inv {n : Nat} {f g : Nat → Nat} (hfv : ∀ j, j < n → tr j = nI (f j) ∧ rt (f j) = nI j) (hg : ∀ t, t < n → g t < n ∧ f (g t) = t) : ∀ t, t < n → rt t = nI (g t) := fun t ht => by
  have := (hfv (g t) (hg t ht).1).2
  rw [(hg t ht).2] at this
  exact this
theorem m_span {a1 : Int32} {us un od : Nat → Int32} (h : Rel er inp otp tc fc on ze ou wd lo up hc sv ab tr rt kn ct bu bl d0 nw ps er2 st) : wp_X5_span a1 er inp otp tc on ze ou rt (fun r er' => wp_X6_span a1 nw er2 us un od (fun r2 er2' _ _ _ => r = r2 ∧ Rel er' inp otp tc fc on ze ou wd lo up hc sv ab tr rt kn ct bu bl d0 nw ps er2' st)) := by
  have h0 := h
  obtain ⟨S, L, hF, hC, hM, hH, hB, hd, hE⟩ := h
  have hl := hF.len
  obtain ⟨f, hf, hfv⟩ := hC.2.2
  obtain ⟨g, hg1, hg2⟩ := rows_inv hf
  have e3 := hC.1.2.2.1
  unfold wp_X5_span
  rcases Classical.em (∃ k, colE S.1 S.2.1 k ∧ a1 = nI k) with ⟨c, hc1, rfl⟩ | hno
  · have c10 := col10 hF.1.2.1 hF.1.2.2.2.1 hc1
    refine hasCol_y hC.1.1 hC.1.2.1 hF.1 hc1 (b1 (sp_termsOfColumn hC.1.2.2.1 hC.1.T hF.1 c10 ?_))
    have key : wp_X3_spread (nI (use S.2.2.1 c)) (nI S.2.2.1.length) rt (fun r4 => wp_X6_span (nI c) nw er2 us un od (fun r2 er2' _ _ _ => r4 = r2 ∧ Rel er inp otp tc fc on ze ou wd lo up hc sv ab tr rt kn ct bu bl d0 nw ps er2' st)) := by
      refine sp_spread hl (use_lt _ _ hl) hg1 hg2 (rt_inv hfv hg2) (fun v hv => ?_)
      unfold wp_X6_span
      exact isCol_y hM hF.1 hc1 (b1 (sp_lay hM hF hf (fun us2 un2 od2 hus ho => sp_spanOf hM.2.2.1 hl c10 (hus c c10) (use_lt _ _ hl) (fun j hj => (hf j hj).1) ho (fun w hw => ⟨hv.unique hw, h0⟩))))
    rw [← e3] at key
    exact key
  · refine hasCol_n hC.1.1 hC.1.2.1 hF.1 hno (b0 (sp_fail (by decide) er_2 ?_))
    unfold wp_X6_span
    exact isCol_n hM hF.1 hno (b0 (sp_error (by decide) er_2 ⟨rfl, h0.err 0 (by decide)⟩))
-- the best folding
theorem sp_findBestC {S : AS} {tu tl bd bm d1 d2 d3 d4 d5 : Nat → Int32} {K : Int32 → Int32 → (Nat → Int32) → (Nat → Int32) → (Nat → Int32) → (Nat → Int32) → (Nat → Int32) → (Nat → Int32) → (Nat → Int32) → (Nat → Int32) → (Nat → Int32) → (Nat → Int32) → (Nat → Int32) → Prop} (hC : RepC inp otp tc fc on ze ou wd lo up S) (hz : Size S) (hB : BK S kn ct bu bl) (hd : ∀ t, t < 10 → d0 t = 0)
    (h : ∀ kn2 ct2 bu2 bl2 tu2 tl2 bd2 bm2 e1 e2 e3 e4 e5 C B, kn2 = 1 → BestF S C B → Bst C B ct2 bu2 bl2 → K kn2 ct2 bu2 bl2 tu2 tl2 bd2 bm2 e1 e2 e3 e4 e5) : wp_X5_findBest inp otp tc on ze ou kn ct bu bl tu tl bd bm d0 d1 d2 d3 d4 d5 K := by
  unfold wp_X5_findBest
  refine ⟨fun c => ?_, fun _ => sp_search hC.1 hC.2.1 hC.2.2.1 hC.T hz hd (fun C B ct2 bu2 bl2 tu2 tl2 bd2 bm2 e1 e2 e3 e4 e5 h1 h2 => h _ _ _ _ _ _ _ _ _ _ _ _ _ C B rfl h1 h2)⟩
  obtain ⟨e, C, B, h1, h2⟩ := hB.resolve_left c
  exact h _ _ _ _ _ _ _ _ _ _ _ _ _ C B e h1 h2
theorem m_bestUpper {a1 : Int32} {tu tl bd bm d1 d2 d3 d4 d5 us un od li : Nat → Int32} {lm : Int32} (h : Rel er inp otp tc fc on ze ou wd lo up hc sv ab tr rt kn ct bu bl d0 nw ps er2 st) : wp_X5_bestUpper a1 er inp otp tc on ze ou kn ct bu bl tu tl bd bm d0 d1 d2 d3 d4 d5 (fun r er' kn' ct' bu' bl' _ _ _ _ _ _ _ _ _ => wp_X6_bestUpper a1 nw er2 us un od li lm (fun r2 er2' _ _ _ _ _ => r = r2 ∧ Rel er' inp otp tc fc on ze ou wd lo up hc sv ab tr rt kn' ct' bu' bl' d0 nw ps er2' st)) := by
  have h0 := h
  obtain ⟨S, L, hF, hC, hM, hH, hB, hd, hE⟩ := h
  unfold wp_X5_bestUpper
  refine ⟨fun c => ?_, fun c => sp_fail (by decide) er_2 ?_⟩
  · refine sp_findBestC hC.1 hF.1 hB hd (fun kn2 ct2 bu2 bl2 _ _ _ _ _ _ _ _ _ C B ek hb hbst => ?_)
    have hR : Rel er inp otp tc fc on ze ou wd lo up hc sv ab tr rt kn2 ct2 bu2 bl2 d0 nw ps er2 st := ⟨S, L, hF, hC, hM, hH, Or.inr ⟨ek, C, B, hb, hbst⟩, hd, hE⟩
    obtain ⟨rfl, hC5, hbj⟩ := hbst
    have model : ∀ v : Int32, (a1 = (-1 : Int32) → v = nI C) → (∀ k, a1 = nI k → C ≤ k → k < 2 ^ 31 → v = -1) → (∀ k, a1 = nI k → k < C → v = nI (B k / 10)) → wp_X6_bestUpper a1 nw er2 us un od li lm (fun r2 er2' _ _ _ _ _ => v = r2 ∧ Rel er inp otp tc fc on ze ou wd lo up hc sv ab tr rt kn2 (nI C) bu2 bl2 d0 nw ps er2' st) := by
      intro v k1 k2 k3
      unfold wp_X6_bestUpper
      refine ⟨fun _ => sp_findBestM hM hF.1 (fun M l us2 un2 od2 li2 hbm hM5 hli => ?_), fun q => absurd c q⟩
      obtain ⟨rfl, hlB⟩ := hbm.unique hb
      refine ⟨fun q => ?_, fun q => ⟨k1 ?_, hR⟩⟩
      · have q2 : ¬ a1 < 0 := fun q3 => i32_lt_nle q3 q
        obtain ⟨k, hk, rfl⟩ := nI_of q2
        refine le_br (by omega) hk (fun q4 => ⟨k2 k rfl q4 hk, hR⟩) (fun q4 => ⟨vp_in_nI (by omega) (by decide), ?_, hR⟩)
        rw [nI_clamp (by omega), hli k q4, hlB k q4, div10 (hbj k q4).1]
        exact k3 k rfl q4
      · have q2 := i32_nle q
        rw [Int32.lt_iff_toInt_lt] at q2
        rw [Int32.le_iff_toInt_le] at c
        have e0 : (0 : Int32).toInt = 0 := rfl
        have e1 : (-1 : Int32).toInt = -1 := rfl
        exact Int32.toInt_inj.mp (by rw [e1]; omega)
    refine ⟨fun q => ?_, fun q => ?_⟩
    · have q2 : ¬ a1 < 0 := fun q3 => by
        rw [Int32.lt_iff_toInt_lt] at q3
        rw [Int32.le_iff_toInt_le] at c
        have e0 : (0 : Int32).toInt = 0 := rfl
        have e1 : (-1 : Int32).toInt = -1 := rfl
        exact q (Int32.toInt_inj.mp (by rw [e1]; omega))
      obtain ⟨k, hk, rfl⟩ := nI_of q2
      refine le_br (by omega) hk (fun q4 => model _ (fun e => absurd e q) (fun _ _ _ _ => rfl) (fun k2 e q5 => ?_)) (fun q4 => ⟨vp_in_nI (by omega) (by decide), model _ (fun e => absurd e q) (fun k2 e q5 hk2 => ?_) (fun k2 e q5 => ?_)⟩)
      · have := (nI_eq hk (by omega)).mp e
        omega
      · have := (nI_eq hk hk2).mp e
        omega
      · have e2 := (nI_eq hk (by omega)).mp e
        rw [nI_clamp (by omega), e2]
        exact (hbj k2 q5).2.1
    · exact model _ (fun _ => rfl) (fun k e q5 hk2 => absurd (e.symm.trans q) (nI_ne_m1 hk2)) (fun k e q5 => absurd (e.symm.trans q) (nI_ne_m1 (by omega)))
  · unfold wp_X6_bestUpper
    exact ⟨fun q => absurd q c, fun _ => sp_error (by decide) er_2 ⟨rfl, h0.err 0 (by decide)⟩⟩
theorem m_bestLower {a1 : Int32} {tu tl bd bm d1 d2 d3 d4 d5 us un od li : Nat → Int32} {lm : Int32} (h : Rel er inp otp tc fc on ze ou wd lo up hc sv ab tr rt kn ct bu bl d0 nw ps er2 st) : wp_X5_bestLower a1 er inp otp tc on ze ou kn ct bu bl tu tl bd bm d0 d1 d2 d3 d4 d5 (fun r er' kn' ct' bu' bl' _ _ _ _ _ _ _ _ _ => wp_X6_bestLower a1 nw er2 us un od li lm (fun r2 er2' _ _ _ _ _ => r = r2 ∧ Rel er' inp otp tc fc on ze ou wd lo up hc sv ab tr rt kn' ct' bu' bl' d0 nw ps er2' st)) := by
  have h0 := h
  obtain ⟨S, L, hF, hC, hM, hH, hB, hd, hE⟩ := h
  unfold wp_X5_bestLower
  refine ⟨fun c => ?_, fun c => sp_fail (by decide) er_2 ?_⟩
  · refine sp_findBestC hC.1 hF.1 hB hd (fun kn2 ct2 bu2 bl2 _ _ _ _ _ _ _ _ _ C B ek hb hbst => ?_)
    have hR : Rel er inp otp tc fc on ze ou wd lo up hc sv ab tr rt kn2 ct2 bu2 bl2 d0 nw ps er2 st := ⟨S, L, hF, hC, hM, hH, Or.inr ⟨ek, C, B, hb, hbst⟩, hd, hE⟩
    obtain ⟨rfl, hC5, hbj⟩ := hbst
    have q2 : ¬ a1 < 0 := fun q3 => i32_lt_nle q3 c
    obtain ⟨k, hk, rfl⟩ := nI_of q2
    have model : ∀ v : Int32, (C ≤ k → v = -1) → (k < C → v = nI (B k % 10)) → wp_X6_bestLower (nI k) nw er2 us un od li lm (fun r2 er2' _ _ _ _ _ => v = r2 ∧ Rel er inp otp tc fc on ze ou wd lo up hc sv ab tr rt kn2 (nI C) bu2 bl2 d0 nw ps er2' st) := by
      intro v k2 k3
      unfold wp_X6_bestLower
      refine ⟨fun _ => sp_findBestM hM hF.1 (fun M l us2 un2 od2 li2 hbm hM5 hli => ?_), fun q => absurd c q⟩
      obtain ⟨rfl, hlB⟩ := hbm.unique hb
      refine le_br (by omega) hk (fun q4 => ⟨k2 q4, hR⟩) (fun q4 => ⟨vp_in_nI (by omega) (by decide), ?_, hR⟩)
      rw [nI_clamp (by omega), hli k q4, hlB k q4, rem10 (hbj k q4).1]
      exact k3 q4
    refine le_br (by omega) hk (fun q4 => model _ (fun _ => rfl) (fun q5 => by omega)) (fun q4 => ⟨vp_in_nI (by omega) (by decide), model _ (fun q5 => by omega) (fun q5 => ?_)⟩)
    rw [nI_clamp (by omega)]
    exact (hbj k q4).2.2
  · unfold wp_X6_bestLower
    exact ⟨fun q => absurd q c, fun _ => sp_error (by decide) er_2 ⟨rfl, h0.err 0 (by decide)⟩⟩
/-- the folds of a list -/
def FB (B : Nat → Nat) : Nat → Nat → Option Nat
  | 0 => nof
  | k + 1 => setF (FB B k) (B k / 10) (B k % 10)
def UB (B : Nat → Nat) : Nat → Nat → Option Nat
  | 0 => nof
  | k + 1 => setF (UB B k) (B k % 10) (B k / 10)
theorem FB_iff {B : Nat → Nat} {M : Nat} (hd : Cdj M B) : ∀ k, k ≤ M → ∀ u v, FB B k u = some v ↔ ∃ j, j < k ∧ B j / 10 = u ∧ B j % 10 = v
  | 0, _, u, v => ⟨fun e => (nof_some e).elim, fun ⟨j, hj, _⟩ => by omega⟩
  | k + 1, hk, u, v => by
    have ih := FB_iff hd k (by omega) u v
    show setF (FB B k) (B k / 10) (B k % 10) u = some v ↔ _
    by_cases e : u = B k / 10
    · rw [e, setF_s]
      constructor
      · intro q
        cases q
        exact ⟨k, by omega, rfl, rfl⟩
      · rintro ⟨j, hj, e1, e2⟩
        by_cases ej : j = k
        · rw [← e2, ej]
        · exact absurd e1 (hd j k (by omega) (by omega)).1
    · rw [setF_n e, ih]
      constructor
      · rintro ⟨j, hj, q⟩
        exact ⟨j, by omega, q⟩
      · rintro ⟨j, hj, q1, q2⟩
        refine ⟨j, ?_, q1, q2⟩
        by_cases ej : j = k
        · rw [ej] at q1
          exact absurd q1.symm e
        · omega
theorem UB_iff {B : Nat → Nat} {M : Nat} (hd : Cdj M B) : ∀ k, k ≤ M → ∀ v u, UB B k v = some u ↔ ∃ j, j < k ∧ B j / 10 = u ∧ B j % 10 = v
  | 0, _, v, u => ⟨fun e => (nof_some e).elim, fun ⟨j, hj, _⟩ => by omega⟩
  | k + 1, hk, v, u => by
    have ih := UB_iff hd k (by omega) v u
    show setF (UB B k) (B k % 10) (B k / 10) v = some u ↔ _
    by_cases e : v = B k % 10
    · rw [e, setF_s]
      constructor
      · intro q
        cases q
        exact ⟨k, by omega, rfl, rfl⟩
      · rintro ⟨j, hj, e1, e2⟩
        by_cases ej : j = k
        · rw [← e1, ej]
        · exact absurd e2 (hd j k (by omega) (by omega)).2.2.2
    · rw [setF_n e, ih]
      constructor
      · rintro ⟨j, hj, q⟩
        exact ⟨j, by omega, q⟩
      · rintro ⟨j, hj, q1, q2⟩
        refine ⟨j, ?_, q1, q2⟩
        by_cases ej : j = k
        · rw [ej] at q2
          exact absurd q2.symm e
        · omega
theorem opt_no {x : Option Nat} (h : ∀ v, x = some v → False) : x = none := by
  cases e : x with
  | none => rfl
  | some v => exact (h v e).elim
theorem Fok.best {S : AS} {C : Nat} {B : Nat → Nat} (hz : Size S) (h : OkF S C B) : Fok (S.1, S.2.1, S.2.2.1, FB B C, UB B C) := by
  obtain ⟨h1, h2, h3, h4⟩ := h
  have hf := FB_iff h3 C (Nat.le_refl _)
  have hu := UB_iff h3 C (Nat.le_refl _)
  refine ⟨hz, fun u v => (hf u v).trans (hu v u).symm, fun u v e => ?_, fun t ht => h4 t (TC.mono (fun a b q => ?_) ht)⟩
  · obtain ⟨j, hj, e1, e2⟩ := (hf u v).mp e
    have hfit := (h1 j hj).2
    rw [e1, e2] at hfit
    have hne : u ≠ v := hfit.1
    refine ⟨hfit, opt_no (fun w q => ?_), opt_no (fun w q => ?_)⟩
    · obtain ⟨i, hi, d1, d2⟩ := (hf v w).mp q
      rcases Nat.lt_or_ge i j with c | c
      · have := (h3 i j c hj).2.1
        omega
      · rcases Nat.lt_or_ge j i with c2 | c2
        · have := (h3 j i c2 hi).2.2.1
          omega
        · have e3 : i = j := by omega
          rw [e3] at d1
          omega
    · obtain ⟨i, hi, d1, d2⟩ := (hu u w).mp q
      rcases Nat.lt_or_ge i j with c | c
      · have := (h3 i j c hj).2.2.1
        omega
      · rcases Nat.lt_or_ge j i with c2 | c2
        · have := (h3 j i c2 hi).2.1
          omega
        · have e3 : i = j := by omega
          rw [e3] at d2
          omega
  · obtain ⟨u, v, _, k2, k3, k4⟩ := q
    obtain ⟨j, hj, e1, e2⟩ := (hf u v).mp k2
    exact ⟨j, hj, by rw [e1]; exact k3, by rw [e2]; exact k4⟩
theorem nF_FB {B : Nat → Nat} {M : Nat} (hd : Cdj M B) (hl : ∀ j, j < M → B j < 100) : ∀ k, k ≤ M → nF (FB B k) = k
  | 0, _ => nF_nof
  | k + 1, hk => by
    have ih := nF_FB hd hl k (by omega)
    have hB := hl k (by omega)
    show nF (setF (FB B k) (B k / 10) (B k % 10)) = k + 1
    rw [nF_set (by omega) (opt_no (fun v q => ?_)), ih]
    obtain ⟨j, hj, e1, _⟩ := (FB_iff hd k (by omega) _ _).mp q
    exact (hd j k hj (by omega)).1 e1
theorem m_foldBest {sa : Nat → Nat → Nat} {tu tl bd bm d1 d2 d3 d4 d5 us un od li : Nat → Int32} {lm : Int32} (h : Rel er inp otp tc fc on ze ou wd lo up hc sv ab tr rt kn ct bu bl d0 nw ps er2 st) : wp_X5_foldBest inp otp tc fc on ze ou wd lo up hc sa sv ab tr rt kn ct bu bl tu tl bd bm d0 d1 d2 d3 d4 d5 (fun r fc' lo' up' hc' _ sv' ab' tr' rt' kn' ct' bu' bl' _ _ _ _ _ _ _ _ _ => wp_X6_foldBest nw ps us un od li st lm (fun r2 nw' ps' _ _ _ _ st' _ => r = r2 ∧ Rel er inp otp tc fc' on ze ou wd lo' up' hc' sv' ab' tr' rt' kn' ct' bu' bl' d0 nw' ps' er2 st')) := by
  obtain ⟨S, L, hF, hC, hM, hH, hB, hd, hE⟩ := h
  have hl := hF.len
  unfold wp_X5_foldBest
  refine sp_findBestC hC.1 hF.1 hB hd (fun kn2 ct2 bu2 bl2 _ _ _ _ _ _ _ _ _ C B ek hb hbst => ?_)
  obtain ⟨rfl, hC5, hbj⟩ := hbst
  have hok := hb.1
  have hl100 : ∀ j, j < C → B j < 100 := fun j hj => (hbj j hj).1
  have hF2 : Fok (S.1, S.2.1, S.2.2.1, FB B C, UB B C) := Fok.best hF.1 hok
  refine sp_push hH.1 hC.1 hl (fun hc2 sa2 sv2 hH2 => sp_partAll (fun lo0 up0 hl0 => ?_))
  refine Lp4.up C (fun k x f a b => x = nI k ∧ f = nI k ∧ (∀ c, c < 10 → a c = opt (FB B k c)) ∧ ∀ c, c < 10 → b c = opt (UB B k c)) 0 (Nat.zero_le _) ⟨rfl, rfl, fun c hc => (hl0 c hc).1, fun c hc => (hl0 c hc).2⟩ ?_
  rintro k x f a b J hk ⟨rfl, rfl, hlo, hup⟩ hJ
  refine le_br (by omega) (by omega) (fun c => ?_) (fun c => ⟨vp_in_nI (by omega) (by decide), vp_in_nI (by omega) (by decide), ?_⟩)
  · have ek2 : k = C := by omega
    subst ek2
    refine sp_foldsChanged (S := (S.1, S.2.1, S.2.2.1, FB B k, UB B k)) hC.1.2.2.1 hC.1.T hF2 hlo (fun ab2 tr2 rt2 hab hrow => ?_)
    have efc : nI k = nI (nF (FB B k)) := by rw [nF_FB hok.2.2.1 hl100 k (Nat.le_refl _)]
    unfold wp_X5_area wp_X6_foldBest
    refine sp_save hH.2.2.1 hH.2.1 hM hl (fun ps2 hps => sp_findBestM hM hF.1 (fun M l us2 un2 od2 li2 hbm hM5 hli => sp_noFolds ?_))
    obtain ⟨eM, hlB⟩ := hbm.unique hb
    rw [eM] at hli hlB ⊢
    refine Lp2.up k (fun j x z => x = nI j ∧ RepM z (S.1, S.2.1, S.2.2.1, FB B j, UB B j)) 0 (Nat.zero_le _) ⟨rfl, hM.noF hl⟩ ?_
    rintro j x z J2 hj ⟨rfl, hz⟩ hJ2
    refine le_br (by omega) (by omega) (fun c2 => ?_) (fun c2 => ?_)
    · have ej : j = k := by omega
      subst ej
      refine sp_areaNow hz hF2.low ⟨?_, _, push5 L S, hF2, ⟨⟨hC.1.1, hC.1.2.1, hC.1.2.2.1, efc, hC.1.T, fun c hc => ⟨hlo c hc, hup c hc⟩⟩, hab, hrow⟩, hz, ⟨hH2, hps, rfl, push_ok hH.2.2.2 hF⟩, Or.inr ⟨ek, j, B, hb, rfl, hC5, hbj⟩, hd, hE⟩
      rw [hC.1.1, hC.1.2.1, hC.1.2.2.1, efc]
    · have v6 : vp_in (nI j) 6 := vp_in_nI (by omega) (by decide)
      have hBj := hl100 j c2
      rw [clamp_n (k := j) (by omega), hli j c2, hlB j c2, div10 hBj, rem10 hBj]
      have c43 : (nI 43 + nI (B j / 10)).toNatClampNeg = 43 + B j / 10 := ixc (by omega)
      have c33 : (nI 33 + nI (B j % 10)).toNatClampNeg = 33 + B j % 10 := ixc (by omega)
      refine ⟨v6, v6, ixv (by omega) (by decide), v6, v6, ixv (by omega) (by decide), hJ2 _ _ c2 ⟨nI_1 j, ?_⟩⟩
      rw [c43, c33]
      refine ⟨?_, ?_, ?_, fun s q hq => ?_, fun c hc => ⟨?_, ?_⟩⟩
      · rw [pk_un (by omega), pk_un (by omega)]
        exact hz.1
      · rw [pk_un (by omega), pk_un (by omega)]
        exact hz.2.1
      · rw [pk_un (by omega), pk_un (by omega)]
        exact hz.2.2.1
      · have hs : s < S.2.2.1.length := lt_of_get hq
        rw [pk_un (by omega), pk_un (by omega), pk_un (by omega), pk_un (by omega), pk_un (by omega), pk_un (by omega)]
        exact hz.2.2.2.1 s q hq
      · show _ = opt (setF (FB B j) (B j / 10) (B j % 10) c)
        rw [pk_un (by omega)]
        by_cases e : c = B j / 10
        · rw [e, pk_us, setF_s]
          rfl
        · rw [pk_un (by omega), setF_n e]
          exact (hz.2.2.2.2 c hc).1
      · show _ = opt (setF (UB B j) (B j % 10) (B j / 10) c)
        by_cases e : c = B j % 10
        · rw [e, pk_us, setF_s]
          rfl
        · rw [pk_un (by omega), pk_un (by omega), setF_n e]
          exact (hz.2.2.2.2 c hc).2
  · have hBk := hl100 k c
    rw [clamp_n (k := k) (by omega), (hbj k c).2.1, (hbj k c).2.2]
    unfold wp_X4_join
    refine ⟨vp_in_nI (by omega) (by decide), vp_in_nI (by omega) (by decide), hJ _ _ _ _ c ⟨nI_1 k, nI_1 k, ?_, ?_⟩⟩
    · rw [clamp_n (k := B k / 10) (by omega)]
      exact upd_opt hlo
    · rw [clamp_n (k := B k % 10) (by omega)]
      exact upd_opt hup
theorem m_undo (h : Rel er inp otp tc fc on ze ou wd lo up hc sv ab tr rt kn ct bu bl d0 nw ps er2 st) : wp_X5_undo er inp otp tc fc on ze ou wd lo up hc sv ab tr rt kn (fun r er' inp' otp' tc' fc' on' ze' ou' wd' lo' up' hc' ab' tr' rt' kn' => wp_X6_undo nw ps er2 st (fun r2 nw' er2' st' => r = r2 ∧ Rel er' inp' otp' tc' fc' on' ze' ou' wd' lo' up' hc' sv ab' tr' rt' kn' ct bu bl d0 nw' ps er2' st')) := by
  have h0 := h
  obtain ⟨S, L, hF, hC, hM, hH, hB, hd, hE⟩ := h
  obtain ⟨hH1, hH2, hH3, hH4⟩ := hH
  unfold wp_X5_undo
  rcases list_end L with rfl | ⟨L2, P, rfl⟩
  · have e1 : hc = 0 := hH1.1
    have e2 : st = 0 := hH3
    refine ⟨fun c => absurd e1 c, fun _ => sp_fail (by decide) er_6 ?_⟩
    unfold wp_X6_undo
    exact ⟨fun c => absurd e2 c, fun _ => sp_error (by decide) er_6 ⟨rfl, h0.err 4 (by decide)⟩⟩
  · have hlen : (L2 ++ [P]).length = L2.length + 1 := by rw [List.length_append, List.length_singleton]
    have h5 : (L2 ++ [P]).length ≤ 5 := hH1.2.1
    have hP : Fok P := hH4 P (by rw [List.mem_append, List.mem_singleton]; exact Or.inr rfl)
    have n1 : ¬ hc = 0 := fun c => by
      have e := hH1.1
      rw [c, hlen] at e
      have := (nI_eq (a := 0) (by decide) (by omega)).mp e
      omega
    have n2 : ¬ st = 0 := fun c => by
      have e := hH3
      rw [c, hlen] at e
      have := (nI_eq (a := 0) (by decide) (by omega)).mp e
      omega
    refine ⟨fun _ => sp_pop hH1 (fun inp2 otp2 tc2 fc2 on2 ze2 ou2 wd2 lo2 up2 hH1b hC2 => ?_), fun c => absurd c n1⟩
    refine sp_termsChanged hC2.2.2.1 hC2.T hP (fun c hc => (hC2.2.2.2.2.2 c hc).1) (fun ab2 tr2 rt2 hab hrow => ?_)
    unfold wp_X6_undo
    refine ⟨fun _ => ?_, fun c => absurd c n2⟩
    have est : st - 1 = nI L2.length := by rw [hH3, hlen, nI_pred]
    rw [est]
    refine Lp2.up 53 (fun k x z => x = nI k ∧ ∀ j, j < k → z j = ps (53 * L2.length + j)) 0 (by omega) ⟨rfl, fun j hj => by omega⟩ ?_
    rintro k x z J hk ⟨rfl, hz⟩ hJ
    refine le_br (by decide) (by omega) (fun c => ?_) (fun c => ?_)
    · obtain ⟨r1, r2⟩ := hH2.2 L2.length P (by rw [List.getElem?_append_right (Nat.le_refl _), Nat.sub_self]; rfl)
      have hM2 : RepM z P := r1.congr r2 (fun j hj => hz j (by omega))
      refine ⟨rfl, P, L2, hP, ⟨hC2, hab, hrow⟩, hM2, ⟨hH1b, ⟨by omega, fun k2 S2 hk2 => hH2.2 k2 S2 (by rw [List.getElem?_append_left (lt_of_get hk2)]; exact hk2)⟩, rfl, fun Q hQ => hH4 Q (by rw [List.mem_append]; exact Or.inl hQ)⟩, Or.inl rfl, hd, hE⟩
    · obtain ⟨g1, g2⟩ := ix53 (h := L2.length) (k := k) (by omega) (by omega)
      refine ⟨g1, vp_in_nI (by omega) (by decide), hJ _ _ c ⟨nI_1 k, fun j hj => ?_⟩⟩
      rw [g2, nI_clamp (by omega)]
      by_cases e : j = k
      · rw [e, pk_us]
      · rw [pk_un e]
        exact hz j (by omega)
theorem code_ix {a : Int32} (h1 : (-6 : Int32) ≤ a) (h2 : a ≤ (-2 : Int32)) : ∃ j, j < 5 ∧ (-2 : Int32) - a = nI j := by
  rw [Int32.le_iff_toInt_le] at h1 h2
  have e6 : (-6 : Int32).toInt = -6 := rfl
  have e5 : (-5 : Int32).toInt = -5 := rfl
  have e4 : (-4 : Int32).toInt = -4 := rfl
  have e3 : (-3 : Int32).toInt = -3 := rfl
  have e2 : (-2 : Int32).toInt = -2 := rfl
  rw [e6] at h1
  rw [e2] at h2
  rcases (show a.toInt = -6 ∨ a.toInt = -5 ∨ a.toInt = -4 ∨ a.toInt = -3 ∨ a.toInt = -2 by omega) with e | e | e | e | e
  · rw [show a = -6 from Int32.toInt_inj.mp (e.trans e6.symm)]
    exact ⟨4, by decide, er_6⟩
  · rw [show a = -5 from Int32.toInt_inj.mp (e.trans e5.symm)]
    exact ⟨3, by decide, er_5⟩
  · rw [show a = -4 from Int32.toInt_inj.mp (e.trans e4.symm)]
    exact ⟨2, by decide, er_4⟩
  · rw [show a = -3 from Int32.toInt_inj.mp (e.trans e3.symm)]
    exact ⟨1, by decide, er_3⟩
  · rw [show a = -2 from Int32.toInt_inj.mp (e.trans e2.symm)]
    exact ⟨0, by decide, er_2⟩
theorem m_errorCount {a1 : Int32} (h : Rel er inp otp tc fc on ze ou wd lo up hc sv ab tr rt kn ct bu bl d0 nw ps er2 st) : wp_X5_errorCount a1 er (fun r er' => wp_X6_errorCount a1 er2 (fun r2 er2' => r = r2 ∧ Rel er' inp otp tc fc on ze ou wd lo up hc sv ab tr rt kn ct bu bl d0 nw ps er2' st)) := by
  have h0 := h
  obtain ⟨S, L, hF, hC, hM, hH, hB, hd, hE⟩ := h
  have bad : ¬ ((-6 : Int32) ≤ a1 ∧ a1 ≤ (-2 : Int32)) → wp_X5_fail (-2 : Int32) er (fun r er' => wp_X6_errorCount a1 er2 (fun r2 er2' => r = r2 ∧ Rel er' inp otp tc fc on ze ou wd lo up hc sv ab tr rt kn ct bu bl d0 nw ps er2' st)) := by
    intro hn
    refine sp_fail (by decide) er_2 ?_
    unfold wp_X6_errorCount
    exact sp_in (fun p q => absurd ⟨p, q⟩ hn) (fun _ => b0' (sp_error (by decide) er_2 ⟨rfl, h0.err 0 (by decide)⟩))
  unfold wp_X5_errorCount
  refine ⟨fun c => bad (fun q => i32_lt_nle c q.1), fun c => ⟨fun c2 => ?_, fun c2 => bad (fun q => c2 q.2)⟩⟩
  obtain ⟨j, hj, ej⟩ := code_ix (i32_nlt c) c2
  rw [ej]
  refine ⟨vp_in_nI hj (by decide), ?_⟩
  unfold wp_X6_errorCount
  rw [ej]
  refine sp_in (fun _ _ => b1' ⟨vp_in_nI hj (by decide), ?_, h0⟩) (fun q => absurd ⟨i32_nlt c, c2⟩ q)
  rw [nI_clamp (by omega)]
  exact hE j hj
end RR
