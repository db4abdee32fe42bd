-- folds and rows
section RR
variable {er : Nat → Int32} {inp otp tc fc : Int32} {on ze ou : Nat → Int32} {wd : Nat → Int64} {lo up : Nat → Int32} {hc : Int32} {sv : Nat → SS} {ab tr rt : Nat → Int32} {kn ct : Int32} {bu bl d0 : Nat → Int32} {nw ps er2 : Nat → Int32} {st : Int32}
def mate (S : AS) (c : Nat) : Option Nat := match S.2.2.2.1 c with
  | some v => some v
  | none => S.2.2.2.2 c
theorem mate_some {S : AS} {c v : Nat} (h : S.2.2.2.1 c = some v) : mate S c = some v := by
  unfold mate
  rw [h]
theorem mate_up {S : AS} {c : Nat} (h : S.2.2.2.1 c = none) : mate S c = S.2.2.2.2 c := by
  unfold mate
  rw [h]
theorem mate_none {S : AS} {c : Nat} (h : mate S c = none) : S.2.2.2.1 c = none ∧ S.2.2.2.2 c = none := by
  cases e : S.2.2.2.1 c with
  | some v =>
    rw [mate_some e] at h
    cases h
  | none =>
    rw [mate_up e] at h
    exact ⟨rfl, h⟩
/-- a fold and its two columns -/
theorem mate_fold {S : AS} (hF : Fok S) {c m : Nat} (h : mate S c = some m) : ∃ u v, S.2.2.2.1 u = some v ∧ ((c = u ∧ m = v) ∨ (c = v ∧ m = u)) := by
  cases e : S.2.2.2.1 c with
  | some v =>
    rw [mate_some e] at h
    cases h
    exact ⟨c, _, e, Or.inl ⟨rfl, rfl⟩⟩
  | none =>
    rw [mate_up e] at h
    exact ⟨m, c, (hF.2.1 m c).mpr h, Or.inr ⟨rfl, rfl⟩⟩
theorem mate_lt {S : AS} (hF : Fok S) {c m : Nat} (h : mate S c = some m) : m < 10 := by
  obtain ⟨u, v, e, q⟩ := mate_fold hF h
  have := hF.low u v e
  omega
theorem sp_mateOf {S : AS} {c : Nat} {K : Int32 → Prop} (hl : ∀ c, c < 10 → lo c = opt (S.2.2.2.1 c) ∧ up c = opt (S.2.2.2.2 c)) (hF : Fok S) (hc : c < 10) (h : K (opt (mate S c))) : wp_X4_mateOf (nI c) lo up K := by
  unfold wp_X4_mateOf
  have v1 : vp_in (nI c) 10 := vp_in_nI hc (by decide)
  rw [nI_clamp (by omega), (hl c hc).1, (hl c hc).2]
  refine ⟨v1, opt_br (fun v e => by have := (hF.low c v e).2; omega) (fun e => ⟨v1, ?_⟩) (fun v e => ⟨v1, ?_⟩)⟩
  · rw [← mate_up e]
    exact h
  · rw [e, ← mate_some e]
    exact h
theorem sp_partnerOf {S : AS} {c : Nat} {K : Int32 → Prop} (hM : RepM nw S) (hF : Fok S) (hc : c < 10) (h : K (opt (mate S c))) : wp_X6_partnerOf (nI c) nw K := by
  unfold wp_X6_partnerOf
  have v1 : vp_in (nI 43 + nI c) 53 := ixv (by omega) (by decide)
  have v2 : vp_in (nI 33 + nI c) 53 := ixv (by omega) (by decide)
  rw [ixc (by omega), ixc (by omega), (hM.2.2.2.2 c hc).1, (hM.2.2.2.2 c hc).2]
  refine ⟨v1, opt_br (fun v e => by have := (hF.low c v e).2; omega) (fun e => ⟨v2, ?_⟩) (fun v e => ⟨v1, ?_⟩)⟩
  · rw [← mate_up e]
    exact h
  · rw [e, ← mate_some e]
    exact h
theorem sp_isFolded {S : AS} {c : Nat} {K : Int32 → Prop} (hM : RepM nw S) (hF : Fok S) (hc : c < 10) (h1 : ∀ m, mate S c = some m → K 1) (h0 : mate S c = none → K 0) : wp_X6_isFolded (nI c) nw K := by
  unfold wp_X6_isFolded
  have v1 : vp_in (nI 43 + nI c) 53 := ixv (by omega) (by decide)
  have v2 : vp_in (nI 33 + nI c) 53 := ixv (by omega) (by decide)
  rw [ixc (by omega), ixc (by omega), (hM.2.2.2.2 c hc).1, (hM.2.2.2.2 c hc).2]
  have o1 : (opt (S.2.2.2.2 c) = (-1 : Int32) → vp_in (nI 43 + nI c) 53 ∧ ((opt (S.2.2.2.1 c) = (-1 : Int32) → K 0) ∧ (¬ (opt (S.2.2.2.1 c) = (-1 : Int32)) → K 1))) ∧ (¬ opt (S.2.2.2.2 c) = (-1 : Int32) → K 1) := by
    refine opt_br (fun v e => by have := (hF.lowU c v e).2; omega) (fun e => ⟨v1, opt_br (fun v e => by have := (hF.low c v e).2; omega) (fun e2 => h0 ?_) (fun v e2 => h1 v (mate_some e2))⟩) (fun v e => h1 v ?_)
    · rw [mate_up e2]
      exact e
    · have e2 := (hF.2.2.1 v c ((hF.2.1 v c).mpr e)).2.1
      rw [mate_up e2]
      exact e
  exact ⟨v2, o1.2, o1.1⟩
theorem sp_foldMany {S : AS} {K : Int32 → Prop} (hM : RepM nw S) (hF : FLow S.2.2.2.1) (h : K (nI (nF S.2.2.2.1))) : wp_X6_foldMany nw K := by
  unfold wp_X6_foldMany
  refine Lp2.up 10 (fun k x y => y = nI k ∧ x = nI (cnt (fun c => (S.2.2.2.1 c).isSome) k)) 0 (by omega) ⟨rfl, rfl⟩ ?_
  rintro k x y J hk ⟨rfl, rfl⟩ hJ
  refine le_br (by decide) (by omega) (fun c => ?_) (fun c => ⟨ixv (by omega) (by decide), ?_⟩)
  · rw [show k = 10 by omega]
    exact h
  · rw [ixc (by omega), (hM.2.2.2.2 k c).1]
    refine Jn1.to (fun y => y = nI (if (S.2.2.2.1 k).isSome then 1 else 0)) (opt_br (fun v e => by have := (hF k v e).2; omega) (fun e => ?_) (fun v e => ?_)) ?_
    · rw [e]
      rfl
    · rw [e]
      rfl
    · rintro y rfl
      exact hJ _ _ c ⟨nI_1 k, nI_add _ _⟩
/-- the best folding doesn't look at the folds -/
theorem BK.any {S : AS} {F U : Nat → Option Nat} (h : BK S kn ct bu bl) : BK (S.1, S.2.1, S.2.2.1, F, U) kn ct bu bl := h
def setF (F : Nat → Option Nat) (u v : Nat) : Nat → Option Nat := fun c => if c = u then some v else F c
theorem setF_s {F : Nat → Option Nat} {u v : Nat} : setF F u v u = some v := if_pos rfl
theorem setF_n {F : Nat → Option Nat} {u v c : Nat} (h : c ≠ u) : setF F u v c = F c := if_neg h
theorem DR_set {T : List Tm} {F : Nat → Option Nat} {u v : Nat} (hu : u < 10) (h : F u = none) (a b : Nat) : addR (DR T F) (use T u) (use T v) a b ↔ DR T (setF F u v) a b := by
  constructor
  · rintro (⟨x, y, h1, h2, h3, h4⟩ | ⟨h3, h4⟩)
    · have hne : x ≠ u := fun e => by
        rw [e, h] at h2
        cases h2
      exact ⟨x, y, h1, by rw [setF_n hne]; exact h2, h3, h4⟩
    · exact ⟨u, v, hu, setF_s, h3, h4⟩
  · rintro ⟨x, y, h1, h2, h3, h4⟩
    by_cases e : x = u
    · rw [e, setF_s] at h2
      cases h2
      rw [e] at h3
      exact Or.inr ⟨h3, h4⟩
    · rw [setF_n e] at h2
      exact Or.inl ⟨x, y, h1, h2, h3, h4⟩
theorem nF_set {F : Nat → Option Nat} {u v : Nat} (hu : u < 10) (h : F u = none) : nF (setF F u v) = nF F + 1 := by
  unfold nF
  have e := cnt_one (p := fun c => (F c).isSome) (q := fun c => (setF F u v c).isSome) (k := u) (by show (F u).isSome = false; rw [h]; rfl) (by show (setF F u v u).isSome = true; rw [setF_s]; rfl) (fun x hx => by show (setF F u v x).isSome = (F x).isSome; rw [setF_n hx]) 10
  rw [e, if_pos hu]
theorem Fok.fold {S : AS} (hF : Fok S) {u v : Nat} (hf : fitP S u v) (mu : mate S u = none) (mv : mate S v = none) (ha : Acyc (addR (DR S.2.2.1 S.2.2.2.1) (use S.2.2.1 u) (use S.2.2.1 v))) : Fok (S.1, S.2.1, S.2.2.1, setF S.2.2.2.1 u v, setF S.2.2.2.2 v u) := by
  obtain ⟨u1, u2⟩ := mate_none mu
  obtain ⟨v1, v2⟩ := mate_none mv
  have huv : u ≠ v := hf.1
  have hu : u < 10 := col10 hF.1.2.1 hF.1.2.2.2.1 hf.2.1
  refine ⟨hF.1, fun x y => ?_, fun x y e => ?_, fun t ht => ha t ((TC.congr (DR_set hu u1)).mpr ht)⟩
  · show setF S.2.2.2.1 u v x = some y ↔ setF S.2.2.2.2 v u y = some x
    by_cases ex : x = u
    · rw [ex, setF_s]
      by_cases ey : y = v
      · rw [ey, setF_s]
        exact ⟨fun _ => rfl, fun _ => rfl⟩
      · rw [setF_n ey]
        constructor
        · intro q
          cases q
          exact absurd rfl ey
        · intro q
          have := (hF.2.1 u y).mpr q
          rw [u1] at this
          cases this
    · rw [setF_n ex]
      by_cases ey : y = v
      · rw [ey, setF_s]
        constructor
        · intro q
          have := (hF.2.1 x v).mp q
          rw [v2] at this
          cases this
        · intro q
          cases q
          exact absurd rfl ex
      · rw [setF_n ey]
        exact hF.2.1 x y
  · have e : setF S.2.2.2.1 u v x = some y := e
    show fitP S x y ∧ setF S.2.2.2.1 u v y = none ∧ setF S.2.2.2.2 v u x = none
    by_cases ex : x = u
    · rw [ex, setF_s] at e
      cases e
      rw [ex]
      refine ⟨hf, ?_, ?_⟩
      · rw [setF_n huv.symm]
        exact v1
      · rw [setF_n huv]
        exact u2
    · rw [setF_n ex] at e
      obtain ⟨g1, g2, g3⟩ := hF.2.2.1 x y e
      have hyu : y ≠ u := fun q => by
        have := (hF.2.1 x y).mp e
        rw [q, u2] at this
        cases this
      have hxv : x ≠ v := fun q => by
        rw [q, v1] at e
        cases e
      refine ⟨g1, ?_, ?_⟩
      · rw [setF_n hyu]
        exact g2
      · rw [setF_n hxv]
        exact g3
theorem upd_opt {f : Nat → Int32} {F : Nat → Option Nat} {u v : Nat} (h : ∀ c, c < 10 → f c = opt (F c)) : ∀ c, c < 10 → upd f u (nI v) c = opt (setF F u v c) := by
  intro c hc
  by_cases e : c = u
  · rw [e, pk_us, setF_s]
    rfl
  · rw [pk_un e, setF_n e]
    exact h c hc
theorem m_fold {a1 a2 : Int32} {sa : Nat → Nat → Nat} {us un od : Nat → Int32} (h : Rel er inp otp tc fc on ze ou wd lo up hc sv ab tr rt kn ct bu bl d0 nw ps er2 st) : wp_X5_fold a1 a2 er inp otp tc fc on ze ou wd lo up hc sa sv ab tr rt (fun r er' fc' lo' up' hc' _ sv' ab' tr' rt' => wp_X6_fold a1 a2 nw ps er2 us un od st (fun r2 nw' ps' er2' _ _ _ st' => r = r2 ∧ Rel er' inp otp tc fc' on ze ou wd lo' up' hc' sv' ab' tr' rt' kn ct bu bl d0 nw' ps' er2' st')) := by
  have h0 := h
  obtain ⟨S, L, hF, hC, hM, hH, hB, hd, hE⟩ := h
  have hz := hF.1
  have hl := hF.len
  unfold wp_X5_fold
  rcases Classical.em (∃ k, colE S.1 S.2.1 k ∧ a1 = nI k) with ⟨u, hu, rfl⟩ | hno
  · have u10 := col10 hF.1.2.1 hF.1.2.2.2.1 hu
    refine hasCol_y hC.1.1 hC.1.2.1 hF.1 hu (b1' ?_)
    rcases Classical.em (∃ k, colE S.1 S.2.1 k ∧ a2 = nI k) with ⟨v, hv, rfl⟩ | hno
    · have v10 := col10 hF.1.2.1 hF.1.2.2.2.1 hv
      refine hasCol_y hC.1.1 hC.1.2.1 hF.1 hv (b1 ?_)
      refine sp_isPair hC.1.2.2.1 hC.1.T hF.1 u10 v10 (fun p => b1' ?_) (fun p => b0' (sp_fail (by decide) er_3 ?_))
      · have hf : fitP S u v := fit_pair.mpr ⟨hu, hv, p⟩
        refine sp_mateOf hC.1.2.2.2.2.2 hF u10 ?_
        cases mu : mate S u with
        | some m =>
          have hm := mate_lt hF mu
          refine ⟨fun _ => sp_fail (by decide) er_3 ?_, fun c => absurd c (nI_ne_m1 (k := m) (by omega))⟩
          unfold wp_X6_fold
          refine isCol_y hM hF.1 hu (b1' (isCol_y hM hF.1 hv (b1 (sp_layDemands hM hF.1 hF.low (fun us2 un2 hus hun => sp_fits hM hF.1 u10 v10 hus (fun _ => b1' (sp_isFolded hM hF u10 (fun _ _ => b1 (sp_error (by decide) er_3 ⟨rfl, h0.err 1 (by decide)⟩)) (fun c => ?_))) (fun c => absurd hf c))))))
          rw [mu] at c
          cases c
        | none =>
          refine ⟨fun c => absurd rfl c, fun _ => sp_mateOf hC.1.2.2.2.2.2 hF v10 ?_⟩
          cases mv : mate S v with
          | some m =>
            have hm := mate_lt hF mv
            refine ⟨fun c => absurd c (nI_ne_m1 (k := m) (by omega)), fun _ => sp_fail (by decide) er_3 ?_⟩
            unfold wp_X6_fold
            refine isCol_y hM hF.1 hu (b1' (isCol_y hM hF.1 hv (b1 (sp_layDemands hM hF.1 hF.low (fun us2 un2 hus hun => sp_fits hM hF.1 u10 v10 hus (fun _ => b1' (sp_isFolded hM hF u10 (fun m c => ?_) (fun _ => b0 (sp_isFolded hM hF v10 (fun _ _ => b1' (sp_error (by decide) er_3 ⟨rfl, h0.err 1 (by decide)⟩)) (fun c => ?_))))) (fun c => absurd hf c))))))
            · rw [mu] at c
              cases c
            · rw [mv] at c
              cases c
          | none =>
            refine ⟨fun _ => ?_, fun c => absurd rfl c⟩
            -- the reference, up to the rows
            have model : ∀ {K : Int32 → (Nat → Int32) → (Nat → Int32) → (Nat → Int32) → (Nat → Int32) → (Nat → Int32) → (Nat → Int32) → Int32 → Prop}, (∀ (us2 un2 un3 od2 : Nat → Int32), Acyc (addR (DR S.2.2.1 S.2.2.2.1) (use S.2.2.1 u) (use S.2.2.1 v)) → wp_X6_save nw ps st (fun (u29 : Nat → Int32) (u30 : Int32) => (vp_in ((nI 43) + nI u) 53 ∧ (vp_in ((nI 33) + nI v) 53 ∧ wp_X6_foldMany (upd (upd nw (((nI 43) + nI u).toNatClampNeg) (nI v)) (((nI 33) + nI v).toNatClampNeg) (nI u)) (fun (r33 : Int32) => K r33 (upd (upd nw (((nI 43) + nI u).toNatClampNeg) (nI v)) (((nI 33) + nI v).toNatClampNeg) (nI u)) u29 er2 us2 un3 od2 u30))))) → (∀ (us2 un3 od2 : Nat → Int32), ¬ Acyc (addR (DR S.2.2.1 S.2.2.2.1) (use S.2.2.1 u) (use S.2.2.1 v)) → wp_X6_error (-4 : Int32) er2 (fun (r36 : Int32) (u37 : Nat → Int32) => K r36 nw ps u37 us2 un3 od2 st)) → wp_X6_fold (nI u) (nI v) nw ps er2 us un od st K := by
              intro K k1 k0
              unfold wp_X6_fold
              refine isCol_y hM hF.1 hu (b1' (isCol_y hM hF.1 hv (b1 (sp_layDemands hM hF.1 hF.low (fun us2 un2 hus hun => sp_fits hM hF.1 u10 v10 hus (fun _ => b1' (sp_isFolded hM hF u10 (fun m c => ?_) (fun _ => b0 (sp_isFolded hM hF v10 (fun m c => ?_) (fun _ => b0' ?_))))) (fun c => absurd hf c))))))
              · rw [mu] at c
                cases c
              · rw [mv] at c
                cases c
              · refine sp_demand hun u10 v10 (hus u u10) (hus v v10) (use_lt _ _ hl) (use_lt _ _ hl) (fun un3 hun3 => ?_)
                refine sp_layRows hM.2.2.1 hl hun3 (fun a b q => ?_) (fun od2 f _ _ hac => b1 (k1 us2 un2 un3 od2 hac)) (fun hac od2 => b0 (k0 us2 un3 od2 hac))
                rcases q with q | ⟨q1, q2⟩
                · exact DR_low a b q
                · obtain ⟨t1, e1, _⟩ := use_bit.mp q1
                  obtain ⟨t2, e2, _⟩ := use_bit.mp q2
                  exact ⟨lt_of_get e1, lt_of_get e2⟩
            refine sp_termsOfColumn hC.1.2.2.1 hC.1.T hF.1 u10 (sp_termsOfColumn hC.1.2.2.1 hC.1.T hF.1 v10 ?_)
            refine sp_allow hC.2.1 (use_lt _ _ hl) (use_lt _ _ hl) (fun hall => b1 ?_) (fun hcy => b0 (sp_fail (by decide) er_4 ?_))
            · have hac := (acyc_add hF.2.2.2).mpr hall
              have hF2 := hF.fold hf mu mv hac
              obtain ⟨u1, u2⟩ := mate_none mu
              refine sp_push hH.1 hC.1 hl (fun hc2 sa2 sv2 hH2 => ?_)
              unfold wp_X4_join
              refine ⟨vp_in_nI u10 (by decide), vp_in_nI v10 (by decide), ?_⟩
              rw [clamp_n (k := u) (by omega), clamp_n (k := v) (by omega)]
              have hlo := upd_opt (u := u) (v := v) (fun c hc => (hC.1.2.2.2.2.2 c hc).1)
              have hup := upd_opt (u := v) (v := u) (fun c hc => (hC.1.2.2.2.2.2 c hc).2)
              refine sp_foldsChanged (S := (S.1, S.2.1, S.2.2.1, setF S.2.2.2.1 u v, setF S.2.2.2.2 v u)) hC.1.2.2.1 hC.1.T hF2 hlo (fun ab2 tr2 rt2 hab hrow => ?_)
              have efc : fc + 1 = nI (nF (setF S.2.2.2.1 u v)) := by
                rw [hC.1.2.2.2.1, nI_1, nF_set u10 u1]
              refine model (fun us2 un2 un3 od2 _ => ?_) (fun _ _ _ c => absurd hac c)
              rw [ixc (by omega), ixc (by omega)]
              have hM2 : RepM (upd (upd nw (43 + u) (nI v)) (33 + v) (nI u)) (S.1, S.2.1, S.2.2.1, setF S.2.2.2.1 u v, setF S.2.2.2.2 v u) := by
                refine ⟨?_, ?_, ?_, fun s q hq => ?_, fun c hc => ⟨?_, ?_⟩⟩
                · rw [pk_un (by omega), pk_un (by omega)]
                  exact hM.1
                · rw [pk_un (by omega), pk_un (by omega)]
                  exact hM.2.1
                · rw [pk_un (by omega), pk_un (by omega)]
                  exact hM.2.2.1
                · have hs : s < S.2.2.1.length := lt_of_get hq
                  rw [pk_un (by omega), pk_un (by omega), pk_un (by omega), pk_un (by omega), pk_un (by omega), pk_un (by omega)]
                  exact hM.2.2.2.1 s q hq
                · show _ = opt (setF S.2.2.2.1 u v c)
                  rw [pk_un (by omega)]
                  by_cases e : c = u
                  · rw [e, pk_us, setF_s]
                    rfl
                  · rw [pk_un (by omega), setF_n e]
                    exact (hM.2.2.2.2 c hc).1
                · show _ = opt (setF S.2.2.2.2 v u c)
                  by_cases e : c = v
                  · rw [e, pk_us, setF_s]
                    rfl
                  · rw [pk_un (by omega), pk_un (by omega), setF_n e]
                    exact (hM.2.2.2.2 c hc).2
              refine sp_save hH.2.2.1 hH.2.1 hM hl (fun ps2 hps => ⟨ixv (by omega) (by decide), ixv (by omega) (by decide), sp_foldMany hM2 hF2.low ⟨efc, _, push5 L S, hF2, ⟨⟨hC.1.1, hC.1.2.1, hC.1.2.2.1, efc, hC.1.T, fun c hc => ⟨hlo c hc, hup c hc⟩⟩, hab, hrow⟩, hM2, ⟨hH2, hps, rfl, push_ok hH.2.2.2 hF⟩, hB.any, hd, hE⟩⟩)
            · have hnac : ¬ Acyc (addR (DR S.2.2.1 S.2.2.2.1) (use S.2.2.1 u) (use S.2.2.1 v)) := fun c => by
                obtain ⟨l, q1, q2⟩ := hcy
                exact (acyc_add hF.2.2.2).mp c l q1 q2
              exact model (fun _ _ _ _ c => absurd c hnac) (fun us2 un3 od2 _ => sp_error (by decide) er_4 ⟨rfl, h0.err 2 (by decide)⟩)
      · unfold wp_X6_fold
        exact isCol_y hM hF.1 hu (b1' (isCol_y hM hF.1 hv (b1 (sp_layDemands hM hF.1 hF.low (fun us2 un2 hus hun => sp_fits hM hF.1 u10 v10 hus (fun c => absurd (fit_pair.mp c).2.2 p) (fun _ => b0' (sp_error (by decide) er_3 ⟨rfl, h0.err 1 (by decide)⟩)))))))
    · refine hasCol_n hC.1.1 hC.1.2.1 hF.1 hno (b0 (sp_fail (by decide) er_2 ?_))
      unfold wp_X6_fold
      exact isCol_y hM hF.1 hu (b1' (isCol_n hM hF.1 hno (b0 (sp_error (by decide) er_2 ⟨rfl, h0.err 0 (by decide)⟩))))
  · refine hasCol_n hC.1.1 hC.1.2.1 hF.1 hno (b0' (sp_fail (by decide) er_2 ?_))
    unfold wp_X6_fold
    exact isCol_n hM hF.1 hno (b0' (sp_error (by decide) er_2 ⟨rfl, h0.err 0 (by decide)⟩))
-- unfold
def delF (F : Nat → Option Nat) (u v : Nat) : Nat → Option Nat := fun c => if c = u ∨ c = v then none else F c
theorem delF_s {F : Nat → Option Nat} {u v c : Nat} (h : c = u ∨ c = v) : delF F u v c = none := if_pos h
theorem delF_n {F : Nat → Option Nat} {u v c : Nat} (h : ¬ (c = u ∨ c = v)) : delF F u v c = F c := if_neg h
theorem delF_sub {F : Nat → Option Nat} {u v c x : Nat} (h : delF F u v c = some x) : ¬ (c = u ∨ c = v) ∧ F c = some x := by
  by_cases e : c = u ∨ c = v
  · rw [delF_s e] at h
    cases h
  · rw [delF_n e] at h
    exact ⟨e, h⟩
theorem delF_symm (F : Nat → Option Nat) (u v : Nat) : delF F u v = delF F v u := by
  funext c
  by_cases e : c = u ∨ c = v
  · rw [delF_s e, delF_s e.symm]
  · rw [delF_n e, delF_n (fun q => e q.symm)]
theorem Fok.del {S : AS} (hF : Fok S) {u v : Nat} (e : S.2.2.2.1 u = some v) : Fok (S.1, S.2.1, S.2.2.1, delF S.2.2.2.1 u v, delF S.2.2.2.2 u v) := by
  have hU := (hF.2.1 u v).mp e
  obtain ⟨g1, g2, g3⟩ := hF.2.2.1 u v e
  refine ⟨hF.1, fun x y => ?_, fun x y q => ?_, fun t ht => hF.2.2.2 t (TC.mono (fun a b q => ?_) ht)⟩
  · show delF S.2.2.2.1 u v x = some y ↔ delF S.2.2.2.2 u v y = some x
    constructor
    · intro q
      obtain ⟨n, q2⟩ := delF_sub q
      have q3 := (hF.2.1 x y).mp q2
      rw [delF_n]
      · exact q3
      · rintro (rfl | rfl)
        · rw [g3] at q3
          cases q3
        · rw [hU] at q3
          cases q3
          exact n (Or.inl rfl)
    · intro q
      obtain ⟨n, q2⟩ := delF_sub q
      have q3 := (hF.2.1 x y).mpr q2
      rw [delF_n]
      · exact q3
      · rintro (rfl | rfl)
        · rw [e] at q3
          cases q3
          exact n (Or.inr rfl)
        · rw [g2] at q3
          cases q3
  · obtain ⟨n, q2⟩ := delF_sub (show delF S.2.2.2.1 u v x = some y from q)
    obtain ⟨k1, k2, k3⟩ := hF.2.2.1 x y q2
    refine ⟨k1, ?_, ?_⟩
    · show delF S.2.2.2.1 u v y = none
      by_cases c : y = u ∨ y = v
      · exact delF_s c
      · rw [delF_n c]
        exact k2
    · show delF S.2.2.2.2 u v x = none
      rw [delF_n n]
      exact k3
  · obtain ⟨x, y, k1, k2, k3⟩ := q
    exact ⟨x, y, k1, (delF_sub k2).2, k3⟩
theorem nF_del {F : Nat → Option Nat} {u v : Nat} (hu : u < 10) (h : F u = some v) (hv : F v = none) : nF F = nF (delF F u v) + 1 := by
  unfold nF
  have e := cnt_one (p := fun c => (delF F u v c).isSome) (q := fun c => (F c).isSome) (k := u) (by show (delF F u v u).isSome = false; rw [delF_s (Or.inl rfl)]; rfl) (by show (F u).isSome = true; rw [h]; rfl) (fun x hx => by
    show (F x).isSome = (delF F u v x).isSome
    by_cases e : x = v
    · rw [delF_s (Or.inr e), e, hv]
    · rw [delF_n (fun q => q.elim hx e)]) 10
  rw [e, if_pos hu]
theorem upd_del {f : Nat → Int32} {F : Nat → Option Nat} {u v : Nat} (h : ∀ c, c < 10 → f c = opt (F c)) : ∀ c, c < 10 → upd (upd f u (-1)) v (-1) c = opt (delF F u v c) := by
  intro c hc
  by_cases e : c = v
  · rw [e, pk_us, delF_s (Or.inr rfl)]
    rfl
  · rw [pk_un e]
    by_cases e2 : c = u
    · rw [e2, pk_us, delF_s (Or.inl rfl)]
      rfl
    · rw [pk_un e2, delF_n (fun q => q.elim e2 e)]
      exact h c hc
theorem m_unfold {a1 : Int32} {sa : Nat → Nat → Nat} (h : Rel er inp otp tc fc on ze ou wd lo up hc sv ab tr rt kn ct bu bl d0 nw ps er2 st) : wp_X5_unfold a1 er inp otp tc fc on ze ou wd lo up hc sa sv ab tr rt (fun r er' fc' lo' up' hc' _ sv' ab' tr' rt' => wp_X6_unfold a1 nw ps er2 st (fun r2 nw' ps' er2' st' => r = r2 ∧ Rel er' inp otp tc fc' on ze ou wd lo' up' hc' sv' ab' tr' rt' kn ct bu bl d0 nw' ps' er2' st')) := by
  have h0 := h
  obtain ⟨S, L, hF, hC, hM, hH, hB, hd, hE⟩ := h
  have hl := hF.len
  unfold wp_X5_unfold
  rcases Classical.em (∃ k, colE S.1 S.2.1 k ∧ a1 = nI k) with ⟨c, hc1, rfl⟩ | hno
  · have c10 := col10 hF.1.2.1 hF.1.2.2.2.1 hc1
    refine hasCol_y hC.1.1 hC.1.2.1 hF.1 hc1 (b1 (sp_mateOf hC.1.2.2.2.2.2 hF c10 ?_))
    cases mc : mate S c with
    | none =>
      refine ⟨fun q => absurd rfl q, fun _ => sp_fail (by decide) er_3 ?_⟩
      unfold wp_X6_unfold
      refine isCol_y hM hF.1 hc1 (b1 (sp_isFolded hM hF c10 (fun m q => ?_) (fun _ => b0 (sp_error (by decide) er_3 ⟨rfl, h0.err 1 (by decide)⟩))))
      rw [mc] at q
      cases q
    | some m =>
      have hm := mate_lt hF mc
      have hne : ¬ opt (some m) = (-1 : Int32) := nI_ne_m1 (k := m) (by omega)
      obtain ⟨u, v, e, q⟩ := mate_fold hF mc
      obtain ⟨g1, g2, g3⟩ := hF.2.2.1 u v e
      have u10 := (hF.low u v e).1
      have hcm : c ≠ m := by
        have := g1.1
        rcases q with ⟨rfl, rfl⟩ | ⟨rfl, rfl⟩
        · exact this
        · exact this.symm
      have eF : delF S.2.2.2.1 c m = delF S.2.2.2.1 u v := by
        rcases q with ⟨rfl, rfl⟩ | ⟨rfl, rfl⟩
        · rfl
        · exact delF_symm _ _ _
      have eU : delF S.2.2.2.2 c m = delF S.2.2.2.2 u v := by
        rcases q with ⟨rfl, rfl⟩ | ⟨rfl, rfl⟩
        · rfl
        · exact delF_symm _ _ _
      have hF2 : Fok (S.1, S.2.1, S.2.2.1, delF S.2.2.2.1 c m, delF S.2.2.2.2 c m) := by
        rw [eF, eU]
        exact hF.del e
      have en : nF S.2.2.2.1 = nF (delF S.2.2.2.1 c m) + 1 := by
        rw [eF]
        exact nF_del u10 e g2
      have efc : fc - 1 = nI (nF (delF S.2.2.2.1 c m)) := by
        rw [hC.1.2.2.2.1, en, nI_pred]
      refine ⟨fun _ => sp_push hH.1 hC.1 hl (fun hc2 sa2 sv2 hH2 => ?_), fun c => absurd c hne⟩
      unfold wp_X4_part
      refine sp_mateOf hC.1.2.2.2.2.2 hF c10 ?_
      rw [mc]
      have vc : vp_in (nI c) 10 := vp_in_nI c10 (by decide)
      have vm : vp_in (nI m) 10 := vp_in_nI hm (by decide)
      refine ⟨fun _ => ⟨vc, vc, vm, vm, ?_⟩, fun c => absurd c hne⟩
      have em : (opt (some m)).toNatClampNeg = m := clamp_n (k := m) (by omega)
      rw [clamp_n (k := c) (by omega), em]
      have hlo := upd_del (u := c) (v := m) (fun c hc => (hC.1.2.2.2.2.2 c hc).1)
      have hup := upd_del (u := c) (v := m) (fun c hc => (hC.1.2.2.2.2.2 c hc).2)
      refine sp_foldsChanged (S := (S.1, S.2.1, S.2.2.1, delF S.2.2.2.1 c m, delF S.2.2.2.2 c m)) hC.1.2.2.1 hC.1.T hF2 hlo (fun ab2 tr2 rt2 hab hrow => ?_)
      unfold wp_X6_unfold
      refine isCol_y hM hF.1 hc1 (b1 (sp_isFolded hM hF c10 (fun _ _ => b1 ?_) (fun q => ?_)))
      · refine sp_save hH.2.2.1 hH.2.1 hM hl (fun ps2 hps => sp_partnerOf hM hF c10 ?_)
        rw [mc]
        show wp_X6_apart (nI m) nw _
        unfold wp_X6_apart
        refine ⟨ixv (by omega) (by decide), ixv (by omega) (by decide), ixv (by omega) (by decide), ixv (by omega) (by decide), ?_⟩
        rw [ixc (a := 43) (k := m) (by omega), ixc (a := 33) (k := m) (by omega), ixc (a := 43) (k := c) (by omega), ixc (a := 33) (k := c) (by omega)]
        have hM2 : RepM (upd (upd (upd (upd nw (43 + m) (-1)) (33 + m) (-1)) (43 + c) (-1)) (33 + c) (-1)) (S.1, S.2.1, S.2.2.1, delF S.2.2.2.1 c m, delF S.2.2.2.2 c m) := by
          refine ⟨?_, ?_, ?_, fun s q hq => ?_, fun x hx => ⟨?_, ?_⟩⟩
          · rw [pk_un (by omega), pk_un (by omega), pk_un (by omega), pk_un (by omega)]
            exact hM.1
          · rw [pk_un (by omega), pk_un (by omega), pk_un (by omega), pk_un (by omega)]
            exact hM.2.1
          · rw [pk_un (by omega), pk_un (by omega), pk_un (by omega), pk_un (by omega)]
            exact hM.2.2.1
          · have hs : s < S.2.2.1.length := lt_of_get hq
            rw [pk_un (by omega), pk_un (by omega), pk_un (by omega), pk_un (by omega), pk_un (by omega), pk_un (by omega), pk_un (by omega), pk_un (by omega), pk_un (by omega), pk_un (by omega), pk_un (by omega), pk_un (by omega)]
            exact hM.2.2.2.1 s q hq
          · show _ = opt (delF S.2.2.2.1 c m x)
            rw [pk_un (by omega)]
            by_cases e1 : x = c
            · rw [e1, pk_us, delF_s (Or.inl rfl)]
              rfl
            · rw [pk_un (by omega), pk_un (by omega)]
              by_cases e2 : x = m
              · rw [e2, pk_us, delF_s (Or.inr rfl)]
                rfl
              · rw [pk_un (by omega), delF_n (fun q => q.elim e1 e2)]
                exact (hM.2.2.2.2 x hx).1
          · show _ = opt (delF S.2.2.2.2 c m x)
            by_cases e1 : x = c
            · rw [e1, pk_us, delF_s (Or.inl rfl)]
              rfl
            · rw [pk_un (by omega), pk_un (by omega)]
              by_cases e2 : x = m
              · rw [e2, pk_us, delF_s (Or.inr rfl)]
                rfl
              · rw [pk_un (by omega), pk_un (by omega), delF_n (fun q => q.elim e1 e2)]
                exact (hM.2.2.2.2 x hx).2
        exact sp_foldMany hM2 hF2.low ⟨efc, _, push5 L S, hF2, ⟨⟨hC.1.1, hC.1.2.1, hC.1.2.2.1, efc, hC.1.T, fun c hc => ⟨hlo c hc, hup c hc⟩⟩, hab, hrow⟩, hM2, ⟨hH2, hps, rfl, push_ok hH.2.2.2 hF⟩, hB.any, hd, hE⟩
      · rw [mc] at q
        cases q
  · refine hasCol_n hC.1.1 hC.1.2.1 hF.1 hno (b0 (sp_fail (by decide) er_2 ?_))
    unfold wp_X6_unfold
    exact isCol_n hM hF.1 hno (b0 (sp_error (by decide) er_2 ⟨rfl, h0.err 0 (by decide)⟩))
theorem m_partner {a1 : Int32} (h : Rel er inp otp tc fc on ze ou wd lo up hc sv ab tr rt kn ct bu bl d0 nw ps er2 st) : wp_X5_partner a1 er inp otp lo up (fun r er' => wp_X6_partner a1 nw er2 (fun r2 er2' => r = r2 ∧ Rel er' inp otp tc fc on ze ou wd lo up hc sv ab tr rt kn ct bu bl d0 nw ps er2' st)) := by
  have h0 := h
  obtain ⟨S, L, hF, hC, hM, hH, hB, hd, hE⟩ := h
  unfold wp_X5_partner
  rcases Classical.em (∃ k, colE S.1 S.2.1 k ∧ a1 = nI k) with ⟨t, ht, rfl⟩ | hno
  · have h10 := col10 hF.1.2.1 hF.1.2.2.2.1 ht
    refine hasCol_y hC.1.1 hC.1.2.1 hF.1 ht (b1 (sp_mateOf hC.1.2.2.2.2.2 hF h10 ?_))
    unfold wp_X6_partner
    exact isCol_y hM hF.1 ht (b1' (sp_partnerOf hM hF h10 ⟨rfl, h0⟩))
  · refine hasCol_n hC.1.1 hC.1.2.1 hF.1 hno (b0 (sp_fail (by decide) er_2 ?_))
    unfold wp_X6_partner
    exact isCol_n hM hF.1 hno (b0' (sp_error (by decide) er_2 ⟨rfl, h0.err 0 (by decide)⟩))
theorem m_folds (h : Rel er inp otp tc fc on ze ou wd lo up hc sv ab tr rt kn ct bu bl d0 nw ps er2 st) : wp_X5_folds fc (fun r => wp_X6_folds nw (fun r2 => r = r2 ∧ Rel er inp otp tc fc on ze ou wd lo up hc sv ab tr rt kn ct bu bl d0 nw ps er2 st)) := by
  have h0 := h
  obtain ⟨S, L, hF, hC, hM, hH, hB, hd, hE⟩ := h
  unfold wp_X5_folds wp_X6_folds
  exact sp_foldMany hM hF.low ⟨hC.1.2.2.2.1, h0⟩
theorem sp_areaNow {S : AS} {K : Int32 → Prop} (hM : RepM nw S) (hF : FLow S.2.2.2.1) (h : K (nI S.2.2.1.length * ((nI S.1 + nI S.2.1) - nI (nF S.2.2.2.1)))) : wp_X6_areaNow nw K := by
  unfold wp_X6_areaNow
  refine sp_foldMany hM hF ?_
  rw [hM.1, hM.2.1, hM.2.2.1]
  exact h
theorem m_area (h : Rel er inp otp tc fc on ze ou wd lo up hc sv ab tr rt kn ct bu bl d0 nw ps er2 st) : wp_X5_area inp otp tc fc (fun r => wp_X6_area nw (fun r2 => r = r2 ∧ Rel er inp otp tc fc on ze ou wd lo up hc sv ab tr rt kn ct bu bl d0 nw ps er2 st)) := by
  have h0 := h
  obtain ⟨S, L, hF, hC, hM, hH, hB, hd, hE⟩ := h
  unfold wp_X5_area wp_X6_area
  refine sp_areaNow hM hF.low ⟨?_, h0⟩
  rw [hC.1.1, hC.1.2.1, hC.1.2.2.1, hC.1.2.2.2.1]
end RR
