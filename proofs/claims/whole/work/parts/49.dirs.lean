-- the demands of the folds
def FLow (F : Nat → Option Nat) : Prop := ∀ u v, F u = some v → u < 10 ∧ v < 10
def DRk (T : List Tm) (F : Nat → Option Nat) (k : Nat) : Nat → Nat → Prop := fun a b => ∃ u v, u < k ∧ F u = some v ∧ (use T u).testBit a = true ∧ (use T v).testBit b = true
def DR (T : List Tm) (F : Nat → Option Nat) : Nat → Nat → Prop := DRk T F 10
theorem DRk_low {T : List Tm} {F : Nat → Option Nat} {k : Nat} (h : T.length ≤ 10) : Low (DRk T F k) := fun a b ⟨u, v, _, _, h1, h2⟩ => ⟨bit_lt (use_lt T u h) h1, bit_lt (use_lt T v h) h2⟩
theorem DRk_some {T : List Tm} {F : Nat → Option Nat} {k v : Nat} (hF : F k = some v) (a b : Nat) : addR (DRk T F k) (use T k) (use T v) a b ↔ DRk T F (k + 1) a b := by
  constructor
  · rintro (⟨u, w, h1, h2⟩ | ⟨h1, h2⟩)
    · exact ⟨u, w, by omega, h2⟩
    · exact ⟨k, v, by omega, hF, h1, h2⟩
  · rintro ⟨u, w, h1, h2, h3, h4⟩
    by_cases e : u = k
    · subst e
      rw [hF] at h2
      cases h2
      exact Or.inr ⟨h3, h4⟩
    · exact Or.inl ⟨u, w, by omega, h2, h3, h4⟩
theorem DRk_none {T : List Tm} {F : Nat → Option Nat} {k : Nat} (hF : F k = none) (a b : Nat) : DRk T F k a b ↔ DRk T F (k + 1) a b := by
  constructor
  · rintro ⟨u, w, h1, h2⟩
    exact ⟨u, w, by omega, h2⟩
  · rintro ⟨u, w, h1, h2, h3⟩
    by_cases e : u = k
    · subst e
      rw [hF] at h2
      cases h2
    · exact ⟨u, w, by omega, h2, h3⟩
theorem opt_br {x : Option Nat} {A B : Prop} (hx : ∀ v, x = some v → v < 2 ^ 31) (f : x = none → A) (g : ∀ v, x = some v → B) : (opt x = (-1 : Int32) → A) ∧ (¬ opt x = (-1 : Int32) → B) := by
  cases hv : x with
  | none => exact ⟨fun _ => f hv, fun c => absurd rfl c⟩
  | some v => exact ⟨fun c => absurd c (nI_ne_m1 (hx v hv)), fun _ => g v hv⟩
theorem sp_clear {ab : Nat → Int32} {K : (Nat → Int32) → Prop} (h : ∀ ab2, (∀ t, t < 10 → ab2 t = 0) → K ab2) : wp_X1_clear ab K := by
  unfold wp_X1_clear
  exact sp_fill (fun g hg => h g hg)
theorem Clo_zero {ab : Nat → Int32} {R : Nat → Nat → Prop} (h : ∀ t, t < 10 → ab t = 0) (hR : ∀ a b, ¬ R a b) : Clo ab R := fun t ht => ⟨0, by decide, h t ht, fun a => by
  rw [Nat.zero_testBit]
  constructor
  · intro q
    exact absurd q (by decide)
  · intro q
    obtain ⟨c, hc, -⟩ := q.last
    exact absurd hc (hR c t)⟩
theorem sp_collect {ab : Nat → Int32} {tc : Int32} {on ze ou lo : Nat → Int32} {wd : Nat → Int64} {S : AS} {K : (Nat → Int32) → Prop} (htc : tc = nI S.2.2.1.length) (hR : RepT on ze ou wd S.1 S.2.2.1) (hz : Size S) (hF : FLow S.2.2.2.1) (hlo : ∀ c, c < 10 → lo c = opt (S.2.2.2.1 c)) (h : ∀ ab2, Clo ab2 (DR S.2.2.1 S.2.2.2.1) → K ab2) : wp_X1_collect ab tc on ze ou lo K := by
  have hn : S.2.2.1.length ≤ 10 := hz.2.2.2.2.1
  unfold wp_X1_collect
  refine sp_clear (fun ab2 h2 => ?_)
  refine Lp2.up 10 (fun k x z => x = nI k ∧ Clo z (DRk S.2.2.1 S.2.2.2.1 k)) 0 (by omega) ⟨rfl, Clo_zero h2 (fun a b ⟨u, v, q, _⟩ => by omega)⟩ ?_
  rintro k x z J hk ⟨rfl, hc⟩ hJ
  refine le_br (by decide) (by omega) (fun c => ?_) (fun c => ⟨vp_in_nI c (by decide), ?_⟩)
  · rw [show k = 10 by omega] at hc
    exact h z hc
  · rw [nI_clamp (by omega), hlo k c]
    refine opt_br (fun v hv => by have := (hF k v hv).2; omega) (fun e => ?_) (fun v e => ?_)
    · exact hJ _ _ c ⟨nI_1 k, hc.congr (DRk_none e)⟩
    · have hv := (hF k v e).2
      rw [e]
      refine sp_termsOfColumn htc hR hz c (sp_termsOfColumn htc hR hz hv (sp_add hc (DRk_low hn) (use_lt _ _ hn) (use_lt _ _ hn) (fun ab3 h3 => ?_)))
      exact hJ _ _ c ⟨nI_1 k, h3.congr (DRk_some e)⟩
/-- the reference's direct demands -/
def Dir (un : Nat → Int32) (R : Nat → Nat → Prop) : Prop := ∀ t, t < 10 → ∃ m, m < 2 ^ 10 ∧ un t = nI m ∧ ∀ b, m.testBit b = true ↔ R t b
theorem Dir.congr {un : Nat → Int32} {R Q : Nat → Nat → Prop} (h : Dir un R) (hm : ∀ a b, R a b ↔ Q a b) : Dir un Q := fun t ht => by
  obtain ⟨m, h1, h2, h3⟩ := h t ht
  exact ⟨m, h1, h2, fun a => (h3 a).trans (hm t a)⟩
theorem sp_noDemands {un : Nat → Int32} {R : Nat → Nat → Prop} {K : (Nat → Int32) → Prop} (hR : ∀ a b, ¬ R a b) (h : ∀ un2, Dir un2 R → K un2) : wp_X6_noDemands un K := by
  unfold wp_X6_noDemands
  refine Lp2.up 10 (fun k x z => x = nI k ∧ ∀ t, t < k → z t = 0) 0 (by omega) ⟨rfl, fun t ht => by omega⟩ ?_
  rintro k x z J hk ⟨rfl, hs⟩ hJ
  refine le_br (by decide) (by omega) (fun c => h z (fun t ht => ⟨0, by decide, hs t (by omega), fun b => ?_⟩)) (fun c => ⟨vp_in_nI c (by decide), hJ _ _ c ⟨nI_1 k, fun t ht => ?_⟩⟩)
  · rw [Nat.zero_testBit]
    exact ⟨fun q => absurd q (by decide), fun q => absurd q (hR t b)⟩
  · rw [nI_clamp (by omega)]
    by_cases e : t = k
    · rw [e, pk_us]
    · rw [pk_un e]
      exact hs t (by omega)
theorem sp_demand {us un : Nat → Int32} {R : Nat → Nat → Prop} {u v U L : Nat} {K : (Nat → Int32) → Prop} (hD : Dir un R) (hu : u < 10) (hv : v < 10) (eu : us u = nI U) (ev : us v = nI L) (hU : U < 2 ^ 10) (hL : L < 2 ^ 10) (h : ∀ un2, Dir un2 (addR R U L) → K un2) : wp_X6_demand (nI u) (nI v) us un K := by
  unfold wp_X6_demand
  rw [clamp_n (k := u) (by omega), clamp_n (k := v) (by omega), eu, ev]
  refine Lp2.up 10 (fun k x z => x = nI k ∧ (∀ t, k ≤ t → t < 10 → z t = un t) ∧ ∀ t, t < k → ∃ m, m < 2 ^ 10 ∧ z t = nI m ∧ ∀ b, m.testBit b = true ↔ addR R U L t b) 0 (by omega) ⟨rfl, fun t _ _ => rfl, fun t ht => by omega⟩ ?_
  rintro k x z J hk ⟨rfl, hz1, hz2⟩ hJ
  refine le_br (by decide) (by omega) (fun c => h z (fun t ht => hz2 t (by omega))) (fun c => ?_)
  obtain ⟨m2, hm2, e2, hb2⟩ := hD k c
  have ez : z k = nI m2 := (hz1 k (Nat.le_refl _) c).trans e2
  have v1 : vp_in (nI k) 10 := vp_in_nI c (by decide)
  have vu : vp_in (nI u) 10 := vp_in_nI hu (by decide)
  have vv : vp_in (nI v) 10 := vp_in_nI hv (by decide)
  have fin : ∀ m : Nat, m < 2 ^ 10 → (∀ b, m.testBit b = true ↔ (U.testBit k = true ∧ L.testBit b = true)) → J (nI k + 1) (upd z k (nI m2 ||| nI m)) := by
    intro m hm hb
    refine hJ _ _ c ⟨nI_1 k, fun t h1 h2 => ?_, fun t ht => ?_⟩
    · rw [pk_un (by omega)]
      exact hz1 t (by omega) h2
    · by_cases e : t = k
      · subst e
        rw [pk_us, nI_or]
        refine ⟨m2 ||| m, Nat.or_lt_two_pow hm2 hm, rfl, fun b => ?_⟩
        rw [Nat.testBit_or, Bool.or_eq_true, hb2, hb]
        exact Iff.rfl
      · rw [pk_un e]
        exact hz2 t (by omega)
  rw [nI_clamp (by omega), ez]
  refine ⟨v1, vu, sp_has (by omega) (by omega) (fun b => ?_) (fun b => ?_)⟩
  · refine Jn1.to (fun y => y = nI L) ⟨fun z => absurd z (by decide), fun _ => ⟨vv, rfl⟩⟩ ?_
    rintro y rfl
    exact ⟨v1, fin L hL (fun b2 => ⟨fun q => ⟨b, q⟩, fun q => q.2⟩)⟩
  · refine Jn1.to (fun y => y = nI 0) ⟨fun _ => rfl, fun z => absurd rfl z⟩ ?_
    rintro y rfl
    refine ⟨v1, fin 0 (by decide) (fun b2 => ?_)⟩
    rw [Nat.zero_testBit, b]
    exact ⟨fun q => absurd q (by decide), fun q => absurd q.1 (by decide)⟩
theorem sp_layDemands {nw us un : Nat → Int32} {S : AS} {K : (Nat → Int32) → (Nat → Int32) → Prop} (hR : RepM nw S) (hz : Size S) (hF : FLow S.2.2.2.1) (h : ∀ us2 un2, (∀ c, c < 10 → us2 c = nI (use S.2.2.1 c)) → Dir un2 (DR S.2.2.1 S.2.2.2.1) → K us2 un2) : wp_X6_layDemands nw us un K := by
  have hn : S.2.2.1.length ≤ 10 := hz.2.2.2.2.1
  unfold wp_X6_layDemands
  refine sp_layUsed hR hz (fun us2 hu => ?_)
  refine sp_noDemands (R := DRk S.2.2.1 S.2.2.2.1 0) (fun a b ⟨u, v, q, _⟩ => by omega) (fun un2 hd => ?_)
  refine Lp2.up 10 (fun k x z => x = nI k ∧ Dir z (DRk S.2.2.1 S.2.2.2.1 k)) 0 (by omega) ⟨rfl, hd⟩ ?_
  rintro k x z J hk ⟨rfl, hc⟩ hJ
  refine le_br (by decide) (by omega) (fun c => ?_) (fun c => ?_)
  · rw [show k = 10 by omega] at hc
    exact h us2 z hu hc
  · have v1 : vp_in (nI 43 + nI k) 53 := ixv (by omega) (by decide)
    rw [ixc (by omega), (hR.2.2.2.2 k c).1]
    refine ⟨v1, opt_br (fun v hv => by have := (hF k v hv).2; omega) (fun e => ?_) (fun v e => ⟨v1, ?_⟩)⟩
    · exact hJ _ _ c ⟨nI_1 k, hc.congr (DRk_none e)⟩
    · have hv := (hF k v e).2
      rw [e]
      refine sp_demand hc c hv (hu k c) (hu v hv) (use_lt _ _ hn) (use_lt _ _ hn) (fun un3 h3 => ?_)
      exact hJ _ _ c ⟨nI_1 k, h3.congr (DRk_some e)⟩
