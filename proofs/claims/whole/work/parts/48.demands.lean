-- what must lie above what: the closure of a relation, kept as bits
def TC (R : Nat → Nat → Prop) (a b : Nat) : Prop := ∀ P : Nat → Prop, (∀ x, R a x → P x) → (∀ x y, P x → R x y → P y) → P b
theorem TC.one {R : Nat → Nat → Prop} {a b : Nat} (h : R a b) : TC R a b := fun P h1 h2 => h1 b h
theorem TC.step {R : Nat → Nat → Prop} {a b c : Nat} (h : TC R a b) (g : R b c) : TC R a c := fun P h1 h2 => h2 b c (h P h1 h2) g
theorem TC.trans {R : Nat → Nat → Prop} {a b c : Nat} (h : TC R a b) (g : TC R b c) : TC R a c := g (TC R a) (fun _ r => h.step r) (fun _ _ p r => p.step r)
theorem TC.mono {R Q : Nat → Nat → Prop} (hm : ∀ a b, R a b → Q a b) {a b : Nat} (h : TC R a b) : TC Q a b := h (TC Q a) (fun _ r => TC.one (hm _ _ r)) (fun _ _ p r => p.step (hm _ _ r))
theorem TC.congr {R Q : Nat → Nat → Prop} (hm : ∀ a b, R a b ↔ Q a b) {a b : Nat} : TC R a b ↔ TC Q a b := ⟨TC.mono (fun a b => (hm a b).mp), TC.mono (fun a b => (hm a b).mpr)⟩
/-- the last step of a way -/
theorem TC.last {R : Nat → Nat → Prop} {a b : Nat} (h : TC R a b) : ∃ c, R c b ∧ (c = a ∨ TC R a c) := h (fun b => ∃ c, R c b ∧ (c = a ∨ TC R a c)) (fun x r => ⟨a, r, Or.inl rfl⟩) (fun x y ⟨c, h1, h2⟩ r => ⟨x, r, Or.inr (by
  rcases h2 with rfl | h2
  · exact TC.one h1
  · exact h2.step h1)⟩)
def addR (R : Nat → Nat → Prop) (U L : Nat) : Nat → Nat → Prop := fun a b => R a b ∨ (U.testBit a = true ∧ L.testBit b = true)
/-- at or above a term of U -/
def upR (R : Nat → Nat → Prop) (U a : Nat) : Prop := U.testBit a = true ∨ ∃ u, U.testBit u = true ∧ TC R a u
def dnR (R : Nat → Nat → Prop) (L b : Nat) : Prop := L.testBit b = true ∨ ∃ l, L.testBit l = true ∧ TC R l b
theorem tc_add {R : Nat → Nat → Prop} {U L a t : Nat} : TC (addR R U L) a t ↔ TC R a t ∨ (upR R U a ∧ dnR R L t) := by
  constructor
  · intro h
    refine h (fun t => TC R a t ∨ (upR R U a ∧ dnR R L t)) (fun x r => ?_) (fun x y p r => ?_)
    · rcases r with r | ⟨r1, r2⟩
      · exact Or.inl (TC.one r)
      · exact Or.inr ⟨Or.inl r1, Or.inl r2⟩
    · rcases r with r | ⟨r1, r2⟩
      · rcases p with p | ⟨p1, p2⟩
        · exact Or.inl (p.step r)
        · refine Or.inr ⟨p1, Or.inr ?_⟩
          rcases p2 with p2 | ⟨l, p2, p3⟩
          · exact ⟨x, p2, TC.one r⟩
          · exact ⟨l, p2, p3.step r⟩
      · rcases p with p | ⟨p1, p2⟩
        · exact Or.inr ⟨Or.inr ⟨x, r1, p⟩, Or.inl r2⟩
        · exact Or.inr ⟨p1, Or.inl r2⟩
  · have up : ∀ {x y}, TC R x y → TC (addR R U L) x y := fun h => h.mono (fun _ _ r => Or.inl r)
    rintro (h | ⟨h1, h2⟩)
    · exact up h
    · have one : ∀ {u l}, U.testBit u = true → L.testBit l = true → TC (addR R U L) u l := fun a b => TC.one (Or.inr ⟨a, b⟩)
      rcases h1 with h1 | ⟨u, h1, h3⟩ <;> rcases h2 with h2 | ⟨l, h2, h4⟩
      · exact one h1 h2
      · exact (one h1 h2).trans (up h4)
      · exact (up h3).trans (one h1 h2)
      · exact ((up h3).trans (one h1 h2)).trans (up h4)
/-- the relation is between terms below 10 -/
def Low (R : Nat → Nat → Prop) : Prop := ∀ a b, R a b → a < 10 ∧ b < 10
theorem TC.low {R : Nat → Nat → Prop} (hl : Low R) {a b : Nat} (h : TC R a b) : a < 10 ∧ b < 10 := h (fun b => a < 10 ∧ b < 10) (fun x r => hl a x r) (fun x y p r => ⟨p.1, (hl x y r).2⟩)
/-- the bits of ab are the closure of R -/
def Clo (ab : Nat → Int32) (R : Nat → Nat → Prop) : Prop := ∀ t, t < 10 → ∃ m, m < 2 ^ 10 ∧ ab t = nI m ∧ ∀ a, m.testBit a = true ↔ TC R a t
theorem Clo.congr {ab : Nat → Int32} {R Q : Nat → Nat → Prop} (h : Clo ab R) (hm : ∀ a b, R a b ↔ Q a b) : Clo ab Q := fun t ht => by
  obtain ⟨m, h1, h2, h3⟩ := h t ht
  exact ⟨m, h1, h2, fun a => (h3 a).trans (TC.congr hm)⟩
theorem bit_lt {m k n : Nat} (h : m < 2 ^ n) (hb : m.testBit k = true) : k < n := by
  rcases Nat.lt_or_ge k n with c | c
  · exact c
  · rw [Nat.testBit_lt_two_pow (Nat.lt_of_lt_of_le h (Nat.pow_le_pow_right (by decide) c))] at hb
    exact absurd hb (by decide)
theorem sp_withAllAbove {ab : Nat → Int32} {R : Nat → Nat → Prop} {U : Nat} {K : Int32 → Prop} (hC : Clo ab R) (hU : U < 2 ^ 10) (h : ∀ m, m < 2 ^ 10 → (∀ a, m.testBit a = true ↔ upR R U a) → K (nI m)) : wp_X1_withAllAbove (nI U) ab K := by
  unfold wp_X1_withAllAbove
  refine Lp2.up 10 (fun k r y => y = nI k ∧ ∃ m, m < 2 ^ 10 ∧ r = nI m ∧ ∀ a, m.testBit a = true ↔ (U.testBit a = true ∨ ∃ u, u < k ∧ U.testBit u = true ∧ TC R a u)) 0 (by omega) ⟨rfl, U, hU, rfl, fun a => ⟨Or.inl, fun q => q.elim id (fun ⟨u, q, _⟩ => by omega)⟩⟩ ?_
  rintro k r y J hk ⟨rfl, m, hm, rfl, hb⟩ hJ
  refine le_br (by decide) (by omega) (fun c => ?_) (fun c => ?_)
  · refine h m hm (fun a => (hb a).trans ?_)
    unfold upR
    constructor
    · rintro (q | ⟨u, -, q⟩)
      · exact Or.inl q
      · exact Or.inr ⟨u, q⟩
    · rintro (q | ⟨u, q1, q2⟩)
      · exact Or.inl q
      · exact Or.inr ⟨u, by have := bit_lt hU q1; omega, q1, q2⟩
  · refine sp_contains (by omega) (by omega) (fun b => ?_) (fun b => ?_)
    · refine ⟨fun z => absurd z (by decide), fun _ => ⟨vp_in_nI c (by decide), ?_⟩⟩
      obtain ⟨m2, hm2, e2, hb2⟩ := hC k c
      rw [nI_clamp (by omega), e2, nI_or]
      refine hJ _ _ c ⟨nI_1 k, m ||| m2, Nat.or_lt_two_pow hm hm2, rfl, fun a => ?_⟩
      rw [Nat.testBit_or, Bool.or_eq_true, hb, hb2]
      constructor
      · rintro ((q | ⟨u, q⟩) | q)
        · exact Or.inl q
        · exact Or.inr ⟨u, by omega, q.2⟩
        · exact Or.inr ⟨k, by omega, b, q⟩
      · rintro (q | ⟨u, q1, q2, q3⟩)
        · exact Or.inl (Or.inl q)
        · by_cases e : u = k
          · subst e
            exact Or.inr q3
          · exact Or.inl (Or.inr ⟨u, by omega, q2, q3⟩)
    · refine ⟨fun _ => hJ _ _ c ⟨nI_1 k, m, hm, rfl, fun a => (hb a).trans ?_⟩, fun z => absurd rfl z⟩
      constructor
      · rintro (q | ⟨u, q⟩)
        · exact Or.inl q
        · exact Or.inr ⟨u, by omega, q.2⟩
      · rintro (q | ⟨u, q1, q2, q3⟩)
        · exact Or.inl q
        · refine Or.inr ⟨u, ?_, q2, q3⟩
          rcases Nat.lt_or_ge u k with d | d
          · exact d
          · rw [show u = k by omega, b] at q2
            exact absurd q2 (by decide)
theorem sp_allow {ab : Nat → Int32} {R : Nat → Nat → Prop} {U L : Nat} {K : Int32 → Prop} (hC : Clo ab R) (hU : U < 2 ^ 10) (hL : L < 2 ^ 10) (h1 : (∀ l, L.testBit l = true → ¬ upR R U l) → K 1) (h0 : (∃ l, L.testBit l = true ∧ upR R U l) → K 0) : wp_X1_allow (nI U) (nI L) ab K := by
  unfold wp_X1_allow
  refine sp_withAllAbove hC hU (fun m hm hb => ?_)
  rw [nI_and]
  have hlt : m &&& L < 2 ^ 31 := Nat.lt_of_le_of_lt Nat.and_le_left (by omega)
  refine ne_br (b := 0) hlt (by decide) (fun e => ?_) (fun e => ?_)
  · obtain ⟨l, hl⟩ := Nat.exists_testBit_of_ne_zero e
    rw [Nat.testBit_and, Bool.and_eq_true] at hl
    exact h0 ⟨l, hl.2, (hb l).mp hl.1⟩
  · exact h1 (fun l hl hu => and0.mp e l ⟨(hb l).mpr hu, hl⟩)
theorem sp_add {ab : Nat → Int32} {R : Nat → Nat → Prop} {U L : Nat} {K : (Nat → Int32) → Prop} (hC : Clo ab R) (hl : Low R) (hU : U < 2 ^ 10) (hL : L < 2 ^ 10) (h : ∀ ab2, Clo ab2 (addR R U L) → K ab2) : wp_X1_add (nI U) (nI L) ab K := by
  unfold wp_X1_add
  refine sp_withAllAbove hC hU (fun m hm hb => ?_)
  refine Lp2.up 10 (fun k x z => x = nI k ∧ (∀ t, k ≤ t → t < 10 → z t = ab t) ∧ ∀ t, t < k → ∃ m, m < 2 ^ 10 ∧ z t = nI m ∧ ∀ a, m.testBit a = true ↔ TC (addR R U L) a t) 0 (by omega) ⟨rfl, fun t _ _ => rfl, fun t ht => by omega⟩ ?_
  rintro k x z J hk ⟨rfl, hz1, hz2⟩ hJ
  refine le_br (by decide) (by omega) (fun c => h z (fun t ht => hz2 t (by omega))) (fun c => ?_)
  obtain ⟨m2, hm2, e2, hb2⟩ := hC k c
  have ez : z k = nI m2 := (hz1 k (Nat.le_refl _) c).trans e2
  have v1 : vp_in (nI k) 10 := vp_in_nI c (by decide)
  rw [nI_clamp (by omega), ez]
  have yes : dnR R L k → J (nI k + 1) (upd z k (nI m2 ||| nI m)) := by
    intro hd
    refine hJ _ _ c ⟨nI_1 k, fun t h1 h2 => ?_, fun t ht => ?_⟩
    · rw [pk_un (by omega)]
      exact hz1 t (by omega) h2
    · by_cases e : t = k
      · subst e
        rw [pk_us, nI_or]
        refine ⟨m2 ||| m, Nat.or_lt_two_pow hm2 hm, rfl, fun a => ?_⟩
        rw [Nat.testBit_or, Bool.or_eq_true, hb2, hb, tc_add]
        constructor
        · rintro (q | q)
          · exact Or.inl q
          · exact Or.inr ⟨q, hd⟩
        · rintro (q | q)
          · exact Or.inl q
          · exact Or.inr q.1
      · rw [pk_un e]
        exact hz2 t (by omega)
  have no : ¬ dnR R L k → J (nI k + 1) z := by
    intro hd
    refine hJ _ _ c ⟨nI_1 k, fun t h1 h2 => hz1 t (by omega) h2, fun t ht => ?_⟩
    by_cases e : t = k
    · subst e
      refine ⟨m2, hm2, ez, fun a => ?_⟩
      rw [hb2, tc_add]
      constructor
      · exact Or.inl
      · rintro (q | q)
        · exact q
        · exact absurd q.2 hd
    · exact hz2 t (by omega)
  refine sp_contains (by omega) (by omega) (fun b => ?_) (fun b => ?_)
  · exact ⟨fun _ => ⟨v1, v1, yes (Or.inl b)⟩, fun z => absurd z (by decide)⟩
  · refine ⟨fun z => absurd rfl z, fun _ => ⟨v1, ?_⟩⟩
    rw [nI_and]
    have hlt : m2 &&& L < 2 ^ 31 := Nat.lt_of_le_of_lt Nat.and_le_left (by omega)
    refine eq_br (b := 0) hlt (by decide) (fun e => no ?_) (fun e => ⟨v1, v1, yes ?_⟩)
    · rintro (q | ⟨l, q1, q2⟩)
      · rw [b] at q
        exact absurd q (by decide)
      · exact and0.mp e l ⟨(hb2 l).mpr q2, q1⟩
    · obtain ⟨l, hl2⟩ := Nat.exists_testBit_of_ne_zero e
      rw [Nat.testBit_and, Bool.and_eq_true] at hl2
      exact Or.inr ⟨l, hl2.2, (hb2 l).mp hl2.1⟩
