-- the relation of the class's state and the reference's
theorem b1 {A B : Prop} (h : A) : (¬ (1 : Int32) = 0 → A) ∧ ((1 : Int32) = 0 → B) := ⟨fun _ => h, fun c => absurd c (by decide)⟩
theorem b1' {A B : Prop} (h : B) : ((1 : Int32) = 0 → A) ∧ (¬ (1 : Int32) = 0 → B) := ⟨fun c => absurd c (by decide), fun _ => h⟩
theorem b0 {A B : Prop} (h : B) : (¬ (0 : Int32) = 0 → A) ∧ ((0 : Int32) = 0 → B) := ⟨fun c => absurd rfl c, fun _ => h⟩
theorem b0' {A B : Prop} (h : A) : ((0 : Int32) = 0 → A) ∧ (¬ (0 : Int32) = 0 → B) := ⟨fun _ => h, fun c => absurd rfl c⟩
theorem er_2 : (-2 : Int32) - (-2) = nI 0 := by decide +kernel
theorem er_3 : (-2 : Int32) - (-3) = nI 1 := by decide +kernel
theorem er_4 : (-2 : Int32) - (-4) = nI 2 := by decide +kernel
theorem er_5 : (-2 : Int32) - (-5) = nI 3 := by decide +kernel
theorem er_6 : (-2 : Int32) - (-6) = nI 4 := by decide +kernel
theorem sp_fail {c : Int32} {j : Nat} {er : Nat → Int32} {K : Int32 → (Nat → Int32) → Prop} (hj : j < 5) (hc : (-2 : Int32) - c = nI j) (h : K c (upd er j (er j + 1))) : wp_X5_fail c er K := by
  unfold wp_X5_fail
  rw [hc, nI_clamp (by omega)]
  exact ⟨vp_in_nI hj (by decide), vp_in_nI hj (by decide), h⟩
theorem acyc_none {R : Nat → Nat → Prop} (h : ∀ a b, ¬ R a b) : Acyc R := fun t q => by
  obtain ⟨c, hc, -⟩ := q.last
  exact h c t hc
theorem nof_some {v : Nat} (e : (none : Option Nat) = some v) : False := by cases e
theorem DR_low {T : List Tm} {F : Nat → Option Nat} (a b : Nat) (h : DR T F a b) : a < T.length ∧ b < T.length := by
  obtain ⟨u, v, _, _, h1, h2⟩ := h
  obtain ⟨q, hq, _⟩ := use_bit.mp h1
  obtain ⟨q2, hq2, _⟩ := use_bit.mp h2
  exact ⟨lt_of_get hq, lt_of_get hq2⟩
/-- a picture whose folds are in order -/
def Fok (S : AS) : Prop := Size S ∧ (∀ u v, S.2.2.2.1 u = some v ↔ S.2.2.2.2 v = some u) ∧ (∀ u v, S.2.2.2.1 u = some v → fitP S u v ∧ S.2.2.2.1 v = none ∧ S.2.2.2.2 u = none) ∧ Acyc (DR S.2.2.1 S.2.2.2.1)
theorem Fok.low {S : AS} (h : Fok S) : FLow S.2.2.2.1 := fun u v e => by
  have f := (h.2.2.1 u v e).1
  exact ⟨col10 h.1.2.1 h.1.2.2.2.1 f.2.1, col10 h.1.2.1 h.1.2.2.2.1 f.2.2.1⟩
theorem Fok.lowU {S : AS} (h : Fok S) : FLow S.2.2.2.2 := fun u v e => by
  have f := h.low v u ((h.2.1 v u).mpr e)
  exact ⟨f.2, f.1⟩
theorem Fok.len {S : AS} (h : Fok S) : S.2.2.1.length ≤ 10 := h.1.2.2.2.2.1
theorem Fok.empty {i o : Nat} {T : List Tm} (hz : Size (i, o, T, nof, nof)) : Fok (i, o, T, nof, nof) := ⟨hz, fun u v => ⟨fun e => (nof_some e).elim, fun e => (nof_some e).elim⟩, fun u v e => (nof_some e).elim, acyc_none (fun a b ⟨u, v, _, e, _⟩ => nof_some e)⟩
def ErE (er er2 : Nat → Int32) : Prop := ∀ j, j < 5 → er j = er2 j
theorem ErE.bump {er er2 : Nat → Int32} (h : ErE er er2) {j : Nat} (hj : j < 5) : ErE (upd er j (er j + 1)) (upd er2 j (er2 j + 1)) := fun k hk => by
  by_cases e : k = j
  · rw [e, pk_us, pk_us, h j hj]
  · rw [pk_un e, pk_un e, h k hk]
def BK (S : AS) (kn ct : Int32) (bu bl : Nat → Int32) : Prop := kn = 0 ∨ (kn = 1 ∧ ∃ C B, BestF S C B ∧ Bst C B ct bu bl)
def CR (inp otp tc fc : Int32) (on ze ou : Nat → Int32) (wd : Nat → Int64) (lo up ab tr rt : Nat → Int32) (S : AS) : Prop := RepC inp otp tc fc on ze ou wd lo up S ∧ Clo ab (DR S.2.2.1 S.2.2.2.1) ∧ RowC tr rt S.2.2.1.length (DR S.2.2.1 S.2.2.2.1)
def HR (hc : Int32) (sv : Nat → SS) (ps : Nat → Int32) (st : Int32) (L : List AS) : Prop := RepHC hc sv L ∧ RepH ps L ∧ st = nI L.length ∧ ∀ Q, Q ∈ L → Fok Q
def Rel (er : Nat → Int32) (inp otp tc fc : Int32) (on ze ou : Nat → Int32) (wd : Nat → Int64) (lo up : Nat → Int32) (hc : Int32) (sv : Nat → SS) (ab tr rt : Nat → Int32) (kn ct : Int32) (bu bl d0 : Nat → Int32) (nw ps er2 : Nat → Int32) (st : Int32) : Prop :=
  ∃ (S : AS) (L : List AS), Fok S ∧ CR inp otp tc fc on ze ou wd lo up ab tr rt S ∧ RepM nw S ∧ HR hc sv ps st L ∧ BK S kn ct bu bl ∧ (∀ t, t < 10 → d0 t = 0) ∧ ErE er er2
section RR
variable {er : Nat → Int32} {inp otp tc fc : Int32} {on ze ou : Nat → Int32} {wd : Nat → Int64} {lo up : Nat → Int32} {hc : Int32} {sv : Nat → SS} {ab tr rt : Nat → Int32} {kn ct : Int32} {bu bl d0 : Nat → Int32} {nw ps er2 : Nat → Int32} {st : Int32}
theorem Rel.err (h : Rel er inp otp tc fc on ze ou wd lo up hc sv ab tr rt kn ct bu bl d0 nw ps er2 st) (j : Nat) (hj : j < 5) : Rel (upd er j (er j + 1)) inp otp tc fc on ze ou wd lo up hc sv ab tr rt kn ct bu bl d0 nw ps (upd er2 j (er2 j + 1)) st := by
  obtain ⟨S, L, h1, h2, h3, h4, h5, h6, h7⟩ := h
  exact ⟨S, L, h1, h2, h3, h4, h5, h6, h7.bump hj⟩
end RR
theorem mem_tail' {Q : AS} : ∀ {L : List AS}, Q ∈ L.tail → Q ∈ L
  | [], h => h
  | a :: t, h => List.mem_cons_of_mem a h
theorem push_ok {L : List AS} {S : AS} (h : ∀ Q, Q ∈ L → Fok Q) (hS : Fok S) : ∀ Q, Q ∈ push5 L S → Fok Q := by
  intro Q hQ
  unfold push5 at hQ
  rw [List.mem_append] at hQ
  rcases hQ with hQ | hQ
  · by_cases e : L.length = 5
    · rw [if_pos e] at hQ
      exact h Q (mem_tail' hQ)
    · rw [if_neg e] at hQ
      exact h Q hQ
  · rw [List.mem_singleton] at hQ
    rw [hQ]
    exact hS
theorem list_end : ∀ L : List AS, L = [] ∨ ∃ L2 b, L = L2 ++ [b]
  | [] => Or.inl rfl
  | a :: t => by
    rcases list_end t with e | ⟨L2, b, e⟩
    · exact Or.inr ⟨[], a, by rw [e]; rfl⟩
    · exact Or.inr ⟨a :: L2, b, by rw [e]; rfl⟩
theorem RepC.T {inp otp tc fc : Int32} {on ze ou : Nat → Int32} {wd : Nat → Int64} {lo up : Nat → Int32} {S : AS} (h : RepC inp otp tc fc on ze ou wd lo up S) : RepT on ze ou wd S.1 S.2.2.1 := h.2.2.2.2.1
theorem RepC.ow {inp otp tc fc : Int32} {on ze ou : Nat → Int32} {wd : Nat → Int64} {lo up : Nat → Int32} {S : AS} (h : RepC inp otp tc fc on ze ou wd lo up S) : ∀ s q, S.2.2.1[s]? = some q → ou s = nI q.2.2 ∧ wd s = tt S.1 q := fun s q hq => ⟨(h.2.2.2.2.1 s q hq).2.2.1, (h.2.2.2.2.1 s q hq).2.2.2⟩
theorem sp_foldsChanged {tc : Int32} {on ze ou : Nat → Int32} {wd : Nat → Int64} {lo ab tr rt : Nat → Int32} {S : AS} {K : (Nat → Int32) → (Nat → Int32) → (Nat → Int32) → Prop} (htc : tc = nI S.2.2.1.length) (hR : RepT on ze ou wd S.1 S.2.2.1) (hF : Fok S) (hlo : ∀ c, c < 10 → lo c = opt (S.2.2.2.1 c)) (h : ∀ ab2 tr2 rt2, Clo ab2 (DR S.2.2.1 S.2.2.2.1) → RowC tr2 rt2 S.2.2.1.length (DR S.2.2.1 S.2.2.2.1) → K ab2 tr2 rt2) : wp_X5_foldsChanged tc on ze ou lo ab tr rt K := by
  unfold wp_X5_foldsChanged
  refine sp_collect htc hR hF.1 hF.low hlo (fun ab2 hab => ?_)
  subst htc
  exact sp_build hF.len DR_low hF.2.2.2 hab (fun tr2 rt2 hr => h _ _ _ hab hr)
theorem sp_termsChanged {tc : Int32} {on ze ou : Nat → Int32} {wd : Nat → Int64} {lo ab tr rt : Nat → Int32} {kn : Int32} {S : AS} {K : (Nat → Int32) → (Nat → Int32) → (Nat → Int32) → Int32 → Prop} (htc : tc = nI S.2.2.1.length) (hR : RepT on ze ou wd S.1 S.2.2.1) (hF : Fok S) (hlo : ∀ c, c < 10 → lo c = opt (S.2.2.2.1 c)) (h : ∀ ab2 tr2 rt2, Clo ab2 (DR S.2.2.1 S.2.2.2.1) → RowC tr2 rt2 S.2.2.1.length (DR S.2.2.1 S.2.2.2.1) → K ab2 tr2 rt2 0) : wp_X5_termsChanged tc on ze ou lo ab tr rt kn K := by
  unfold wp_X5_termsChanged
  exact sp_foldsChanged htc hR hF hlo (fun ab2 tr2 rt2 h1 h2 => h ab2 tr2 rt2 h1 h2)
-- tests
theorem hasTerm_y {k n : Nat} {tc : Int32} {K : Int32 → Prop} (htc : tc = nI n) (hn : n ≤ 10) (hk : k < n) (h : K 1) : wp_X4_hasTerm (nI k) tc K := by
  subst htc
  unfold wp_X4_hasTerm
  exact ⟨fun c => absurd c (nI_pos (by omega)), fun _ => ⟨fun c => absurd ((nI_leI (by omega) (by omega)).mp c) (by omega), fun _ => h⟩⟩
theorem hasTerm_n {a : Int32} {n : Nat} {tc : Int32} {K : Int32 → Prop} (htc : tc = nI n) (hn : n ≤ 10) (hno : ¬ ∃ k, k < n ∧ a = nI k) (h : K 0) : wp_X4_hasTerm a tc K := by
  subst htc
  unfold wp_X4_hasTerm
  refine ⟨fun _ => h, fun c => ⟨fun _ => h, fun c2 => absurd ?_ hno⟩⟩
  obtain ⟨j, hj, rfl⟩ := nI_of c
  exact ⟨j, Nat.lt_of_not_le (fun q => c2 ((nI_leI (by omega) hj).mpr q)), rfl⟩
theorem isTerm_y {k : Nat} {nw : Nat → Int32} {S : AS} {K : Int32 → Prop} (hM : RepM nw S) (hn : S.2.2.1.length ≤ 10) (hk : k < S.2.2.1.length) (h : K 1) : wp_X6_isTerm (nI k) nw K := sp_isTerm hM.2.2.1 hn (fun _ _ _ => h) (fun c => absurd rfl (c k hk))
theorem isTerm_n {a : Int32} {nw : Nat → Int32} {S : AS} {K : Int32 → Prop} (hM : RepM nw S) (hn : S.2.2.1.length ≤ 10) (hno : ¬ ∃ k, k < S.2.2.1.length ∧ a = nI k) (h : K 0) : wp_X6_isTerm a nw K := sp_isTerm hM.2.2.1 hn (fun k hk e => absurd ⟨k, hk, e⟩ hno) (fun _ => h)
theorem hasCol_y {k : Nat} {inp otp : Int32} {S : AS} {K : Int32 → Prop} (hi : inp = nI S.1) (ho : otp = nI S.2.1) (hz : Size S) (hk : colE S.1 S.2.1 k) (h : K 1) : wp_X4_hasColumn (nI k) inp otp K := sp_hasColumn hi ho hz.2.1 hz.2.2.2.1 (fun _ _ _ => h) (fun c => absurd rfl (c k hk))
theorem hasCol_n {a : Int32} {inp otp : Int32} {S : AS} {K : Int32 → Prop} (hi : inp = nI S.1) (ho : otp = nI S.2.1) (hz : Size S) (hno : ¬ ∃ k, colE S.1 S.2.1 k ∧ a = nI k) (h : K 0) : wp_X4_hasColumn a inp otp K := sp_hasColumn hi ho hz.2.1 hz.2.2.2.1 (fun k hk e => absurd ⟨k, hk, e⟩ hno) (fun _ => h)
theorem isCol_y {k : Nat} {nw : Nat → Int32} {S : AS} {K : Int32 → Prop} (hM : RepM nw S) (hz : Size S) (hk : colE S.1 S.2.1 k) (h : K 1) : wp_X6_isColumn (nI k) nw K := sp_isColumn hM.1 hM.2.1 hz.2.1 hz.2.2.2.1 (fun _ _ _ => h) (fun c => absurd rfl (c k hk))
theorem isCol_n {a : Int32} {nw : Nat → Int32} {S : AS} {K : Int32 → Prop} (hM : RepM nw S) (hz : Size S) (hno : ¬ ∃ k, colE S.1 S.2.1 k ∧ a = nI k) (h : K 0) : wp_X6_isColumn a nw K := sp_isColumn hM.1 hM.2.1 hz.2.1 hz.2.2.2.1 (fun k hk e => absurd ⟨k, hk, e⟩ hno) (fun _ => h)
/-- from 1 to m -/
theorem rng_iff {t : Int32} {m : Nat} (hm : m < 2 ^ 30) : ((1 : Int32) ≤ t ∧ t ≤ nI m) ↔ ∃ k, 1 ≤ k ∧ k ≤ m ∧ t = nI k := by
  constructor
  · rintro ⟨h1, h2⟩
    have h3 : ¬ t < 0 := by
      rw [Int32.lt_iff_toInt_lt]
      rw [Int32.le_iff_toInt_le] at h1
      have e1 : (1 : Int32).toInt = 1 := rfl
      have e0 : (0 : Int32).toInt = 0 := rfl
      omega
    obtain ⟨j, hj, rfl⟩ := nI_of h3
    exact ⟨j, (nI_leI (a := 1) (by decide) hj).mp h1, (nI_leI hj (by omega)).mp h2, rfl⟩
  · rintro ⟨k, h1, h2, rfl⟩
    exact ⟨nI_le (a := 1) h1 (by omega), nI_le h2 (by omega)⟩
/-- from 0 to n - 1 -/
theorem sp_in0_y {k n : Nat} {K : Int32 → Prop} (hn : n < 2 ^ 30) (hk : k < n) (h : K 1) : wp_X6_in (nI k) (0 : Int32) (nI n - 1) K := by
  have e := tm_iff (t := nI k) (a := 0) (n := n) (by omega)
  simp only [Nat.zero_add] at e
  exact sp_in (fun _ _ => h) (fun c => absurd (e.mpr ⟨k, hk, rfl⟩) c)
theorem sp_in0_n {a : Int32} {n : Nat} {K : Int32 → Prop} (hn : n < 2 ^ 30) (hno : ¬ ∃ k, k < n ∧ a = nI k) (h : K 0) : wp_X6_in a (0 : Int32) (nI n - 1) K := by
  have e := tm_iff (t := a) (a := 0) (n := n) (by omega)
  simp only [Nat.zero_add] at e
  exact sp_in (fun p q => absurd (e.mp ⟨p, q⟩) hno) (fun _ => h)
theorem RepM.noF {nw : Nat → Int32} {S : AS} (h : RepM nw S) (hn : S.2.2.1.length ≤ 10) : RepM (nf nw) (S.1, S.2.1, S.2.2.1, nof, nof) := by
  refine ⟨h.1, h.2.1, h.2.2.1, fun s q hq => ?_, fun c hc => ?_⟩
  · have hs : s < S.2.2.1.length := lt_of_get hq
    unfold nf
    rw [if_neg (by omega), if_neg (by omega), if_neg (by omega)]
    exact h.2.2.2.1 s q hq
  · unfold nf
    rw [if_pos (by omega), if_pos (by omega)]
    exact ⟨rfl, rfl⟩
-- removeRedundant of the class
theorem redS.unique {S Q P : AS} {Z : List Tm} (h : redS S Z Q) (g : redS S Z P) : Q = P := by
  obtain ⟨h1, h2, h3, h4⟩ := h
  obtain ⟨g1, g2, g3, g4⟩ := g
  rcases h4 with ⟨e, q⟩ | ⟨e, q⟩
  · rcases g4 with ⟨e2, q2⟩ | ⟨e2, q2⟩
    · rw [q, q2]
    · rw [e] at e2
      omega
  · rcases g4 with ⟨e2, q2⟩ | ⟨e2, q2⟩
    · rw [e2] at e
      omega
    · obtain ⟨a, b, c, d⟩ := Q
      obtain ⟨a2, b2, c2, d2⟩ := P
      dsimp only at h1 h2 h3 q g1 g2 g3 q2
      rw [h1, h2, h3, q, g1, g2, g3, q2]
theorem spC_rr {inp otp tc fc : Int32} {on ze ou : Nat → Int32} {wd : Nat → Int64} {lo up : Nat → Int32} {S : AS} {A : Int32 → Int32 → (Nat → Int32) → (Nat → Int32) → (Nat → Int32) → (Nat → Int64) → (Nat → Int32) → (Nat → Int32) → Prop} (hC : RepC inp otp tc fc on ze ou wd lo up S) (hz : Size S)
    (h : ∀ tc2 fc2 on2 ze2 ou2 wd2 lo2 up2 Q, RepC inp otp tc2 fc2 on2 ze2 ou2 wd2 lo2 up2 Q → Size Q → redS S (rr S.1 S.2.2.1.length S.2.2.1) Q → A tc2 fc2 on2 ze2 ou2 wd2 lo2 up2) :
    Lp9 (tc - (1 : Int32)) tc fc on ze ou wd lo up (fun (x5 : Int32) (z6 : Int32) (z7 : Int32) (z8 : Nat → Int32) (z9 : Nat → Int32) (z10 : Nat → Int32) (z11 : Nat → Int64) (z12 : Nat → Int32) (z13 : Nat → Int32) (J17 : Int32 → Int32 → Int32 → (Nat → Int32) → (Nat → Int32) → (Nat → Int32) → (Nat → Int64) → (Nat → Int32) → (Nat → Int32) → Prop) => ((x5 < 0 → A z6 z7 z8 z9 z10 z11 z12 z13) ∧
 (¬ (x5 < 0) → wp_X4_isSpare x5 otp z6 z10 z11 (fun (r35 : Int32) => ((r35 = 0 → J17 (x5 + (-1 : Int32)) z6 z7 z8 z9 z10 z11 z12 z13) ∧
 (¬ (r35 = 0) → wp_X4_dropTerm x5 z6 z7 z8 z9 z10 z11 z12 z13 (fun (u41 : Int32) (u42 : Int32) (u43 : Nat → Int32) (u44 : Nat → Int32) (u45 : Nat → Int32) (u46 : Nat → Int64) (u47 : Nat → Int32) (u48 : Nat → Int32) => J17 (x5 + (-1 : Int32)) u41 u42 u43 u44 u45 u46 u47 u48))))))) := by
  refine Lp9.dn S.2.2.1.length (fun t x a b c d e f g k => ∃ Q, x = nI t + (-1 : Int32) ∧ t ≤ Q.2.2.1.length ∧ RepC inp otp a b c d e f g k Q ∧ Size Q ∧ redS S Q.2.2.1 Q ∧ rr S.1 t Q.2.2.1 = rr S.1 S.2.2.1.length S.2.2.1) ⟨S, by rw [hC.2.2.1]; exact Int32.sub_eq_add_neg _ _, Nat.le_refl _, hC, hz, ⟨rfl, rfl, rfl, Or.inl ⟨rfl, rfl⟩⟩, rfl⟩ ?_
  rintro t x a b c d e f g k J ⟨Q, rfl, ht, hQ, hQz, hQr, hQe⟩ hJ
  have hl := hQz.2.2.2.2.1
  cases t with
  | zero =>
    refine ⟨fun _ => h a b c d e f g k Q hQ hQz ?_, fun c => absurd m1_neg c⟩
    rw [← hQe]
    exact hQr
  | succ t =>
    rw [pk_m1 t]
    refine ⟨fun c => absurd c (nI_pos (by omega)), fun _ => sp_isSpare hQz hQ.2.1 hQ.2.2.1 hQ.ow (by omega) (fun r => b1' ?_) (fun r => b0' ?_)⟩
    · have r : RedT S.1 Q.2.2.1 t := by
        rw [← hQr.1]
        exact r
      have hle : (Q.2.2.1.eraseIdx t).length = Q.2.2.1.length - 1 := List.length_eraseIdx_of_lt (by omega)
      refine sp_dropTerm hQ.2.2.1 hQ.T hl (by omega) (fun on2 ze2 ou2 wd2 lo2 up2 hT hlu => ?_)
      refine hJ t _ _ _ _ _ _ _ _ _ (by omega) ⟨(Q.1, Q.2.1, Q.2.2.1.eraseIdx t, nof, nof), rfl, ?_, ⟨hQ.1, hQ.2.1, rfl, ?_, hT, hlu⟩, size_erase hQz, ⟨hQr.1, hQr.2.1, rfl, Or.inr ⟨?_, rfl⟩⟩, ?_⟩
      · show t ≤ (Q.2.2.1.eraseIdx t).length
        omega
      · show (0 : Int32) = nI (nF nof)
        rw [nF_nof]
        rfl
      · show (Q.2.2.1.eraseIdx t).length < S.2.2.1.length
        rcases hQr.2.2.2 with ⟨e, -⟩ | ⟨e, -⟩
        · rw [← e]
          omega
        · omega
      · show rr S.1 t (Q.2.2.1.eraseIdx t) = _
        rw [← rr_red r]
        exact hQe
    · have r : ¬ RedT S.1 Q.2.2.1 t := by
        rw [← hQr.1]
        exact r
      refine hJ t _ _ _ _ _ _ _ _ _ (by omega) ⟨Q, rfl, by omega, hQ, hQz, hQr, ?_⟩
      rw [← hQe, rr_not r]
