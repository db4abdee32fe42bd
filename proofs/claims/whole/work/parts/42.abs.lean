-- the common picture of a state: size, terms, folds (lower partner, upper partner)
abbrev Tm : Type := Nat × Nat × Nat
abbrev AS : Type := Nat × Nat × List Tm × (Nat → Option Nat) × (Nat → Option Nat)
def opt (x : Option Nat) : Int32 := match x with
  | none => -1
  | some v => nI v
def nof : Nat → Option Nat := fun _ => none
def RepM (nw : Nat → Int32) (S : AS) : Prop := nw 0 = nI S.1 ∧ nw 1 = nI S.2.1 ∧ nw 2 = nI S.2.2.1.length ∧ (∀ s q, S.2.2.1[s]? = some q → nw (3 + s) = nI q.1 ∧ nw (13 + s) = nI q.2.1 ∧ nw (23 + s) = nI q.2.2) ∧ ∀ c, c < 10 → nw (43 + c) = opt (S.2.2.2.1 c) ∧ nw (33 + c) = opt (S.2.2.2.2 c)
def Size (S : AS) : Prop := 1 ≤ S.1 ∧ S.1 ≤ 6 ∧ 1 ≤ S.2.1 ∧ S.2.1 ≤ 4 ∧ S.2.2.1.length ≤ 10 ∧ ∀ q ∈ S.2.2.1, q.1 < 2 ^ S.1 ∧ q.2.1 < 2 ^ S.1 ∧ q.2.2 < 2 ^ S.2.1
theorem lt_of_get {α : Type} {l : List α} {k : Nat} {q : α} (h : l[k]? = some q) : k < l.length := (List.getElem?_eq_some_iff.mp h).1
theorem RepM.congr {nw nw2 : Nat → Int32} {S : AS} (h : RepM nw S) (hn : S.2.2.1.length ≤ 10) (e : ∀ j, j < 53 → nw2 j = nw j) : RepM nw2 S := by
  obtain ⟨h0, h1, h2, h3, h4⟩ := h
  refine ⟨by rw [e 0 (by decide)]; exact h0, by rw [e 1 (by decide)]; exact h1, by rw [e 2 (by decide)]; exact h2, fun s q hq => ?_, fun c hc => ?_⟩
  · have hs := lt_of_get hq
    rw [e _ (by omega), e _ (by omega), e _ (by omega)]
    exact h3 s q hq
  · rw [e _ (by omega), e _ (by omega)]
    exact h4 c hc
/-- the saved states, the oldest first -/
def RepH (ps : Nat → Int32) (L : List AS) : Prop := L.length ≤ 5 ∧ ∀ k S, L[k]? = some S → RepM (fun j => ps (53 * k + j)) S ∧ S.2.2.1.length ≤ 10
def push5 (L : List AS) (S : AS) : List AS := (if L.length = 5 then L.tail else L) ++ [S]
theorem push5_len {L : List AS} {S : AS} (h : L.length ≤ 5) : (push5 L S).length = (if L.length = 5 then 4 else L.length) + 1 := by
  unfold push5
  rw [List.length_append, List.length_singleton]
  by_cases q : L.length = 5
  · rw [if_pos q, if_pos q, List.length_tail, q]
  · rw [if_neg q, if_neg q]
theorem le_br {a b : Nat} {A B : Prop} (ha : a < 2 ^ 31) (hb : b < 2 ^ 31) (f : a ≤ b → A) (g : b < a → B) : (nI a ≤ nI b → A) ∧ (¬ nI a ≤ nI b → B) :=
  ⟨fun h => f ((nI_leI ha hb).mp h), fun h => g (Nat.lt_of_not_le (fun q => h ((nI_leI ha hb).mpr q)))⟩
theorem lt_br {a b : Nat} {A B : Prop} (ha : a < 2 ^ 31) (hb : b < 2 ^ 31) (f : a < b → A) (g : b ≤ a → B) : (nI a < nI b → A) ∧ (¬ nI a < nI b → B) :=
  ⟨fun h => f ((nI_ltI ha hb).mp h), fun h => g (Nat.le_of_not_lt (fun q => h ((nI_ltI ha hb).mpr q)))⟩
theorem ne_br {a b : Nat} {A B : Prop} (ha : a < 2 ^ 31) (hb : b < 2 ^ 31) (f : a ≠ b → A) (g : a = b → B) : (¬ nI a = nI b → A) ∧ (nI a = nI b → B) :=
  ⟨fun h => f (fun e => h (by rw [e])), fun h => g ((nI_eq ha hb).mp h)⟩
theorem eq_br {a b : Nat} {A B : Prop} (ha : a < 2 ^ 31) (hb : b < 2 ^ 31) (f : a = b → A) (g : a ≠ b → B) : (nI a = nI b → A) ∧ (¬ nI a = nI b → B) :=
  ⟨fun h => f ((nI_eq ha hb).mp h), fun h => g (fun e => h (by rw [e]))⟩
theorem ix53 {h k : Nat} (hh : h < 5) (hk : k < 53) : vp_in (nI 53 * nI h + nI k) 265 ∧ (nI 53 * nI h + nI k).toNatClampNeg = 53 * h + k := by
  rw [pk_mul, nI_add]
  exact ⟨vp_in_nI (by omega) (by decide), nI_clamp (by omega)⟩
theorem sp_save {nw ps : Nat → Int32} {L : List AS} {S : AS} {st : Int32} {K : (Nat → Int32) → Int32 → Prop} (hst : st = nI L.length) (hL : RepH ps L) (hS : RepM nw S) (hn : S.2.2.1.length ≤ 10) (hK : ∀ ps2, RepH ps2 (push5 L S) → K ps2 (nI (push5 L S).length)) : wp_X6_save nw ps st K := by
  obtain ⟨hl, hr⟩ := hL
  subst hst
  unfold wp_X6_save
  -- what the second loop gives, from any rows that hold the states that stay
  refine Jn2.to (fun z x => ∃ h, h < 5 ∧ h = (if L.length = 5 then 4 else L.length) ∧ x = nI h ∧ ∀ j, z j = if L.length = 5 ∧ j < 212 then ps (j + 53) else ps j) ?_ ?_
  · refine ne_br (by omega) (by decide) (fun q => ⟨L.length, by omega, by rw [if_neg q], rfl, fun j => by rw [if_neg (by omega)]⟩) (fun q => ?_)
    refine Lp2.up 212 (fun k x z => x = nI k ∧ ∀ j, z j = if j < k then ps (j + 53) else ps j) 0 (by omega) ⟨rfl, fun j => by rw [if_neg (by omega)]⟩ ?_
    rintro k x z J hk ⟨rfl, hz⟩ hJ
    refine le_br (by decide) (by omega) (fun c => ?_) (fun c => ?_)
    · refine ⟨4, by decide, by rw [if_pos q], by rw [q]; rfl, fun j => ?_⟩
      rw [hz j, show k = 212 by omega]
      by_cases qj : j < 212
      · rw [if_pos qj, if_pos ⟨q, qj⟩]
      · rw [if_neg qj, if_neg (by omega)]
    · refine ⟨by rw [nI_add]; exact vp_in_nI (by omega) (by decide), vp_in_nI (by omega) (by decide), hJ _ _ c ⟨nI_1 k, fun j => ?_⟩⟩
      rw [nI_add, nI_clamp (by omega), nI_clamp (by omega)]
      simp only [upd, hz]
      by_cases q1 : j = k
      · rw [if_pos q1, if_neg (by omega), if_pos (by omega), q1]
      · rw [if_neg q1]
        by_cases q2 : j < k
        · rw [if_pos q2, if_pos (by omega)]
        · rw [if_neg q2, if_neg (by omega)]
  · rintro z x ⟨h, hh, eh, rfl, hz⟩
    refine Lp2.up 53 (fun k x y => x = nI k ∧ ∀ j, y j = if 53 * h ≤ j ∧ j < 53 * h + k then nw (j - 53 * h) else z j) 0 (by omega) ⟨rfl, fun j => by rw [if_neg (by omega)]⟩ ?_
    rintro k x y J hk ⟨rfl, hy⟩ hJ
    refine le_br (by decide) (by omega) (fun c => ?_) (fun c => ?_)
    · have hk2 : k = 53 := by omega
      subst hk2
      have el := push5_len (S := S) hl
      rw [← eh] at el
      have e1 : nI h + 1 = nI (push5 L S).length := by rw [el]; exact nI_1 h
      rw [e1]
      refine hK y ⟨by omega, fun k2 S2 h2 => ?_⟩
      unfold push5 at h2
      have hlen : (if L.length = 5 then L.tail else L).length = h := by
        rw [eh]
        by_cases q : L.length = 5
        · rw [if_pos q, if_pos q, List.length_tail, q]
        · rw [if_neg q, if_neg q]
      by_cases qk : k2 < h
      · rw [List.getElem?_append_left (by omega)] at h2
        by_cases q : L.length = 5
        · rw [if_pos q] at h2
          rw [List.getElem?_tail] at h2
          obtain ⟨a1, a2⟩ := hr (k2 + 1) S2 h2
          refine ⟨a1.congr a2 (fun j hj => ?_), a2⟩
          have h4 : h = 4 := by rw [eh, if_pos q]
          show y (53 * k2 + j) = ps (53 * (k2 + 1) + j)
          rw [hy, if_neg (by omega), hz, if_pos ⟨q, by omega⟩, show 53 * k2 + j + 53 = 53 * (k2 + 1) + j by omega]
        · rw [if_neg q] at h2
          obtain ⟨a1, a2⟩ := hr k2 S2 h2
          refine ⟨a1.congr a2 (fun j hj => ?_), a2⟩
          show y (53 * k2 + j) = ps (53 * k2 + j)
          rw [hy, if_neg (by omega), hz, if_neg (fun q2 => q q2.1)]
      · rw [List.getElem?_append_right (by omega), hlen] at h2
        have hk3 : k2 - h = 0 := by
          have := lt_of_get h2
          rw [List.length_singleton] at this
          omega
        rw [hk3, List.getElem?_cons_zero] at h2
        cases h2
        refine ⟨hS.congr hn (fun j hj => ?_), hn⟩
        show y (53 * k2 + j) = nw j
        rw [show k2 = h by omega, hy, if_pos (by omega), show 53 * h + j - 53 * h = j by omega]
    · obtain ⟨g1, g2⟩ := ix53 (h := h) (k := k) hh (by omega)
      refine ⟨vp_in_nI (by omega) (by decide), g1, hJ _ _ c ⟨nI_1 k, fun j => ?_⟩⟩
      rw [g2, nI_clamp (by omega)]
      simp only [upd, hy]
      by_cases q1 : j = 53 * h + k
      · rw [if_pos q1, if_pos (by omega), q1, show 53 * h + k - 53 * h = k by omega]
      · rw [if_neg q1]
        by_cases q2 : 53 * h ≤ j ∧ j < 53 * h + k
        · rw [if_pos q2, if_pos (by omega)]
        · rw [if_neg q2, if_neg (by omega)]
