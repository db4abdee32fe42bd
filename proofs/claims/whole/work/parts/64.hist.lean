-- the class's saved states
def RepCS (v : SS) (S : AS) : Prop := RepC v.1 v.2.1 v.2.2.1 v.2.2.2.1 v.2.2.2.2.1 v.2.2.2.2.2.1 v.2.2.2.2.2.2.1 v.2.2.2.2.2.2.2.1 v.2.2.2.2.2.2.2.2.1 v.2.2.2.2.2.2.2.2.2 S
theorem RepC.copy {inp otp tc fc : Int32} {on ze ou : Nat → Int32} {wd : Nat → Int64} {lo up : Nat → Int32} {on2 ze2 ou2 : Nat → Int32} {wd2 : Nat → Int64} {lo2 up2 : Nat → Int32} {S : AS} (h : RepC inp otp tc fc on ze ou wd lo up S) (hn : S.2.2.1.length ≤ 10) : RepC inp otp tc fc (va_cpy on on2 0 0 10) (va_cpy ze ze2 0 0 10) (va_cpy ou ou2 0 0 10) (va_cpy wd wd2 0 0 10) (va_cpy lo lo2 0 0 10) (va_cpy up up2 0 0 10) S := by
  obtain ⟨h1, h2, h3, h4, h5, h6⟩ := h
  have cp : ∀ {α : Type} (f g : Nat → α) (j : Nat), j < 10 → va_cpy f g 0 0 10 j = f j := fun f g j hj => by
    rw [pk_cpy_in (Nat.zero_le _) (by omega)]
    congr 1
    omega
  refine ⟨h1, h2, h3, h4, fun s q hq => ?_, fun c hc => ?_⟩
  · have := lt_of_get hq
    rw [cp _ _ s (by omega), cp _ _ s (by omega), cp _ _ s (by omega), cp _ _ s (by omega)]
    exact h5 s q hq
  · rw [cp _ _ c hc, cp _ _ c hc]
    exact h6 c hc
def RepHC (hc : Int32) (sv : Nat → SS) (L : List AS) : Prop := hc = nI L.length ∧ L.length ≤ 5 ∧ ∀ k S, L[k]? = some S → RepCS (sv k) S ∧ S.2.2.1.length ≤ 10
theorem push_rep {sv : Nat → SS} {L : List AS} {S : AS} {t : SS} {h : Nat} (hh : h < 5) (el : L.length = h) (hr : ∀ k S, L[k]? = some S → RepCS (sv k) S ∧ S.2.2.1.length ≤ 10) (ht : RepCS t S) (hn : S.2.2.1.length ≤ 10) : RepHC (nI h + 1) (va_up sv h t) (L ++ [S]) := by
  refine ⟨by rw [List.length_append, List.length_singleton, el]; exact nI_1 h, by rw [List.length_append, List.length_singleton]; omega, fun k S2 hk => ?_⟩
  by_cases c : k < h
  · rw [List.getElem?_append_left (by omega)] at hk
    have e : va_up sv h t k = sv k := by
      unfold va_up
      rw [if_neg (by omega)]
    rw [e]
    exact hr k S2 hk
  · rw [List.getElem?_append_right (by omega), el] at hk
    have hk0 : k - h = 0 := by
      have := lt_of_get hk
      rw [List.length_singleton] at this
      omega
    rw [hk0, List.getElem?_cons_zero] at hk
    cases hk
    have e : va_up sv h t k = t := by
      unfold va_up
      rw [if_pos (by omega)]
    rw [e]
    exact ⟨ht, hn⟩
theorem sp_push {hc : Int32} {sa : Nat → Nat → Nat} {sv : Nat → SS} {inp otp tc fc : Int32} {on ze ou : Nat → Int32} {wd : Nat → Int64} {lo up : Nat → Int32} {L : List AS} {S : AS} {K : Int32 → (Nat → Nat → Nat) → (Nat → SS) → Prop} (hH : RepHC hc sv L) (hC : RepC inp otp tc fc on ze ou wd lo up S) (hn : S.2.2.1.length ≤ 10) (h : ∀ hc2 sa2 sv2, RepHC hc2 sv2 (push5 L S) → K hc2 sa2 sv2) : wp_X2_push hc sa sv inp otp tc fc on ze ou wd lo up K := by
  obtain ⟨rfl, hl, hr⟩ := hH
  unfold wp_X2_push
  refine Jn3.to (fun z _ sv2 => ∃ n, z = nI n ∧ n < 5 ∧ (if L.length = 5 then L.tail else L).length = n ∧ ∀ k S, (if L.length = 5 then L.tail else L)[k]? = some S → RepCS (sv2 k) S ∧ S.2.2.1.length ≤ 10) (lt_br (by omega) (by decide) (fun c => ?_) (fun c => ?_)) ?_
  · rw [if_neg (by omega)]
    exact ⟨L.length, rfl, c, rfl, hr⟩
  · have e5 : L.length = 5 := by omega
    rw [if_pos e5]
    show ∃ n, nI 4 = nI n ∧ _
    refine ⟨4, rfl, by decide, by rw [List.length_tail, e5], fun k S2 hk => ?_⟩
    rw [List.getElem?_tail] at hk
    have hk5 := lt_of_get hk
    have e : rot sv k = sv (k + 1) := by
      unfold rot
      rw [if_neg (by omega)]
    rw [e]
    exact hr (k + 1) S2 hk
  · rintro z sa2 sv2 ⟨n, rfl, hn5, el, hr2⟩
    have go : ∀ j, n = j → ∀ t : SS, RepCS t S → K (nI n + 1) sa2 (va_up sv2 j t) := by
      rintro j rfl t ht
      refine h _ _ _ ?_
      unfold push5
      exact push_rep hn5 el hr2 ht hn
    have inj : ∀ j : Nat, j < 5 → nI n = nI j → n = j := fun j hj e => (nI_eq (by omega) (by omega)).mp e
    refine ⟨vp_in_nI hn5 (by decide), fun e => ?_, fun e => ?_, fun e => ?_, fun e => ?_, fun e => ?_⟩
    · exact go 0 (inj 0 (by decide) e) _ (hC.copy hn)
    · exact go 1 (inj 1 (by decide) e) _ (hC.copy hn)
    · exact go 2 (inj 2 (by decide) e) _ (hC.copy hn)
    · exact go 3 (inj 3 (by decide) e) _ (hC.copy hn)
    · exact go 4 (inj 4 (by decide) e) _ (hC.copy hn)
theorem sp_pop {hc : Int32} {sv : Nat → SS} {inp otp tc fc : Int32} {on ze ou : Nat → Int32} {wd : Nat → Int64} {lo up : Nat → Int32} {L : List AS} {S : AS} {K : Int32 → Int32 → Int32 → Int32 → Int32 → (Nat → Int32) → (Nat → Int32) → (Nat → Int32) → (Nat → Int64) → (Nat → Int32) → (Nat → Int32) → Prop} (hH : RepHC hc sv (L ++ [S])) (h : ∀ inp2 otp2 tc2 fc2 on2 ze2 ou2 wd2 lo2 up2, RepHC (nI L.length) sv L → RepC inp2 otp2 tc2 fc2 on2 ze2 ou2 wd2 lo2 up2 S → K (nI L.length) inp2 otp2 tc2 fc2 on2 ze2 ou2 wd2 lo2 up2) : wp_X2_pop hc sv inp otp tc fc on ze ou wd lo up K := by
  obtain ⟨rfl, hl, hr⟩ := hH
  rw [List.length_append, List.length_singleton] at hl ⊢
  have hH2 : RepHC (nI L.length) sv L := ⟨rfl, by omega, fun k S2 hk => hr k S2 (by rw [List.getElem?_append_left (lt_of_get hk)]; exact hk)⟩
  obtain ⟨hS, hn⟩ := hr L.length S (by rw [List.getElem?_append_right (Nat.le_refl _), Nat.sub_self]; rfl)
  unfold wp_X2_pop
  rw [nI_pred]
  have inj : ∀ j : Nat, j < 5 → nI L.length = nI j → L.length = j := fun j hj e => (nI_eq (by omega) (by omega)).mp e
  have go : ∀ j, L.length = j → RepCS (sv j) S := fun j e => by rw [← e]; exact hS
  refine ⟨fun _ => ⟨vp_in_nI (by omega) (by decide), fun e => ?_, fun e => ?_, fun e => ?_, fun e => ?_, fun e => ?_⟩, fun c => absurd (nI_lt (a := 0) (by omega) (by omega)) c⟩
  · exact h _ _ _ _ _ _ _ _ _ _ hH2 ((go 0 (inj 0 (by decide) e)).copy hn)
  · exact h _ _ _ _ _ _ _ _ _ _ hH2 ((go 1 (inj 1 (by decide) e)).copy hn)
  · exact h _ _ _ _ _ _ _ _ _ _ hH2 ((go 2 (inj 2 (by decide) e)).copy hn)
  · exact h _ _ _ _ _ _ _ _ _ _ hH2 ((go 3 (inj 3 (by decide) e)).copy hn)
  · exact h _ _ _ _ _ _ _ _ _ _ hH2 ((go 4 (inj 4 (by decide) e)).copy hn)
