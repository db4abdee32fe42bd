-- removeRedundant: one pass down is as good as to start again at the top
def RedT (i : Nat) (T : List Tm) (t : Nat) : Prop := ∀ x, x < 2 ^ i → outW T x 100 T.length = outW T x t T.length
theorem erase_hi {T : List Tm} {t s : Nat} (h : t ≤ s) : (T.eraseIdx t)[s]? = T[s + 1]? := by
  rw [List.getElem?_eraseIdx, if_neg (by omega)]
theorem erase_lo {T : List Tm} {t s : Nat} (h : s < t) : (T.eraseIdx t)[s]? = T[s]? := by
  rw [List.getElem?_eraseIdx, if_pos h]
theorem red_keep {i : Nat} {T : List Tm} {t s : Nat} (hn : T.length ≤ 10) (hts : t ≤ s) (hs : s + 1 < T.length) (h : RedT i (T.eraseIdx t) s) : RedT i T (s + 1) := by
  have hl : (T.eraseIdx t).length = T.length - 1 := List.length_eraseIdx_of_lt (by omega)
  intro x hx
  apply Nat.eq_of_testBit_eq
  intro k
  apply Bool.eq_iff_iff.mpr
  rw [outW_bit _ (Nat.le_refl _), outW_bit _ (Nat.le_refl _)]
  constructor
  · rintro ⟨m, q, h1, h2, h3, h4, h5⟩
    by_cases e : m = s + 1
    · subst e
      have b : (outW (T.eraseIdx t) x 100 (T.eraseIdx t).length).testBit k = true := (outW_bit _ (Nat.le_refl _)).mpr ⟨s, q, by omega, by omega, by rw [erase_hi hts]; exact h3, h4, h5⟩
      rw [h x hx] at b
      obtain ⟨m, q2, g1, g2, g3, g4⟩ := (outW_bit _ (Nat.le_refl _)).mp b
      by_cases c : m < t
      · rw [erase_lo c] at g3
        exact ⟨m, q2, by omega, by omega, g3, g4⟩
      · rw [erase_hi (by omega)] at g3
        exact ⟨m + 1, q2, by omega, by omega, g3, g4⟩
    · exact ⟨m, q, h1, e, h3, h4, h5⟩
  · rintro ⟨m, q, h1, h2, h3⟩
    exact ⟨m, q, h1, by omega, h3⟩
noncomputable def rr (i : Nat) : Nat → List Tm → List Tm
  | 0, T => T
  | t + 1, T => if dcd (RedT i T t) = true then rr i t (T.eraseIdx t) else rr i t T
theorem rr_red {i t : Nat} {T : List Tm} (h : RedT i T t) : rr i (t + 1) T = rr i t (T.eraseIdx t) := by
  show (if dcd (RedT i T t) = true then rr i t (T.eraseIdx t) else rr i t T) = _
  rw [if_pos (dcd_iff.mpr h)]
theorem rr_not {i t : Nat} {T : List Tm} (h : ¬ RedT i T t) : rr i (t + 1) T = rr i t T := by
  show (if dcd (RedT i T t) = true then rr i t (T.eraseIdx t) else rr i t T) = _
  rw [if_neg (fun q => h (dcd_iff.mp q))]
theorem rr_stay {i t : Nat} {T : List Tm} : ∀ n, t ≤ n → (∀ s, t ≤ s → s < n → ¬ RedT i T s) → rr i n T = rr i t T
  | 0, h, _ => by
    have e : t = 0 := by omega
    rw [e]
  | n + 1, h, hs => by
    by_cases e : t = n + 1
    · rw [e]
    · rw [rr_not (hs n (by omega) (by omega))]
      exact rr_stay n (by omega) (fun s h1 h2 => hs s h1 (by omega))
