-- removeRedundant: one pass down is as good as to start again at the top
def RedT (i : Nat) (T : List Tm) (t : Nat) : Prop := ∀ x, x < 2 ^ i → outW T x 100 T.length = outW T x t T.length
theorem erase_hi {T : List Tm} {t s : Nat} (h : t ≤ s) : (T.eraseIdx t)[s]? = T[s + 1]? := by
  rw [List.getElem?_eraseIdx, if_neg (by omega)]
theorem erase_lo {T : List Tm} {t s : Nat} (h : s < t) : (T.eraseIdx t)[s]? = T[s]? := by
  rw [List.getElem?_eraseIdx, if_pos h]
theorem red_keep {i : Nat} {T : List Tm} {t s : Nat} (hn : T.length ≤ 10) (hts : t ≤ s) (hs : s + 1 < T.length) (h : RedT i (T.eraseIdx t) s) : RedT i T (s + 1) := by
  have hl : (T.eraseIdx t).length = T.length - 1 := List.length_eraseIdx_of_lt (by omega)
  intro x hx
  apply Nat.eq_of_testBit_eq
  intro k
  apply Bool.eq_iff_iff.mpr
  rw [outW_bit _ (Nat.le_refl _), outW_bit _ (Nat.le_refl _)]
  constructor
  · rintro ⟨m, q, h1, h2, h3, h4, h5⟩
    by_cases e : m = s + 1
    · subst e
      have b : (outW (T.eraseIdx t) x 100 (T.eraseIdx t).length).testBit k = true := (outW_bit _ (Nat.le_refl _)).mpr ⟨s, q, by omega, by omega, by rw [erase_hi hts]; exact h3, h4, h5⟩
      rw [h x hx] at b
      obtain ⟨m, q2, g1, g2, g3, g4⟩ := (outW_bit _ (Nat.le_refl _)).mp b
      by_cases c : m < t
      · rw [erase_lo c] at g3
        exact ⟨m, q2, by omega, by omega, g3, g4⟩
      · rw [erase_hi (by omega)] at g3
        exact ⟨m + 1, q2, by omega, by omega, g3, g4⟩
    · exact ⟨m, q, h1, e, h3, h4, h5⟩
  · rintro ⟨m, q, h1, h2, h3⟩
    exact ⟨m, q, h1, by omega, h3⟩
noncomputable def rr (i : Nat) : Nat → List Tm → List Tm
  | 0, T => T
  | t + 1, T => if dcd (RedT i T t) = true then rr i t (T.eraseIdx t) else rr i t T
theorem rr_red {i t : Nat} {T : List Tm} (h : RedT i T t) : rr i (t + 1) T = rr i t (T.eraseIdx t) := by
  show (if dcd (RedT i T t) = true then rr i t (T.eraseIdx t) else rr i t T) = _
  rw [if_pos (dcd_iff.mpr h)]
theorem rr_not {i t : Nat} {T : List Tm} (h : ¬ RedT i T t) : rr i (t + 1) T = rr i t T := by
  show (if dcd (RedT i T t) = true then rr i t (T.eraseIdx t) else rr i t T) = _
  rw [if_neg (fun q => h (dcd_iff.mp q))]
theorem rr_stay {i t : Nat} {T : List Tm} : ∀ n, t ≤ n → (∀ s, t ≤ s → s < n → ¬ RedT i T s) → rr i n T = rr i t T
  | 0, h, _ => by
    have e : t = 0 := by omega
    rw [e]
  | n + 1, h, hs => by
    by_cases e : t = n + 1
    · rw [e]
    · rw [rr_not (hs n (by omega) (by omega))]
      exact rr_stay n (by omega) (fun s h1 h2 => hs s h1 (by omega))
/-- a picture with its terms reduced: the folds are gone when a term is -/
def redS (S : AS) (Z : List Tm) (Q : AS) : Prop := Q.1 = S.1 ∧ Q.2.1 = S.2.1 ∧ Q.2.2.1 = Z ∧ ((Z = S.2.2.1 ∧ Q = S) ∨ (Z.length < S.2.2.1.length ∧ Q.2.2.2 = (nof, nof)))
theorem size_erase {S : AS} {t : Nat} (hz : Size S) : Size (S.1, S.2.1, S.2.2.1.eraseIdx t, nof, nof) := by
  obtain ⟨z1, z2, z3, z4, z5, z6⟩ := hz
  exact ⟨z1, z2, z3, z4, Nat.le_trans (List.length_eraseIdx_le S.2.2.1 t) z5, fun q hq => z6 q (List.mem_of_mem_eraseIdx hq)⟩
theorem spM_rr {nw : Nat → Int32} {S : AS} {K : (Nat → Int32) → Prop} (hR : RepM nw S) (hz : Size S) (h : ∀ z Q, RepM z Q → Size Q → redS S (rr S.1 S.2.2.1.length S.2.2.1) Q → K z) :
    Lp2 ((nw 2) - (1 : Int32)) nw (fun (x4 : Int32) (z5 : Nat → Int32) (J9 : Int32 → (Nat → Int32) → Prop) => ((x4 < 0 → K z5) ∧
 (¬ (x4 < 0) → wp_X6_redundant x4 z5 (fun (r13 : Int32) => ((r13 = 0 → J9 (x4 + (-1 : Int32)) z5) ∧
 (¬ (r13 = 0) → wp_X6_drop x4 z5 (fun (u19 : Nat → Int32) => J9 ((u19 2) + (-1 : Int32)) u19))))))) := by
  refine Lp2.dn (20 * S.2.2.1.length + S.2.2.1.length) (fun n x z => ∃ t Q, n = 20 * Q.2.2.1.length + t ∧ t ≤ Q.2.2.1.length ∧ x = nI t + (-1 : Int32) ∧ RepM z Q ∧ Size Q ∧ redS S Q.2.2.1 Q ∧ rr S.1 t Q.2.2.1 = rr S.1 S.2.2.1.length S.2.2.1 ∧ ∀ s, t ≤ s → s < Q.2.2.1.length → ¬ RedT S.1 Q.2.2.1 s) ⟨S.2.2.1.length, S, rfl, Nat.le_refl _, by rw [hR.2.2.1]; exact Int32.sub_eq_add_neg _ _, hR, hz, ⟨rfl, rfl, rfl, Or.inl ⟨rfl, rfl⟩⟩, rfl, fun s h1 h2 => by omega⟩ ?_
  rintro n x z J ⟨t, Q, rfl, ht, rfl, hQ, hQz, hQr, hQe, hQn⟩ hJ
  have hl := hQz.2.2.2.2.1
  cases t with
  | zero =>
    refine ⟨fun _ => h z Q hQ hQz ?_, fun c => absurd m1_neg c⟩
    rw [← hQe]
    exact hQr
  | succ t =>
    rw [pk_m1 t]
    refine ⟨fun c => absurd c (nI_pos (by omega)), fun _ => sp_redundant hQ hQz (by omega) (fun r => ⟨fun c => absurd c (by decide), fun _ => ?_⟩) (fun r => ⟨fun _ => ?_, fun c => absurd rfl c⟩)⟩
    · have r : RedT S.1 Q.2.2.1 t := by
        rw [← hQr.1]
        exact r
      have hle : (Q.2.2.1.eraseIdx t).length = Q.2.2.1.length - 1 := List.length_eraseIdx_of_lt (by omega)
      have hno : ∀ s, t ≤ s → s < (Q.2.2.1.eraseIdx t).length → ¬ RedT S.1 (Q.2.2.1.eraseIdx t) s := fun s h1 h2 q => hQn (s + 1) (by omega) (by omega) (red_keep hl h1 (by omega) q)
      refine sp_drop hQ hl (by omega) (fun nw2 h2 => ?_)
      refine hJ (20 * (Q.2.2.1.eraseIdx t).length + (Q.2.2.1.eraseIdx t).length) _ _ (by omega) ⟨(Q.2.2.1.eraseIdx t).length, _, rfl, Nat.le_refl _, by rw [h2.2.2.1], h2, size_erase hQz, ⟨hQr.1, hQr.2.1, rfl, Or.inr ⟨?_, rfl⟩⟩, ?_, fun s h1 h2 => absurd h2 (Nat.not_lt.mpr h1)⟩
      · show (Q.2.2.1.eraseIdx t).length < S.2.2.1.length
        rcases hQr.2.2.2 with ⟨e, -⟩ | ⟨e, -⟩
        · rw [← e]
          omega
        · omega
      · show rr S.1 (Q.2.2.1.eraseIdx t).length (Q.2.2.1.eraseIdx t) = _
        rw [rr_stay (t := t) _ (by omega) hno, ← rr_red r]
        exact hQe
    · have r : ¬ RedT S.1 Q.2.2.1 t := by
        rw [← hQr.1]
        exact r
      refine hJ (20 * Q.2.2.1.length + t) _ _ (by omega) ⟨t, Q, rfl, by omega, rfl, hQ, hQz, hQr, ?_, fun s h1 h2 => ?_⟩
      · rw [← hQe, rr_not r]
      · by_cases e : s = t
        · rw [e]
          exact r
        · exact hQn s (by omega) h2
