-- onCount: the words at which an output is on
def onC (S : AS) (j : Nat) : Nat := cnt (fun x => (outW S.2.2.1 x 100 S.2.2.1.length).testBit j) (2 ^ S.1)
theorem cnt_mk (p : Nat → Bool) {n : Nat} (hn : n ≤ 64) : cnt (fun t => (mk p n).testBit t) 64 = cnt p n := by
  have e : n + (64 - n) = 64 := by omega
  have h := cnt_split (fun t => (mk p n).testBit t) n (64 - n)
  rw [e] at h
  rw [h]
  have h1 : cnt (fun t => (mk p n).testBit t) n = cnt p n := cnt_same n (fun t ht => by
    show (mk p n).testBit t = p t
    rw [mk_bit, decide_eq_true ht, Bool.true_and])
  have h2 : cnt (fun t => (mk p n).testBit (n + t)) (64 - n) = 0 := cnt_zero (fun t => by
    show (mk p n).testBit (n + t) = false
    rw [mk_bit, decide_eq_false (by omega), Bool.false_and]) _
  omega
theorem spC_on {tc : Int32} {ou : Nat → Int32} {wd : Nat → Int64} {S : AS} {j : Nat} {K : Int32 → Prop} (hz : Size S) (htc : tc = nI S.2.2.1.length) (hr : ∀ s q, S.2.2.1[s]? = some q → ou s = nI q.2.2 ∧ wd s = tt S.1 q) (hj : j < 32) (h : K (nI (onC S j))) : wp_X4_wordsOfOutput (nI j) (-1 : Int32) tc ou wd (fun r6 => wp_J13_bitCount_95d88 r6 K) := by
  have hp := pow_le_64 hz.2.1
  refine sp_wordsOfOutput (w := 100) hz htc hr hj (fun k hk => w_none hk) (sp_bitCount64 (mk_lt64 _ hp) ?_)
  rw [cnt_mk _ hp]
  exact h
theorem spM_on {nw er : Nat → Int32} {S : AS} {j : Nat} {K : Int32 → (Nat → Int32) → Prop} (hR : RepM nw S) (hz : Size S) (hj : j < 32) (h : K (nI (onC S j)) er) : Lp2 (0 : Int32) (0 : Int32) (fun (x3 : Int32) (x4 : Int32) (J8 : Int32 → Int32 → Prop) => wp_X6_words nw (fun (r11 : Int32) => ((r11 ≤ x4 → K x3 er) ∧
 (¬ (r11 ≤ x4) → wp_X6_outputs x4 (-1 : Int32) nw (fun (r13 : Int32) => wp_X6_has r13 (nI j) (fun (r14 : Int32) => (Jn1 (fun (y16 : Int32) => J8 (x3 + y16) (x4 + (1 : Int32)))
 (fun (J17 : Int32 → Prop) => ((r14 = 0 → J17 (0 : Int32)) ∧
 (¬ (r14 = 0) → J17 (1 : Int32)))))))))) ) := by
  have hp := pow_le_64 hz.2.1
  have ho16 : 2 ^ S.2.1 ≤ 2 ^ 4 := Nat.pow_le_pow_right (by decide) hz.2.2.2.1
  refine Lp2.up (2 ^ S.1) (fun k x y => y = nI k ∧ x = nI (cnt (fun x => (outW S.2.2.1 x 100 S.2.2.1.length).testBit j) k)) 0 (Nat.zero_le _) ⟨rfl, rfl⟩ ?_
  rintro k x y J hk ⟨rfl, rfl⟩ hJ
  refine sp_words hR hz (le_br (by omega) (by omega) (fun e => ?_) (fun e => ?_))
  · have e2 : k = 2 ^ S.1 := by omega
    subst e2
    exact h
  · have hw := outW_lt (T := S.2.2.1) (fun q hq => (hz.2.2.2.2.2 q hq).2.2) k 100 S.2.2.1.length (Nat.le_refl _)
    refine sp_outputs (w := 100) hR hz (by omega) (fun k hk => w_none hk) (sp_has (by omega) hj (fun b => Jn1.mk ⟨fun c => absurd c (by decide), fun _ => ?_⟩) (fun b => Jn1.mk ⟨fun _ => ?_, fun c => absurd rfl c⟩))
    · refine hJ _ _ e ⟨nI_1 k, ?_⟩
      show nI _ + nI 1 = nI (_ + (if _ then 1 else 0))
      rw [if_pos b, nI_add]
    · refine hJ _ _ e ⟨nI_1 k, ?_⟩
      show nI _ + nI 0 = nI (_ + (if _ then 1 else 0))
      rw [if_neg (fun q => Bool.noConfusion (b.symm.trans q)), nI_add]
