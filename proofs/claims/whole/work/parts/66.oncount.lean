-- onCount: the words at which an output is on
def onC (S : AS) (j : Nat) : Nat := cnt (fun x => (outW S.2.2.1 x 100 S.2.2.1.length).testBit j) (2 ^ S.1)
theorem cnt_mk (p : Nat → Bool) {n : Nat} (hn : n ≤ 64) : cnt (fun t => (mk p n).testBit t) 64 = cnt p n := by
  have e : n + (64 - n) = 64 := by omega
  have h := cnt_split (fun t => (mk p n).testBit t) n (64 - n)
  rw [e] at h
  rw [h]
  have h1 : cnt (fun t => (mk p n).testBit t) n = cnt p n := cnt_same n (fun t ht => by
    show (mk p n).testBit t = p t
    rw [mk_bit, decide_eq_true ht, Bool.true_and])
  have h2 : cnt (fun t => (mk p n).testBit (n + t)) (64 - n) = 0 := cnt_zero (fun t => by
    show (mk p n).testBit (n + t) = false
    rw [mk_bit, decide_eq_false (by omega), Bool.false_and]) _
  omega
theorem spC_on {tc : Int32} {ou : Nat → Int32} {wd : Nat → Int64} {S : AS} {j : Nat} {K : Int32 → Prop} (hz : Size S) (htc : tc = nI S.2.2.1.length) (hr : ∀ s q, S.2.2.1[s]? = some q → ou s = nI q.2.2 ∧ wd s = tt S.1 q) (hj : j < 32) (h : K (nI (onC S j))) : wp_X4_wordsOfOutput (nI j) (-1 : Int32) tc ou wd (fun r6 => wp_J13_bitCount_95d88 r6 K) := by
  have hp := pow_le_64 hz.2.1
  refine sp_wordsOfOutput (w := 100) hz htc hr hj (fun k hk => w_none hk) (sp_bitCount64 (mk_lt64 _ hp) ?_)
  rw [cnt_mk _ hp]
  exact h
