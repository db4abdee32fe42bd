-- numbers and bits: every int that stands for a set is nI of a Nat below 2^31
theorem nI_or (a b : Nat) : nI a ||| nI b = nI (a ||| b) := by
  apply Int32.toBitVec_inj.mp
  show BitVec.ofNat 32 a ||| BitVec.ofNat 32 b = BitVec.ofNat 32 (a ||| b)
  exact BitVec.ofNat_or.symm
theorem nI_and (a b : Nat) : nI a &&& nI b = nI (a &&& b) := by
  apply Int32.toBitVec_inj.mp
  show BitVec.ofNat 32 a &&& BitVec.ofNat 32 b = BitVec.ofNat 32 (a &&& b)
  exact BitVec.ofNat_and.symm
/-- the bits of a that b doesn't have -/
def bdiff (a b : Nat) : Nat := a ^^^ (a &&& b)
theorem bdiff_bit (a b k : Nat) : (bdiff a b).testBit k = (a.testBit k && !b.testBit k) := by
  unfold bdiff
  rw [Nat.testBit_xor, Nat.testBit_and]
  cases a.testBit k <;> cases b.testBit k <;> rfl
theorem bdiff_le {a b n : Nat} (h : a < 2 ^ n) : bdiff a b < 2 ^ n := Nat.xor_lt_two_pow h (Nat.lt_of_le_of_lt Nat.and_le_left h)
theorem nI_diff {a b : Nat} : nI a &&& (nI b ^^^ (-1 : Int32)) = nI (bdiff a b) := by
  apply Int32.toBitVec_inj.mp
  show BitVec.ofNat 32 a &&& (BitVec.ofNat 32 b ^^^ BitVec.allOnes 32) = BitVec.ofNat 32 (bdiff a b)
  apply BitVec.eq_of_getLsbD_eq
  intro i hi
  rw [BitVec.getLsbD_and, BitVec.getLsbD_xor, BitVec.getLsbD_allOnes, BitVec.getLsbD_ofNat, BitVec.getLsbD_ofNat, BitVec.getLsbD_ofNat, bdiff_bit]
  simp [hi]
theorem sh_k : ∀ t, t < 32 → ((nI t &&& 31).toBitVec.smod 32).toNat = t := by decide +kernel
theorem jshl_n {a t : Nat} (ht : t < 32) (h : a * 2 ^ t < 2 ^ 32) : jshl (nI a) (nI t) = nI (a * 2 ^ t) := pk_shlN (nI t &&& 31) t (sh_k t ht) h
theorem jshl_1 {t : Nat} (ht : t < 31) : jshl (1 : Int32) (nI t) = nI (2 ^ t) := by
  have h : 1 * 2 ^ t < 2 ^ 32 := by rw [Nat.one_mul]; exact Nat.pow_lt_pow_right (by decide) (by omega)
  have h2 := jshl_n (a := 1) (t := t) (by omega) h
  rw [Nat.one_mul] at h2
  exact h2
theorem jshr_n {a t : Nat} (ha : a < 2 ^ 31) (ht : t < 32) : jshr (nI a) (nI t) = nI (a / 2 ^ t) := pk_shrN ha (nI t &&& 31) t (sh_k t ht)
theorem bit_n {a t : Nat} (ha : a < 2 ^ 31) (ht : t < 32) : (jshr (nI a) (nI t) &&& (1 : Int32) = (1 : Int32)) ↔ a.testBit t = true := by
  rw [jshr_n ha ht]
  have h1 : a / 2 ^ t < 2 ^ 32 := Nat.lt_of_le_of_lt (Nat.div_le_self _ _) (by omega)
  rw [pk_andN h1 1 (m := 1) (by decide)]
  rw [Nat.testBit_eq_decide_div_mod_eq, decide_eq_true_iff]
  have h2 : a / 2 ^ t % 2 ^ 1 < 2 := Nat.mod_lt _ (by decide)
  rw [show (1 : Int32) = nI 1 from rfl, nI_eq (by omega) (by decide)]
/-- the set of those k below n with p k -/
def mk (p : Nat → Bool) : Nat → Nat
  | 0 => 0
  | n + 1 => mk p n ||| (if p n then 2 ^ n else 0)
theorem mk_lt (p : Nat → Bool) : ∀ n, mk p n < 2 ^ n
  | 0 => Nat.zero_lt_one
  | n + 1 => by
    have h1 := mk_lt p n
    have h2 : 2 ^ n < 2 ^ (n + 1) := Nat.pow_lt_pow_right (by decide) (by omega)
    show mk p n ||| (if p n then 2 ^ n else 0) < 2 ^ (n + 1)
    refine Nat.or_lt_two_pow (by omega) ?_
    split
    · exact h2
    · omega
theorem mk_bit (p : Nat → Bool) (k : Nat) : ∀ n, (mk p n).testBit k = (decide (k < n) && p k)
  | 0 => by simp [mk]
  | n + 1 => by
    show (mk p n ||| (if p n then 2 ^ n else 0)).testBit k = _
    rw [Nat.testBit_or, mk_bit p k n]
    by_cases hk : k = n
    · subst hk
      cases hp : p k <;> simp [Nat.testBit_two_pow_self]
    · have h1 : decide (k < n + 1) = decide (k < n) := by
        apply decide_eq_decide.mpr
        omega
      rw [h1]
      cases hp : p n
      · simp
      · simp [Nat.testBit_two_pow_of_ne (Ne.symm hk)]
theorem bits_eq {a b n : Nat} (ha : a < 2 ^ n) (hb : b < 2 ^ n) (h : ∀ k, k < n → a.testBit k = b.testBit k) : a = b := by
  apply Nat.eq_of_testBit_eq
  intro k
  by_cases hk : k < n
  · exact h k hk
  · have hp : 2 ^ n ≤ 2 ^ k := Nat.pow_le_pow_right (by decide) (by omega)
    rw [Nat.testBit_lt_two_pow (Nat.lt_of_lt_of_le ha hp), Nat.testBit_lt_two_pow (Nat.lt_of_lt_of_le hb hp)]
theorem bit0 {a : Nat} : a = 0 ↔ ∀ k, a.testBit k = false := by
  constructor
  · intro h k
    rw [h, Nat.zero_testBit]
  · intro h
    apply Nat.eq_of_testBit_eq
    intro k
    rw [h k, Nat.zero_testBit]
theorem and0 {a b : Nat} : a &&& b = 0 ↔ ∀ k, ¬ (a.testBit k = true ∧ b.testBit k = true) := by
  rw [bit0]
  constructor
  · intro h k ⟨h1, h2⟩
    have := h k
    rw [Nat.testBit_and, h1, h2] at this
    exact absurd this (by decide)
  · intro h k
    rw [Nat.testBit_and]
    have := h k
    cases h1 : a.testBit k <;> cases h2 : b.testBit k <;> simp_all
theorem clamp_n {k : Nat} (h : k < 2 ^ 31) : (nI k).toNatClampNeg = k := nI_clamp h
theorem m1_neg : ((-1 : Int32) < 0) := by decide
theorem nI_ne_m1 {k : Nat} (h : k < 2 ^ 31) : ¬ nI k = (-1 : Int32) := fun e => nI_pos h (by rw [e]; exact m1_neg)
theorem lit (k : Nat) (v : Int32) (h : nI k = v) : v = nI k := h.symm
