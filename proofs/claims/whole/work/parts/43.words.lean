-- truth tables: 64 bits
theorem lN_or (a b : Nat) : lN a ||| lN b = lN (a ||| b) := by
  apply Int64.toBitVec_inj.mp
  show BitVec.ofNat 64 a ||| BitVec.ofNat 64 b = BitVec.ofNat 64 (a ||| b)
  exact BitVec.ofNat_or.symm
theorem lN_and (a b : Nat) : lN a &&& lN b = lN (a &&& b) := by
  apply Int64.toBitVec_inj.mp
  show BitVec.ofNat 64 a &&& BitVec.ofNat 64 b = BitVec.ofNat 64 (a &&& b)
  exact BitVec.ofNat_and.symm
theorem lN_diff {a b : Nat} : lN a &&& (lN b ^^^ (-1 : Int64)) = lN (bdiff a b) := by
  apply Int64.toBitVec_inj.mp
  show BitVec.ofNat 64 a &&& (BitVec.ofNat 64 b ^^^ BitVec.allOnes 64) = BitVec.ofNat 64 (bdiff a b)
  apply BitVec.eq_of_getLsbD_eq
  intro i hi
  rw [BitVec.getLsbD_and, BitVec.getLsbD_xor, BitVec.getLsbD_allOnes, BitVec.getLsbD_ofNat, BitVec.getLsbD_ofNat, BitVec.getLsbD_ofNat, bdiff_bit]
  simp [hi]
theorem lN_inj {a b : Nat} (ha : a < 2 ^ 64) (hb : b < 2 ^ 64) (h : lN a = lN b) : a = b := by
  have h2 : BitVec.ofNat 64 a = BitVec.ofNat 64 b := Int64.toBitVec_inj.mpr h
  have h3 := congrArg BitVec.toNat h2
  rw [BitVec.toNat_ofNat, BitVec.toNat_ofNat, Nat.mod_eq_of_lt ha, Nat.mod_eq_of_lt hb] at h3
  exact h3
theorem shL_k : ∀ x, x < 64 → ((nI x).toInt64.toUInt64 &&& Int64.toUInt64 63).toNat = x := by decide +kernel
theorem jlushr_n {a x : Nat} (ha : a < 2 ^ 64) (hx : x < 64) : jlushr (lN a) (nI x) = lN (a / 2 ^ x) := by
  apply Int64.toBitVec_inj.mp
  apply BitVec.eq_of_toNat_eq
  show ((lN a).toUInt64 >>> ((nI x).toInt64.toUInt64 &&& Int64.toUInt64 63)).toNat = (BitVec.ofNat 64 (a / 2 ^ x)).toNat
  have hd : a / 2 ^ x < 2 ^ 64 := Nat.lt_of_le_of_lt (Nat.div_le_self _ _) ha
  rw [UInt64.toNat_shiftRight, shL_k x hx, BitVec.toNat_ofNat, Nat.mod_eq_of_lt hd, Nat.mod_eq_of_lt hx, Nat.shiftRight_eq_div_pow]
  have e : (lN a).toUInt64.toNat = a := by
    show (BitVec.ofNat 64 a).toNat = a
    rw [BitVec.toNat_ofNat, Nat.mod_eq_of_lt ha]
  rw [e]
theorem bitL {a x : Nat} (ha : a < 2 ^ 64) (hx : x < 64) : lg_cmp (jlushr (lN a) (nI x) &&& (1 : Int64)) (1 : Int64) = 0 ↔ a.testBit x = true := by
  rw [lg_cmp_eq, jlushr_n ha hx]
  have e : lN (a / 2 ^ x) &&& (1 : Int64) = lN (a / 2 ^ x % 2) := by
    have := lN_and (a / 2 ^ x) 1
    rw [Nat.and_one_is_mod] at this
    exact this
  rw [e, Nat.testBit_eq_decide_div_mod_eq, decide_eq_true_iff]
  have h2 : a / 2 ^ x % 2 < 2 := Nat.mod_lt _ (by decide)
  constructor
  · intro h
    exact lN_inj (by omega) (by decide) h
  · intro h
    rw [h]
    rfl
/-- a term is true for an input word -/
def tru (q : Tm) (x : Nat) : Bool := (x &&& q.1 == q.1) && (x &&& q.2.1 == 0)
def tt (i : Nat) (q : Tm) : Int64 := lN (mk (tru q) (2 ^ i))
theorem and_self_iff {a x : Nat} : x &&& a = a ↔ ∀ k, a.testBit k = true → x.testBit k = true := by
  constructor
  · intro h k hk
    rw [← h, Nat.testBit_and] at hk
    cases hx : x.testBit k
    · rw [hx, Bool.false_and] at hk
      exact absurd hk (by decide)
    · rfl
  · intro h
    apply Nat.eq_of_testBit_eq
    intro k
    rw [Nat.testBit_and]
    cases hk : a.testBit k
    · simp
    · rw [h k hk]
      rfl
/-- what the first k inputs ask of x -/
def trk (a z x : Nat) : Nat → Bool
  | 0 => true
  | k + 1 => trk a z x k && (!a.testBit k || x.testBit k) && (!z.testBit k || !x.testBit k)
theorem trk_iff (a z x : Nat) : ∀ k, trk a z x k = true ↔ ∀ j, j < k → (a.testBit j = true → x.testBit j = true) ∧ (z.testBit j = true → x.testBit j = false)
  | 0 => by
    constructor
    · intro _ j hj
      omega
    · intro _
      rfl
  | k + 1 => by
    have ih := trk_iff a z x k
    show (trk a z x k && (!a.testBit k || x.testBit k) && (!z.testBit k || !x.testBit k)) = true ↔ _
    rw [Bool.and_eq_true, Bool.and_eq_true, ih]
    constructor
    · intro ⟨⟨h1, h2⟩, h3⟩ j hj
      by_cases e : j = k
      · subst e
        cases ha : a.testBit j <;> cases hz : z.testBit j <;> cases hx : x.testBit j <;> simp_all
      · exact h1 j (by omega)
    · intro h
      refine ⟨⟨fun j hj => h j (by omega), ?_⟩, ?_⟩
      · have := (h k (by omega)).1
        cases ha : a.testBit k <;> cases hx : x.testBit k <;> simp_all
      · have := (h k (by omega)).2
        cases hz : z.testBit k <;> cases hx : x.testBit k <;> simp_all
theorem trk_all {q : Tm} {i : Nat} (h1 : q.1 < 2 ^ i) (h2 : q.2.1 < 2 ^ i) (x : Nat) : trk q.1 q.2.1 x i = tru q x := by
  apply Bool.eq_iff_iff.mpr
  rw [trk_iff]
  unfold tru
  rw [Bool.and_eq_true, beq_iff_eq, beq_iff_eq, and_self_iff, and0]
  constructor
  · intro h
    refine ⟨fun k hk => ?_, fun k hk => ?_⟩
    · by_cases hki : k < i
      · exact (h k hki).1 hk
      · rw [Nat.testBit_lt_two_pow (Nat.lt_of_lt_of_le h1 (Nat.pow_le_pow_right (by decide) (by omega)))] at hk
        exact absurd hk (by decide)
    · by_cases hki : k < i
      · have := (h k hki).2 hk.2
        rw [this] at hk
        exact absurd hk.1 (by decide)
      · rw [Nat.testBit_lt_two_pow (Nat.lt_of_lt_of_le h2 (Nat.pow_le_pow_right (by decide) (by omega)))] at hk
        exact absurd hk.2 (by decide)
  · intro ⟨ha, hz⟩ j hj
    refine ⟨ha j, fun h => ?_⟩
    cases hx : x.testBit j
    · rfl
    · exact absurd ⟨hx, h⟩ (hz j)
theorem wwL_eq : ∀ k, k < 6 → wwL k = lN (mk (fun x => x.testBit k) 64) := by decide +kernel
theorem sp_allWords {i : Nat} {K : Int64 → Prop} (h1 : 1 ≤ i) (h6 : i ≤ 6) (h : K (lN (mk (fun _ => true) (2 ^ i)))) : wp_X4_allWords (nI i) K := by
  unfold wp_X4_allWords
  rcases (show i = 1 ∨ i = 2 ∨ i = 3 ∨ i = 4 ∨ i = 5 ∨ i = 6 by omega) with rfl | rfl | rfl | rfl | rfl | rfl
  · exact ⟨fun _ => h, fun c => absurd c (by decide)⟩
  · exact ⟨fun _ => h, fun c => absurd c (by decide)⟩
  · exact ⟨fun _ => h, fun c => absurd c (by decide)⟩
  · exact ⟨fun _ => h, fun c => absurd c (by decide)⟩
  · exact ⟨fun _ => h, fun c => absurd c (by decide)⟩
  · exact ⟨fun c => absurd rfl c, fun _ => h⟩
theorem pow_le_64 {i : Nat} (h : i ≤ 6) : 2 ^ i ≤ 64 := Nat.pow_le_pow_right (n := 2) (by decide) h
theorem mk_lt64 (p : Nat → Bool) {n : Nat} (h : n ≤ 64) : mk p n < 2 ^ 64 := Nat.lt_of_lt_of_le (mk_lt p n) (Nat.pow_le_pow_right (by decide) h)
theorem sp_wordsOfTerm {i : Nat} {q : Tm} {K : Int64 → Prop} (h1 : 1 ≤ i) (h6 : i ≤ 6) (ha : q.1 < 2 ^ i) (hz : q.2.1 < 2 ^ i) (h : K (tt i q)) : wp_X4_wordsOfTerm (nI q.1) (nI q.2.1) (nI i) K := by
  unfold wp_X4_wordsOfTerm
  have hp := pow_le_64 h6
  have ha2 : q.1 < 2 ^ 31 := by omega
  have hz2 : q.2.1 < 2 ^ 31 := by omega
  refine sp_allWords h1 h6 ?_
  refine Lp2.up i (fun k f x => x = nI k ∧ f = lN (mk (fun x => trk q.1 q.2.1 x k) (2 ^ i))) 0 (by omega) ⟨rfl, rfl⟩ ?_
  rintro k f x J hk ⟨rfl, rfl⟩ hJ
  refine le_br (by omega) (by omega) (fun c => ?_) (fun c => ?_)
  · have e : k = i := by omega
    subst e
    have e2 : (fun x => trk q.1 q.2.1 x k) = tru q := by
      funext x
      exact trk_all ha hz x
    rw [e2]
    exact h
  · have hk6 : k < 6 := by omega
    have step2 : ∀ (p : Nat → Bool), (∀ x, trk q.1 q.2.1 x (k + 1) = (p x && (!q.2.1.testBit k || !x.testBit k))) → wp_X5_contains (nI q.2.1) (nI k) (fun r16 => ((r16 = 0 → J (lN (mk p (2 ^ i))) (nI k + 1)) ∧ (¬ (r16 = 0) → (vp_in (nI k) 6 ∧ J (lN (mk p (2 ^ i)) &&& ((wwL (nI k).toNatClampNeg) ^^^ (-1 : Int64))) (nI k + 1))))) := by
      intro p hp2
      refine sp_contains hz2 (by omega) (fun b => ⟨fun c => absurd c (by decide), fun _ => ⟨vp_in_nI hk6 (by decide), ?_⟩⟩) (fun b => ⟨fun _ => ?_, fun c => absurd rfl c⟩)
      · refine hJ _ _ c ⟨nI_1 k, ?_⟩
        rw [nI_clamp (by omega), wwL_eq k hk6, lN_diff]
        congr 1
        apply bits_eq (n := 64) (bdiff_le (mk_lt64 _ hp)) (mk_lt64 _ hp)
        intro x hx
        rw [bdiff_bit, mk_bit, mk_bit, mk_bit, hp2 x, b]
        cases decide (x < 2 ^ i) <;> cases p x <;> cases x.testBit k <;> simp [hx]
      · refine hJ _ _ c ⟨nI_1 k, ?_⟩
        congr 1
        apply bits_eq (n := 64) (mk_lt64 _ hp) (mk_lt64 _ hp)
        intro x hx
        rw [mk_bit, mk_bit, hp2 x, b]
        cases decide (x < 2 ^ i) <;> cases p x <;> rfl
    refine sp_contains ha2 (by omega) (fun b => ?_) (fun b => ?_)
    · refine Jn1.to (fun f => f = lN (mk (fun x => trk q.1 q.2.1 x k && x.testBit k) (2 ^ i))) ⟨fun c => absurd c (by decide), fun _ => ⟨vp_in_nI hk6 (by decide), ?_⟩⟩ ?_
      · rw [nI_clamp (by omega), wwL_eq k hk6, lN_and]
        congr 1
        apply bits_eq (n := 64) (Nat.and_lt_two_pow _ (mk_lt64 _ (by decide))) (mk_lt64 _ hp)
        intro x hx
        rw [Nat.testBit_and, mk_bit, mk_bit, mk_bit]
        cases decide (x < 2 ^ i) <;> cases trk q.1 q.2.1 x k <;> cases x.testBit k <;> simp [hx]
      · rintro f rfl
        refine step2 _ (fun x => ?_)
        show (trk q.1 q.2.1 x k && (!q.1.testBit k || x.testBit k) && (!q.2.1.testBit k || !x.testBit k)) = _
        rw [b]
        rfl
    · refine Jn1.to (fun f => f = lN (mk (fun x => trk q.1 q.2.1 x k) (2 ^ i))) ⟨fun _ => rfl, fun c => absurd rfl c⟩ ?_
      rintro f rfl
      refine step2 _ (fun x => ?_)
      show (trk q.1 q.2.1 x k && (!q.1.testBit k || x.testBit k) && (!q.2.1.testBit k || !x.testBit k)) = _
      rw [b]
      simp
