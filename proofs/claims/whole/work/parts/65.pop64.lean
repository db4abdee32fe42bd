-- number of bits of a long word
def b64a (a : Int64) : Int64 := a - ((jlushr a (1 : Int32)) &&& (6148914691236517205 : Int64))
def b64b (y : Int64) : Int64 := (y &&& (3689348814741910323 : Int64)) + ((jlushr y (nI 2)) &&& (3689348814741910323 : Int64))
def b64c (y : Int64) : Int64 := (y + (jlushr y (nI 4))) &&& (1085102592571150095 : Int64)
def b64d (y : Int64) : Int64 := y + (jlushr y (nI 8))
def b64e (y : Int64) : Int64 := y + (jlushr y (nI 16))
def b64f (y : Int64) : Int64 := y + (jlushr y (nI 32))
theorem and_byte {u v U V : Nat} (hu : u < 256) (hv : v < 256) : (u + 256 * U) &&& (v + 256 * V) = (u &&& v) + 256 * (U &&& V) := by
  have e1 : ((u + 256 * U) &&& (v + 256 * V)) / 2 ^ 8 = (U &&& V) := by
    rw [Nat.and_div_two_pow]
    have a1 : (u + 256 * U) / 2 ^ 8 = U := by omega
    have a2 : (v + 256 * V) / 2 ^ 8 = V := by omega
    rw [a1, a2]
  have e2 : ((u + 256 * U) &&& (v + 256 * V)) % 2 ^ 8 = (u &&& v) := by
    rw [Nat.and_mod_two_pow]
    have a1 : (u + 256 * U) % 2 ^ 8 = u := by omega
    have a2 : (v + 256 * V) % 2 ^ 8 = v := by omega
    rw [a1, a2]
  omega
def ofB : List Nat → Nat
  | [] => 0
  | b :: l => b + 256 * ofB l
def pat (m : Nat) : List Nat → Nat
  | [] => 0
  | _ :: l => m + 256 * pat m l
def byA (b : Nat) : Nat := b - (b / 2 &&& 85)
def byB (b : Nat) : Nat := (b &&& 51) + (b / 4 &&& 51)
def byC (b : Nat) : Nat := (b + b / 16) &&& 15
def c8 (b : Nat) : Nat := cnt (fun t => b.testBit t) 8
theorem byA_k : ∀ b, b < 128 → ∀ k, k < 2 → (b + 128 * k) &&& 85 = b &&& 85 := by decide +kernel
theorem byB_k : ∀ b, b < 64 → ∀ k, k < 4 → (b + 64 * k) &&& 51 = b &&& 51 := by decide +kernel
theorem byC_k : ∀ b, b < 69 → ∀ k, k < 5 → (b + b / 16 + 16 * k) &&& 15 = (b + b / 16) &&& 15 := by decide +kernel
theorem by_k : ∀ b, b < 256 → byA b < 256 ∧ byB (byA b) < 69 ∧ byB (byA b) % 16 < 5 ∧ byC (byB (byA b)) = c8 b ∧ c8 b ≤ 8 := by decide +kernel
theorem stA : ∀ l : List Nat, (∀ b, b ∈ l → b < 256) → ofB l / 2 &&& pat 85 l ≤ ofB l ∧ ofB l - (ofB l / 2 &&& pat 85 l) = ofB (l.map byA)
  | [], _ => ⟨by decide, by decide⟩
  | b :: l, h => by
    have hb := h b List.mem_cons_self
    obtain ⟨i1, i2⟩ := stA l (fun c hc => h c (List.mem_cons_of_mem _ hc))
    have e : (b + 256 * ofB l) / 2 = (b / 2 + 128 * (ofB l % 2)) + 256 * (ofB l / 2) := by omega
    have e2 : (b + 256 * ofB l) / 2 &&& (85 + 256 * pat 85 l) = (b / 2 &&& 85) + 256 * (ofB l / 2 &&& pat 85 l) := by
      rw [e, and_byte (by omega) (by omega), byA_k (b / 2) (by omega) (ofB l % 2) (by omega)]
    have e3 : b / 2 &&& 85 ≤ b / 2 := Nat.and_le_left
    show (b + 256 * ofB l) / 2 &&& (85 + 256 * pat 85 l) ≤ b + 256 * ofB l ∧ (b + 256 * ofB l) - ((b + 256 * ofB l) / 2 &&& (85 + 256 * pat 85 l)) = (b - (b / 2 &&& 85)) + 256 * ofB (l.map byA)
    rw [e2]
    generalize (b / 2 &&& 85) = u at e3 ⊢
    generalize (ofB l / 2 &&& pat 85 l) = U at i1 i2 ⊢
    exact ⟨by omega, by omega⟩
theorem stB : ∀ l : List Nat, (∀ b, b ∈ l → b < 256) → (ofB l &&& pat 51 l) + (ofB l / 4 &&& pat 51 l) = ofB (l.map byB)
  | [], _ => by decide
  | b :: l, h => by
    have hb := h b List.mem_cons_self
    have i2 := stB l (fun c hc => h c (List.mem_cons_of_mem _ hc))
    have e : (b + 256 * ofB l) / 4 = (b / 4 + 64 * (ofB l % 4)) + 256 * (ofB l / 4) := by omega
    have e2 : (b + 256 * ofB l) / 4 &&& (51 + 256 * pat 51 l) = (b / 4 &&& 51) + 256 * (ofB l / 4 &&& pat 51 l) := by
      rw [e, and_byte (by omega) (by omega), byB_k (b / 4) (by omega) (ofB l % 4) (by omega)]
    have e3 : (b + 256 * ofB l) &&& (51 + 256 * pat 51 l) = (b &&& 51) + 256 * (ofB l &&& pat 51 l) := and_byte hb (by omega)
    show ((b + 256 * ofB l) &&& (51 + 256 * pat 51 l)) + ((b + 256 * ofB l) / 4 &&& (51 + 256 * pat 51 l)) = ((b &&& 51) + (b / 4 &&& 51)) + 256 * ofB (l.map byB)
    rw [e2, e3]
    omega
theorem stC : ∀ l : List Nat, (∀ b, b ∈ l → b < 69 ∧ b % 16 < 5) → (ofB l % 16 < 5) ∧ (ofB l + ofB l / 16) &&& pat 15 l = ofB (l.map byC)
  | [], _ => ⟨by decide, by decide⟩
  | b :: l, h => by
    obtain ⟨hb, hb2⟩ := h b List.mem_cons_self
    obtain ⟨i1, i2⟩ := stC l (fun c hc => h c (List.mem_cons_of_mem _ hc))
    have e : (b + 256 * ofB l) + (b + 256 * ofB l) / 16 = (b + b / 16 + 16 * (ofB l % 16)) + 256 * (ofB l + ofB l / 16) := by omega
    refine ⟨?_, ?_⟩
    · show (b + 256 * ofB l) % 16 < 5
      omega
    · show ((b + 256 * ofB l) + (b + 256 * ofB l) / 16) &&& (15 + 256 * pat 15 l) = ((b + b / 16) &&& 15) + 256 * ofB (l.map byC)
      rw [e, and_byte (by omega) (by omega), byC_k b hb (ofB l % 16) i1, i2]
theorem cnt_split (p : Nat → Bool) (m : Nat) : ∀ n, cnt p (m + n) = cnt p m + cnt (fun t => p (m + t)) n
  | 0 => rfl
  | n + 1 => by
    show cnt p (m + n) + (if p (m + n) then 1 else 0) = cnt p m + (cnt (fun t => p (m + t)) n + (if p (m + n) then 1 else 0))
    rw [cnt_split p m n]
    omega
def smB : List Nat → Nat
  | [] => 0
  | b :: l => c8 b + smB l
theorem cnt_same {p q : Nat → Bool} : ∀ n, (∀ t, t < n → p t = q t) → cnt p n = cnt q n
  | 0, _ => rfl
  | n + 1, h => by
    show cnt p n + (if p n then 1 else 0) = cnt q n + (if q n then 1 else 0)
    rw [cnt_same n (fun t ht => h t (by omega)), h n (by omega)]
theorem cntB : ∀ l : List Nat, (∀ b, b ∈ l → b < 256) → cnt (fun t => (ofB l).testBit t) (8 * l.length) = smB l
  | [], _ => rfl
  | b :: l, h => by
    have hb := h b List.mem_cons_self
    have i := cntB l (fun c hc => h c (List.mem_cons_of_mem _ hc))
    have e : 8 * (b :: l).length = 8 + 8 * l.length := by rw [List.length_cons]; omega
    have t : ∀ j, (ofB (b :: l)).testBit j = if j < 8 then b.testBit j else (ofB l).testBit (j - 8) := by
      intro j
      have e2 : ofB (b :: l) = 2 ^ 8 * ofB l + b := by
        show b + 256 * ofB l = 2 ^ 8 * ofB l + b
        omega
      rw [e2]
      exact Nat.testBit_two_pow_mul_add (ofB l) hb j
    rw [e, cnt_split]
    show _ = c8 b + smB l
    rw [← i]
    refine congr (congrArg HAdd.hAdd (cnt_same 8 (fun j hj => ?_))) (cnt_same _ (fun j hj => ?_))
    · rw [t, if_pos hj]
    · rw [t, if_neg (by omega)]
      congr 1
      omega
def digs : Nat → Nat → List Nat
  | _, 0 => []
  | x, n + 1 => x % 256 :: digs (x / 256) n
theorem digs_of : ∀ n x, x < 256 ^ n → ofB (digs x n) = x
  | 0, x, h => by
    have h : x < 1 := h
    show 0 = x
    omega
  | n + 1, x, h => by
    show x % 256 + 256 * ofB (digs (x / 256) n) = x
    rw [Nat.pow_succ] at h
    rw [digs_of n (x / 256) (by omega)]
    omega
theorem digs_lt : ∀ n x b, b ∈ digs x n → b < 256
  | 0, x, b, h => by
    have h : b ∈ ([] : List Nat) := h
    exact absurd h List.not_mem_nil
  | n + 1, x, b, h => by
    have h : b ∈ x % 256 :: digs (x / 256) n := h
    rcases List.mem_cons.mp h with e | e
    · rw [e]
      exact Nat.mod_lt _ (by decide)
    · exact digs_lt n (x / 256) b e
def dig (x : Nat) : List Nat := digs x 8
theorem dig_of {x : Nat} (hx : x < 2 ^ 64) : ofB (dig x) = x := digs_of 8 x hx
theorem dig_lt (x : Nat) : ∀ b, b ∈ dig x → b < 256 := digs_lt 8 x
theorem dv1 {r q : Nat} (h : r < 256) : (r + 256 * q) / 256 = q := by omega
theorem dv2 {r s q : Nat} (h : r < 256) (h2 : s < 256) : (r + 256 * (s + 256 * q)) / 65536 = q := by
  rw [show 65536 = 256 * 256 from rfl, ← Nat.div_div_eq_div_mul, dv1 h, dv1 h2]
theorem dv4 {r s t u q : Nat} (h : r < 256) (h2 : s < 256) (h3 : t < 256) (h4 : u < 256) : (r + 256 * (s + 256 * (t + 256 * (u + 256 * q)))) / 4294967296 = q := by
  rw [show 4294967296 = 65536 * 65536 from rfl, ← Nat.div_div_eq_div_mul, dv2 h h2, dv2 h3 h4]
theorem md1 {r q : Nat} (h : r < 128) : (r + 256 * q) % 128 = r := by omega
theorem bd1 {r q N : Nat} (h : r ≤ 64) (hq : q < N) : r + 256 * q < 256 * N := by omega
