-- number of bits of a long word
def b64a (a : Int64) : Int64 := a - ((jlushr a (1 : Int32)) &&& (6148914691236517205 : Int64))
def b64b (y : Int64) : Int64 := (y &&& (3689348814741910323 : Int64)) + ((jlushr y (nI 2)) &&& (3689348814741910323 : Int64))
def b64c (y : Int64) : Int64 := (y + (jlushr y (nI 4))) &&& (1085102592571150095 : Int64)
def b64d (y : Int64) : Int64 := y + (jlushr y (nI 8))
def b64e (y : Int64) : Int64 := y + (jlushr y (nI 16))
def b64f (y : Int64) : Int64 := y + (jlushr y (nI 32))
theorem and_byte {u v U V : Nat} (hu : u < 256) (hv : v < 256) : (u + 256 * U) &&& (v + 256 * V) = (u &&& v) + 256 * (U &&& V) := by
  have e1 : ((u + 256 * U) &&& (v + 256 * V)) / 2 ^ 8 = (U &&& V) := by
    rw [Nat.and_div_two_pow]
    have a1 : (u + 256 * U) / 2 ^ 8 = U := by omega
    have a2 : (v + 256 * V) / 2 ^ 8 = V := by omega
    rw [a1, a2]
  have e2 : ((u + 256 * U) &&& (v + 256 * V)) % 2 ^ 8 = (u &&& v) := by
    rw [Nat.and_mod_two_pow]
    have a1 : (u + 256 * U) % 2 ^ 8 = u := by omega
    have a2 : (v + 256 * V) % 2 ^ 8 = v := by omega
    rw [a1, a2]
  omega
def ofB : List Nat → Nat
  | [] => 0
  | b :: l => b + 256 * ofB l
def pat (m : Nat) : List Nat → Nat
  | [] => 0
  | _ :: l => m + 256 * pat m l
def byA (b : Nat) : Nat := b - (b / 2 &&& 85)
def byB (b : Nat) : Nat := (b &&& 51) + (b / 4 &&& 51)
def byC (b : Nat) : Nat := (b + b / 16) &&& 15
def c8 (b : Nat) : Nat := cnt (fun t => b.testBit t) 8
theorem byA_k : ∀ b, b < 128 → ∀ k, k < 2 → (b + 128 * k) &&& 85 = b &&& 85 := by decide +kernel
theorem byB_k : ∀ b, b < 64 → ∀ k, k < 4 → (b + 64 * k) &&& 51 = b &&& 51 := by decide +kernel
theorem byC_k : ∀ b, b < 69 → ∀ k, k < 5 → (b + b / 16 + 16 * k) &&& 15 = (b + b / 16) &&& 15 := by decide +kernel
theorem by_k : ∀ b, b < 256 → byA b < 256 ∧ byB (byA b) < 69 ∧ byB (byA b) % 16 < 5 ∧ byC (byB (byA b)) = c8 b ∧ c8 b ≤ 8 := by decide +kernel
theorem stA : ∀ l : List Nat, (∀ b, b ∈ l → b < 256) → ofB l / 2 &&& pat 85 l ≤ ofB l ∧ ofB l - (ofB l / 2 &&& pat 85 l) = ofB (l.map byA)
  | [], _ => ⟨by decide, by decide⟩
  | b :: l, h => by
    have hb := h b List.mem_cons_self
    obtain ⟨i1, i2⟩ := stA l (fun c hc => h c (List.mem_cons_of_mem _ hc))
    have e : (b + 256 * ofB l) / 2 = (b / 2 + 128 * (ofB l % 2)) + 256 * (ofB l / 2) := by omega
    have e2 : (b + 256 * ofB l) / 2 &&& (85 + 256 * pat 85 l) = (b / 2 &&& 85) + 256 * (ofB l / 2 &&& pat 85 l) := by
      rw [e, and_byte (by omega) (by omega), byA_k (b / 2) (by omega) (ofB l % 2) (by omega)]
    have e3 : b / 2 &&& 85 ≤ b / 2 := Nat.and_le_left
    show (b + 256 * ofB l) / 2 &&& (85 + 256 * pat 85 l) ≤ b + 256 * ofB l ∧ (b + 256 * ofB l) - ((b + 256 * ofB l) / 2 &&& (85 + 256 * pat 85 l)) = (b - (b / 2 &&& 85)) + 256 * ofB (l.map byA)
    rw [e2]
    generalize (b / 2 &&& 85) = u at e3 ⊢
    generalize (ofB l / 2 &&& pat 85 l) = U at i1 i2 ⊢
    exact ⟨by omega, by omega⟩
theorem stB : ∀ l : List Nat, (∀ b, b ∈ l → b < 256) → (ofB l &&& pat 51 l) + (ofB l / 4 &&& pat 51 l) = ofB (l.map byB)
  | [], _ => by decide
  | b :: l, h => by
    have hb := h b List.mem_cons_self
    have i2 := stB l (fun c hc => h c (List.mem_cons_of_mem _ hc))
    have e : (b + 256 * ofB l) / 4 = (b / 4 + 64 * (ofB l % 4)) + 256 * (ofB l / 4) := by omega
    have e2 : (b + 256 * ofB l) / 4 &&& (51 + 256 * pat 51 l) = (b / 4 &&& 51) + 256 * (ofB l / 4 &&& pat 51 l) := by
      rw [e, and_byte (by omega) (by omega), byB_k (b / 4) (by omega) (ofB l % 4) (by omega)]
    have e3 : (b + 256 * ofB l) &&& (51 + 256 * pat 51 l) = (b &&& 51) + 256 * (ofB l &&& pat 51 l) := and_byte hb (by omega)
    show ((b + 256 * ofB l) &&& (51 + 256 * pat 51 l)) + ((b + 256 * ofB l) / 4 &&& (51 + 256 * pat 51 l)) = ((b &&& 51) + (b / 4 &&& 51)) + 256 * ofB (l.map byB)
    rw [e2, e3]
    omega
theorem stC : ∀ l : List Nat, (∀ b, b ∈ l → b < 69 ∧ b % 16 < 5) → (ofB l % 16 < 5) ∧ (ofB l + ofB l / 16) &&& pat 15 l = ofB (l.map byC)
  | [], _ => ⟨by decide, by decide⟩
  | b :: l, h => by
    obtain ⟨hb, hb2⟩ := h b List.mem_cons_self
    obtain ⟨i1, i2⟩ := stC l (fun c hc => h c (List.mem_cons_of_mem _ hc))
    have e : (b + 256 * ofB l) + (b + 256 * ofB l) / 16 = (b + b / 16 + 16 * (ofB l % 16)) + 256 * (ofB l + ofB l / 16) := by omega
    refine ⟨?_, ?_⟩
    · show (b + 256 * ofB l) % 16 < 5
      omega
    · show ((b + 256 * ofB l) + (b + 256 * ofB l) / 16) &&& (15 + 256 * pat 15 l) = ((b + b / 16) &&& 15) + 256 * ofB (l.map byC)
      rw [e, and_byte (by omega) (by omega), byC_k b hb (ofB l % 16) i1, i2]
theorem cnt_split (p : Nat → Bool) (m : Nat) : ∀ n, cnt p (m + n) = cnt p m + cnt (fun t => p (m + t)) n
  | 0 => rfl
  | n + 1 => by
    show cnt p (m + n) + (if p (m + n) then 1 else 0) = cnt p m + (cnt (fun t => p (m + t)) n + (if p (m + n) then 1 else 0))
    rw [cnt_split p m n]
    omega
def smB : List Nat → Nat
  | [] => 0
  | b :: l => c8 b + smB l
theorem cnt_same {p q : Nat → Bool} : ∀ n, (∀ t, t < n → p t = q t) → cnt p n = cnt q n
  | 0, _ => rfl
  | n + 1, h => by
    show cnt p n + (if p n then 1 else 0) = cnt q n + (if q n then 1 else 0)
    rw [cnt_same n (fun t ht => h t (by omega)), h n (by omega)]
theorem cntB : ∀ l : List Nat, (∀ b, b ∈ l → b < 256) → cnt (fun t => (ofB l).testBit t) (8 * l.length) = smB l
  | [], _ => rfl
  | b :: l, h => by
    have hb := h b List.mem_cons_self
    have i := cntB l (fun c hc => h c (List.mem_cons_of_mem _ hc))
    have e : 8 * (b :: l).length = 8 + 8 * l.length := by rw [List.length_cons]; omega
    have t : ∀ j, (ofB (b :: l)).testBit j = if j < 8 then b.testBit j else (ofB l).testBit (j - 8) := by
      intro j
      have e2 : ofB (b :: l) = 2 ^ 8 * ofB l + b := by
        show b + 256 * ofB l = 2 ^ 8 * ofB l + b
        omega
      rw [e2]
      exact Nat.testBit_two_pow_mul_add (ofB l) hb j
    rw [e, cnt_split]
    show _ = c8 b + smB l
    rw [← i]
    refine congr (congrArg HAdd.hAdd (cnt_same 8 (fun j hj => ?_))) (cnt_same _ (fun j hj => ?_))
    · rw [t, if_pos hj]
    · rw [t, if_neg (by omega)]
      congr 1
      omega
def digs : Nat → Nat → List Nat
  | _, 0 => []
  | x, n + 1 => x % 256 :: digs (x / 256) n
theorem digs_of : ∀ n x, x < 256 ^ n → ofB (digs x n) = x
  | 0, x, h => by
    have h : x < 1 := h
    show 0 = x
    omega
  | n + 1, x, h => by
    show x % 256 + 256 * ofB (digs (x / 256) n) = x
    rw [Nat.pow_succ] at h
    rw [digs_of n (x / 256) (by omega)]
    omega
theorem digs_lt : ∀ n x b, b ∈ digs x n → b < 256
  | 0, x, b, h => by
    have h : b ∈ ([] : List Nat) := h
    exact absurd h List.not_mem_nil
  | n + 1, x, b, h => by
    have h : b ∈ x % 256 :: digs (x / 256) n := h
    rcases List.mem_cons.mp h with e | e
    · rw [e]
      exact Nat.mod_lt _ (by decide)
    · exact digs_lt n (x / 256) b e
def dig (x : Nat) : List Nat := digs x 8
theorem dig_of {x : Nat} (hx : x < 2 ^ 64) : ofB (dig x) = x := digs_of 8 x hx
theorem dig_lt (x : Nat) : ∀ b, b ∈ dig x → b < 256 := digs_lt 8 x
theorem dv1 {r q : Nat} (h : r < 256) : (r + 256 * q) / 256 = q := by omega
theorem dv2 {r s q : Nat} (h : r < 256) (h2 : s < 256) : (r + 256 * (s + 256 * q)) / 65536 = q := by
  rw [show 65536 = 256 * 256 from rfl, ← Nat.div_div_eq_div_mul, dv1 h, dv1 h2]
theorem dv4 {r s t u q : Nat} (h : r < 256) (h2 : s < 256) (h3 : t < 256) (h4 : u < 256) : (r + 256 * (s + 256 * (t + 256 * (u + 256 * q)))) / 4294967296 = q := by
  rw [show 4294967296 = 65536 * 65536 from rfl, ← Nat.div_div_eq_div_mul, dv2 h h2, dv2 h3 h4]
theorem md1 {r q : Nat} (h : r < 128) : (r + 256 * q) % 128 = r := by omega
theorem bd1 {r q N : Nat} (h : r ≤ 64) (hq : q < N) : r + 256 * q < 256 * N := by omega
theorem sumY {a b c d e f g h : Nat} (ha : a ≤ 8) : (a + 256 * (b + 256 * (c + 256 * (d + 256 * (e + 256 * (f + 256 * (g + 256 * (h + 256 * 0)))))))) + (a + 256 * (b + 256 * (c + 256 * (d + 256 * (e + 256 * (f + 256 * (g + 256 * (h + 256 * 0)))))))) / 256 = (a + b) + 256 * ((b + c) + 256 * ((c + d) + 256 * ((d + e) + 256 * ((e + f) + 256 * ((f + g) + 256 * ((g + h) + 256 * h)))))) := by
  rw [dv1 (by omega)]
  omega
theorem sumZ {a b c d e f g h : Nat} (ha : a ≤ 16) (hb : b ≤ 16) : (a + 256 * (b + 256 * (c + 256 * (d + 256 * (e + 256 * (f + 256 * (g + 256 * h))))))) + (a + 256 * (b + 256 * (c + 256 * (d + 256 * (e + 256 * (f + 256 * (g + 256 * h))))))) / 65536 = (a + c) + 256 * ((b + d) + 256 * ((c + e) + 256 * ((d + f) + 256 * ((e + g) + 256 * ((f + h) + 256 * (g + 256 * h)))))) := by
  rw [dv2 (by omega) (by omega)]
  omega
theorem sumW {a b c d e f g h : Nat} (ha : a ≤ 32) (hb : b ≤ 32) (hc : c ≤ 32) (hd : d ≤ 32) : (a + 256 * (b + 256 * (c + 256 * (d + 256 * (e + 256 * (f + 256 * (g + 256 * h))))))) + (a + 256 * (b + 256 * (c + 256 * (d + 256 * (e + 256 * (f + 256 * (g + 256 * h))))))) / 4294967296 = (a + e) + 256 * ((b + f) + 256 * ((c + g) + 256 * ((d + h) + 256 * (e + 256 * (f + 256 * (g + 256 * h)))))) := by
  rw [dv4 (by omega) (by omega) (by omega) (by omega)]
  omega
theorem bd8 {a b c d e f g h : Nat} (ha : a ≤ 64) (hb : b ≤ 64) (hc : c ≤ 64) (hd : d ≤ 64) (he : e ≤ 64) (hf : f ≤ 64) (hg : g ≤ 64) (hh : h ≤ 64) : a + 256 * (b + 256 * (c + 256 * (d + 256 * (e + 256 * (f + 256 * (g + 256 * h)))))) < 2 ^ 64 := by
  have h0 : h < 256 := by omega
  exact bd1 ha (bd1 hb (bd1 hc (bd1 hd (bd1 he (bd1 hf (bd1 hg h0))))))
theorem ofB_lt : ∀ l : List Nat, (∀ b, b ∈ l → b < 256) → ofB l < 256 ^ l.length
  | [], _ => by decide
  | b :: l, h => by
    have hb := h b List.mem_cons_self
    have i := ofB_lt l (fun c hc => h c (List.mem_cons_of_mem _ hc))
    show b + 256 * ofB l < 256 ^ (l.length + 1)
    rw [Nat.pow_succ]
    omega
theorem pat85 (x : Nat) : pat 85 (dig x) = 6148914691236517205 := by
  simp only [dig, digs, pat]
theorem pat51 (x : Nat) : pat 51 ((dig x).map byA) = 3689348814741910323 := by
  simp only [dig, digs, pat, List.map_cons, List.map_nil]
theorem pat15 (x : Nat) : pat 15 (((dig x).map byA).map byB) = 1085102592571150095 := by
  simp only [dig, digs, pat, List.map_cons, List.map_nil]
theorem b64a_eq {x : Nat} (hx : x < 2 ^ 64) : b64a (lN x) = lN (ofB ((dig x).map byA)) := by
  obtain ⟨i1, i2⟩ := stA (dig x) (dig_lt x)
  rw [dig_of hx, pat85] at i1 i2
  show lN x - (jlushr (lN x) (nI 1) &&& lN 6148914691236517205) = _
  rw [jlushr_n hx (by decide), lN_and, lN_sub i1]
  exact congrArg lN i2
theorem mapA_lt (x : Nat) : ∀ b, b ∈ (dig x).map byA → b < 256 := by
  intro b hb
  obtain ⟨c, hc, rfl⟩ := List.mem_map.mp hb
  exact (by_k c (dig_lt x c hc)).1
theorem mapB_lt (x : Nat) : ∀ b, b ∈ ((dig x).map byA).map byB → b < 69 ∧ b % 16 < 5 := by
  intro b hb
  obtain ⟨d, hd, rfl⟩ := List.mem_map.mp hb
  obtain ⟨c, hc, rfl⟩ := List.mem_map.mp hd
  obtain ⟨-, k1, k2, -⟩ := by_k c (dig_lt x c hc)
  exact ⟨k1, k2⟩
theorem lenA (x : Nat) : ((dig x).map byA).length = 8 := by
  rw [List.length_map]
  rfl
theorem b64b_eq (x : Nat) : b64b (lN (ofB ((dig x).map byA))) = lN (ofB (((dig x).map byA).map byB)) := by
  have i := stB ((dig x).map byA) (mapA_lt x)
  have l := ofB_lt _ (mapA_lt x)
  rw [lenA] at l
  have l : ofB ((dig x).map byA) < 2 ^ 64 := Nat.lt_of_lt_of_le l (by decide)
  rw [pat51] at i
  show (lN (ofB ((dig x).map byA)) &&& lN 3689348814741910323) + (jlushr (lN (ofB ((dig x).map byA))) (nI 2) &&& lN 3689348814741910323) = _
  rw [jlushr_n l (by decide), lN_and, lN_and, lN_add]
  exact congrArg lN i
theorem b64c_eq (x : Nat) : b64c (lN (ofB (((dig x).map byA).map byB))) = lN (ofB ((((dig x).map byA).map byB).map byC)) := by
  obtain ⟨-, i⟩ := stC (((dig x).map byA).map byB) (mapB_lt x)
  have l := ofB_lt (((dig x).map byA).map byB) (fun b hb => Nat.lt_of_lt_of_le (mapB_lt x b hb).1 (by decide))
  rw [List.length_map, lenA] at l
  have l : ofB (((dig x).map byA).map byB) < 2 ^ 64 := Nat.lt_of_lt_of_le l (by decide)
  rw [pat15] at i
  show (lN (ofB (((dig x).map byA).map byB)) + jlushr (lN (ofB (((dig x).map byA).map byB))) (nI 4)) &&& lN 1085102592571150095 = _
  rw [jlushr_n l (by decide), lN_add, lN_and]
  exact congrArg lN i
theorem tail64 {a b c d e f g h : Nat} (ha : a ≤ 8) (hb : b ≤ 8) (hc : c ≤ 8) (hd : d ≤ 8) (he : e ≤ 8) (hf : f ≤ 8) (hg : g ≤ 8) (hh : h ≤ 8) : (b64f (b64e (b64d (lN (a + 256 * (b + 256 * (c + 256 * (d + 256 * (e + 256 * (f + 256 * (g + 256 * (h + 256 * 0)))))))))))).toInt32 &&& nI 127 = nI (a + (b + (c + (d + (e + (f + (g + (h + 0)))))))) := by
  have k1 : b64d (lN (a + 256 * (b + 256 * (c + 256 * (d + 256 * (e + 256 * (f + 256 * (g + 256 * (h + 256 * 0))))))))) = lN ((a + b) + 256 * ((b + c) + 256 * ((c + d) + 256 * ((d + e) + 256 * ((e + f) + 256 * ((f + g) + 256 * ((g + h) + 256 * h))))))) := by
    unfold b64d
    rw [jlushr_n (bd8 (by omega) (by omega) (by omega) (by omega) (by omega) (by omega) (by omega) (by omega)) (by decide), lN_add]
    exact congrArg lN (sumY ha)
  rw [k1]
  have k2 : b64e (lN ((a + b) + 256 * ((b + c) + 256 * ((c + d) + 256 * ((d + e) + 256 * ((e + f) + 256 * ((f + g) + 256 * ((g + h) + 256 * h)))))))) = lN ((a + b + (c + d)) + 256 * ((b + c + (d + e)) + 256 * ((c + d + (e + f)) + 256 * ((d + e + (f + g)) + 256 * ((e + f + (g + h)) + 256 * ((f + g + h) + 256 * ((g + h) + 256 * h))))))) := by
    unfold b64e
    rw [jlushr_n (bd8 (by omega) (by omega) (by omega) (by omega) (by omega) (by omega) (by omega) (by omega)) (by decide), lN_add]
    exact congrArg lN (sumZ (by omega) (by omega))
  rw [k2]
  have k3 : b64f (lN ((a + b + (c + d)) + 256 * ((b + c + (d + e)) + 256 * ((c + d + (e + f)) + 256 * ((d + e + (f + g)) + 256 * ((e + f + (g + h)) + 256 * ((f + g + h) + 256 * ((g + h) + 256 * h)))))))) = lN ((a + b + (c + d) + (e + f + (g + h))) + 256 * ((b + c + (d + e) + (f + g + h)) + 256 * ((c + d + (e + f) + (g + h)) + 256 * ((d + e + (f + g) + h) + 256 * ((e + f + (g + h)) + 256 * ((f + g + h) + 256 * ((g + h) + 256 * h))))))) := by
    unfold b64f
    rw [jlushr_n (bd8 (by omega) (by omega) (by omega) (by omega) (by omega) (by omega) (by omega) (by omega)) (by decide), lN_add]
    exact congrArg lN (sumW (by omega) (by omega) (by omega) (by omega))
  rw [k3]
  have e9 : ∀ n, (lN n).toInt32 = nI n := fun n => Int64.toInt32_ofNat'
  rw [e9, nI_and]
  have e2 : ∀ n : Nat, n &&& 127 = n % 128 := fun n => Nat.and_two_pow_sub_one_eq_mod n 7
  rw [e2, md1 (by omega)]
  exact congrArg nI (by omega)
theorem tailL {a b c d e f g h : Nat} {K : Int32 → Prop} (hc : ∀ x, x ∈ [a, b, c, d, e, f, g, h] → c8 x ≤ 8) (hk : K (nI (smB [a, b, c, d, e, f, g, h]))) : K ((b64f (b64e (b64d (lN (ofB ([a, b, c, d, e, f, g, h].map c8)))))).toInt32 &&& nI 127) := by
  have m := tail64 (hc a (by simp)) (hc b (by simp)) (hc c (by simp)) (hc d (by simp)) (hc e (by simp)) (hc f (by simp)) (hc g (by simp)) (hc h (by simp))
  have hk : K (nI (c8 a + (c8 b + (c8 c + (c8 d + (c8 e + (c8 f + (c8 g + (c8 h + 0))))))))) := hk
  rw [← m] at hk
  exact hk
theorem sp_bitCount64 {x : Nat} {K : Int32 → Prop} (hx : x < 2 ^ 64) (h : K (nI (cnt (fun t => x.testBit t) 64))) : wp_J13_bitCount_95d88 (lN x) K := by
  show K ((b64f (b64e (b64d (b64c (b64b (b64a (lN x))))))).toInt32 &&& nI 127)
  rw [b64a_eq hx, b64b_eq, b64c_eq]
  have hm : (((dig x).map byA).map byB).map byC = (dig x).map c8 := by
    rw [List.map_map, List.map_map]
    exact List.map_congr_left (fun b hb => (by_k b (dig_lt x b hb)).2.2.2.1)
  rw [hm]
  have hc : ∀ b, b ∈ dig x → c8 b ≤ 8 := fun b hb => (by_k b (dig_lt x b hb)).2.2.2.2
  have hs := cntB (dig x) (dig_lt x)
  rw [dig_of hx] at hs
  have hs : cnt (fun t => x.testBit t) 64 = smB (dig x) := hs
  rw [hs] at h
  exact tailL hc h
