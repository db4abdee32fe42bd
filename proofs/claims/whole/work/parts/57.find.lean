-- the first list of so many folds
def OkF (S : AS) (m : Nat) (l : Nat → Nat) : Prop := (∀ j, j < m → l j < 100 ∧ fitP S (l j / 10) (l j % 10)) ∧ (∀ i j, i < j → j < m → l i / 10 < l j / 10) ∧ Cdj m l ∧ Acyc (LRf S.2.2.1 m l)
theorem OkF.sub {S : AS} {m k : Nat} {l : Nat → Nat} (h : OkF S m l) (hk : k ≤ m) : OkF S k l := by
  obtain ⟨h1, h2, h3, h4⟩ := h
  refine ⟨fun j hj => h1 j (by omega), fun i j hi hj => h2 i j hi (by omega), fun i j hi hj => h3 i j hi (by omega), fun t ht => h4 t (ht.mono (fun a b ⟨j, hj, q⟩ => ⟨j, by omega, q⟩))⟩
theorem OkF.congr {S : AS} {m : Nat} {l g : Nat → Nat} (h : OkF S m l) (e : ∀ j, j < m → l j = g j) : OkF S m g := by
  obtain ⟨h1, h2, h3, h4⟩ := h
  refine ⟨fun j hj => by rw [← e j hj]; exact h1 j hj, fun i j hi hj => by rw [← e i (by omega), ← e j hj]; exact h2 i j hi hj, fun i j hi hj => by rw [← e i (by omega), ← e j hj]; exact h3 i j hi hj, fun t ht => h4 t ((TC.congr (LRf_congr e)).mpr ht)⟩
theorem OkF.zero {S : AS} {l : Nat → Nat} : OkF S 0 l := ⟨fun j hj => by omega, fun i j hi hj => by omega, fun i j hi hj => by omega, fun t ht => by
  obtain ⟨c, ⟨j, hj, -⟩, -⟩ := ht.last
  omega⟩
/-- g is not before l -/
def LexGe (m : Nat) (l g : Nat → Nat) : Prop := (∀ j, j < m → g j = l j) ∨ ∃ k, k < m ∧ (∀ j, j < k → g j = l j) ∧ l k < g k
def sW (l : Nat → Nat) : Nat → Nat
  | 0 => 0
  | n + 1 => sW l n + (100 - l n) * 101 ^ (6 - n)
theorem sW_congr {l g : Nat → Nat} : ∀ n, (∀ j, j < n → l j = g j) → sW l n = sW g n
  | 0, _ => rfl
  | n + 1, e => by
    show sW l n + (100 - l n) * 101 ^ (6 - n) = sW g n + (100 - g n) * 101 ^ (6 - n)
    rw [sW_congr n (fun j hj => e j (by omega)), e n (by omega)]
theorem sp_findList {nw us un od li : Nat → Int32} {lm : Int32} {S : AS} {M : Nat} {K : Int32 → (Nat → Int32) → (Nat → Int32) → (Nat → Int32) → Int32 → Prop} (hR : RepM nw S) (hz : Size S) (hus : ∀ c, c < 10 → us c = nI (use S.2.2.1 c)) (hM : M ≤ 5)
    (h1 : ∀ l un2 od2 li2, OkF S M l → (∀ g, OkF S M g → LexGe M l g) → (∀ j, j < M → li2 j = nI (l j)) → K 1 un2 od2 li2 (nI M)) (h0 : (∀ g, ¬ OkF S M g) → ∀ un2 od2 li2, K 0 un2 od2 li2 (nI M)) : wp_X6_findList (nI M) nw us un od li lm K := by
  unfold wp_X6_findList
  refine Lp4.dn (101 * 101 ^ 6) (fun m x _ _ z => (∃ n l c, x = nI n ∧ n ≤ M ∧ m = sW l n + (101 - c) * 101 ^ (6 - n) ∧ OkF S n l ∧ (∀ j, j < n → z j = nI (l j)) ∧ c ≤ 100 ∧ (n < M → z n + 1 = nI c) ∧ (∀ j, j < n → 10 * (l j / 10) + 10 ≤ c) ∧ ∀ g, OkF S M g → (∃ k, k < n ∧ (∀ j, j < k → g j = l j) ∧ l k < g k) ∨ ((∀ j, j < n → g j = l j) ∧ (n < M → c ≤ g n))) ∨ (x = -1 ∧ ∀ g, ¬ OkF S M g)) ?_ ?_
  · refine Or.inl ⟨0, fun _ => 0, 0, rfl, Nat.zero_le _, by simp [sW], OkF.zero, fun j hj => by omega, by omega, fun _ => ?_, fun j hj => by omega, fun g hg => Or.inr ⟨fun j hj => by omega, fun _ => Nat.zero_le _⟩⟩
    rw [pk_us]
    rfl
  · rintro m x un1 od1 z J hI hJ
    refine Jn4.mk ?_
    rcases hI with ⟨n, l, c, rfl, hn, em, hok, hz1, hc, hz2, hs, hall⟩ | ⟨rfl, hno⟩
    · refine ⟨fun d => absurd d (nI_pos (by omega)), fun _ => le_br (by omega) (by omega) (fun d => ?_) (fun d => ?_)⟩
      · -- a list of M folds stands
        have en : n = M := by omega
        subst en
        refine ⟨fun q => absurd rfl q, fun _ => h1 l un1 od1 z hok (fun g hg => ?_) hz1⟩
        rcases hall g hg with ⟨k, q1, q2, q3⟩ | ⟨q, -⟩
        · exact Or.inr ⟨k, q1, q2, q3⟩
        · exact Or.inl q
      · have v1 : vp_in (nI n) 6 := vp_in_nI (by omega) (by decide)
        rw [nI_clamp (by omega), pk_us, hz2 d]
        have hX : 101 ^ (6 - n) = 101 * 101 ^ (5 - n) := by rw [show 6 - n = (5 - n) + 1 by omega, Nat.pow_succ, Nat.mul_comm]
        have hXpos : 0 < 101 ^ (5 - n) := Nat.pow_pos (by decide)
        have hzc : ∀ j, j < n → upd z n (nI c) j = nI (l j) := fun j hj => by rw [pk_un (by omega)]; exact hz1 j hj
        -- the number c is no list's next
        have fail : c ≤ 99 → (∀ g, OkF S M g → (∀ j, j < n → g j = l j) → g n ≠ c) → ∀ un2 od2, J (nI n) un2 od2 (upd z n (nI c)) := by
          intro hc99 hng un2 od2
          refine hJ (sW l n + (101 - (c + 1)) * 101 ^ (6 - n)) _ _ _ _ ?_ (Or.inl ⟨n, l, c + 1, rfl, hn, rfl, hok, hzc, by omega, fun _ => by rw [pk_us, nI_1], fun j hj => by have := hs j hj; omega, fun g hg => ?_⟩)
          · rw [em]
            have : (101 - (c + 1)) * 101 ^ (6 - n) < (101 - c) * 101 ^ (6 - n) := Nat.mul_lt_mul_of_pos_right (by omega) (Nat.pow_pos (by decide))
            omega
          · rcases hall g hg with q | ⟨q1, q2⟩
            · exact Or.inl q
            · refine Or.inr ⟨q1, fun _ => ?_⟩
              have := q2 d
              have := hng g hg q1
              omega
        refine ⟨v1, v1, v1, le_br (by omega) (by decide) (fun c99 => ⟨v1, v1, ?_⟩) (fun c99 => ?_)⟩
        · have hl2 : ∀ j, j < n → (fun j => if j = n then c else l j) j = l j := fun j hj => if_neg (by omega)
          have hln : (fun j => if j = n then c else l j) n = c := if_pos rfl
          generalize (fun j => if j = n then c else l j) = l2 at hl2 hln
          rw [div10 (by omega), rem10 (by omega)]
          -- a list that goes on so holds l2 up to here
          have goes : ∀ g, OkF S M g → (∀ j, j < n → g j = l j) → g n = c → OkF S (n + 1) l2 := fun g hg q1 q2 => (hg.sub (by omega : n + 1 ≤ M)).congr (fun j hj => by
            by_cases ej : j = n
            · rw [ej, hln]
              exact q2
            · rw [hl2 j (by omega)]
              exact q1 j (by omega))
          refine sp_fits hR hz (by omega) (by omega) hus (fun hfit => ⟨fun q => absurd q (by decide), fun _ => ?_⟩) (fun hfit => ⟨fun _ => fail c99 (fun g hg q1 q2 => ?_) _ _, fun q => absurd rfl q⟩)
          · rw [nI_1]
            have hli : ∀ j, j < n + 1 → upd z n (nI c) j = nI (l2 j) ∧ l2 j < 100 := by
              intro j hj
              by_cases ej : j = n
              · rw [ej, pk_us, hln]
                exact ⟨rfl, by omega⟩
              · rw [hzc j (by omega), hl2 j (by omega)]
                exact ⟨rfl, (hok.1 j (by omega)).1⟩
            refine sp_mayStand hR hz hus (by omega) hli (fun hcd hac un2 od2 => ⟨fun q => absurd q (by decide), fun _ => ⟨v1, vp_in_nI (by omega) (by decide), ?_⟩⟩) (fun hno un2 od2 => ⟨fun _ => fail c99 (fun g hg q1 q2 => ?_) _ _, fun q => absurd rfl q⟩)
            · -- one fold more, if it is behind the last one
              rw [nI_clamp (by omega)]
              have e9 : nI 10 * nI (c / 10) + nI 9 = nI (10 * (c / 10) + 9) := by rw [pk_mul, nI_add]
              rw [e9]
              have hzj : ∀ j, j < n + 1 → upd (upd z n (nI c)) (n + 1) (nI (10 * (c / 10) + 9)) j = nI (l2 j) := fun j hj => by rw [pk_un (by omega)]; exact (hli j hj).1
              have hok2 : OkF S (n + 1) l2 := by
                refine ⟨fun j hj => ?_, fun i j hi hj => ?_, hcd, hac⟩
                · by_cases ej : j = n
                  · rw [ej, hln]
                    exact ⟨by omega, hfit⟩
                  · rw [hl2 j (by omega)]
                    exact hok.1 j (by omega)
                · by_cases ej : j = n
                  · rw [ej, hln, hl2 i (by omega)]
                    have := hs i (by omega)
                    omega
                  · rw [hl2 i (by omega), hl2 j (by omega)]
                    exact hok.2.1 i j hi (by omega)
              refine hJ (sW l2 (n + 1) + (101 - (10 * (c / 10) + 10)) * 101 ^ (6 - (n + 1))) _ _ _ _ ?_ (Or.inl ⟨n + 1, l2, 10 * (c / 10) + 10, rfl, by omega, rfl, hok2, hzj, by omega, fun _ => by rw [pk_us, nI_1], fun j hj => ?_, fun g hg => ?_⟩)
              · rw [em]
                show sW l2 n + (100 - l2 n) * 101 ^ (6 - n) + _ < _
                rw [sW_congr n hl2, hln, show 6 - (n + 1) = 5 - n by omega, hX, show 101 - c = (100 - c) + 1 by omega, Nat.add_mul, Nat.one_mul]
                have h91 : (101 - (10 * (c / 10) + 10)) * 101 ^ (5 - n) ≤ 91 * 101 ^ (5 - n) := Nat.mul_le_mul_right _ (by omega)
                generalize (101 - (10 * (c / 10) + 10)) * 101 ^ (5 - n) = Y at h91 ⊢
                generalize (100 - c) * (101 * 101 ^ (5 - n)) = Y2
                omega
              · by_cases ej : j = n
                · rw [ej, hln]
                  omega
                · rw [hl2 j (by omega)]
                  have := hs j (by omega)
                  omega
              · rcases hall g hg with ⟨k, q1, q2, q3⟩ | ⟨q1, q2⟩
                · exact Or.inl ⟨k, by omega, fun j hj => by rw [hl2 j (by omega)]; exact q2 j hj, by rw [hl2 k q1]; exact q3⟩
                · have q3 := q2 d
                  by_cases eg : g n = c
                  · refine Or.inr ⟨fun j hj => ?_, fun hM2 => ?_⟩
                    · by_cases ej : j = n
                      · rw [ej, hln]
                        exact eg
                      · rw [hl2 j (by omega)]
                        exact q1 j (by omega)
                    · have := hg.2.1 n (n + 1) (by omega) hM2
                      rw [eg] at this
                      omega
                  · exact Or.inl ⟨n, by omega, fun j hj => by rw [hl2 j hj]; exact q1 j hj, by rw [hln]; omega⟩
            · have := goes g hg q1 q2
              exact hno ⟨this.2.2.1, this.2.2.2⟩
          · have := (goes g hg q1 q2).1 n (by omega)
            rw [hln] at this
            exact hfit this.2
        · -- back to the fold before
          have ec : c = 100 := by omega
          subst ec
          cases n with
          | zero =>
            refine hJ 0 _ _ _ _ (by rw [em]; simp [sW]) (Or.inr ⟨rfl, fun g hg => ?_⟩)
            rcases hall g hg with ⟨k, q, -⟩ | ⟨-, q⟩
            · omega
            · have := q d
              have := (hg.1 0 (by omega)).1
              omega
          | succ n =>
            have e8 : nI (n + 1) + (-1 : Int32) = nI n := pk_m1 n
            rw [e8]
            refine hJ (sW l n + (101 - (l n + 1)) * 101 ^ (6 - n)) _ _ _ _ ?_ (Or.inl ⟨n, l, l n + 1, rfl, by omega, rfl, hok.sub (by omega), fun j hj => hzc j (by omega), ?_, fun _ => ?_, fun j hj => ?_, fun g hg => ?_⟩)
            · rw [em]
              show _ < sW l n + (100 - l n) * 101 ^ (6 - n) + _
              have : 0 < 101 ^ (6 - (n + 1)) := Nat.pow_pos (by decide)
              rw [show 101 - (l n + 1) = 100 - l n by omega]
              omega
            · have := (hok.1 n (by omega)).1
              omega
            · rw [hzc n (by omega), nI_1]
            · have := hok.2.1 j n hj (by omega)
              omega
            · rcases hall g hg with ⟨k, q1, q2, q3⟩ | ⟨q1, q2⟩
              · by_cases ek : k = n
                · subst ek
                  exact Or.inr ⟨q2, fun _ => q3⟩
                · exact Or.inl ⟨k, by omega, q2, q3⟩
              · have := q2 d
                have := (hg.1 (n + 1) (by omega)).1
                omega
    · refine ⟨fun _ => ⟨fun _ => h0 hno un1 od1 z, fun q => absurd q.symm (nI_ne_m1 (by omega))⟩, fun d => absurd (by decide) d⟩
