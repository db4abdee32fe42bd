theorem sp_extend_5 {ct : Int32} {bu bl tu tl : Nat → Int32} {S : AS} {u0 F C : Nat} {l B : Nat → Nat} {K : Int32 → (Nat → Int32) → (Nat → Int32) → Prop} (hz : Size S) (hok : OkF S 5 l) (hF : Free S 5 l F) (hB : Bst C B ct bu bl) (hT : Trd 5 l tu tl) (hu0 : u0 ≤ 10)
    (h : ∀ C2 B2 ct2 bu2 bl2, Upd (EX S 5 l u0) C B C2 B2 → Bst C2 B2 ct2 bu2 bl2 → K ct2 bu2 bl2) : wp_X0_extend_5 (nI u0) (nI F) ct bu bl tu tl K := by
  obtain ⟨rfl, hC5, hB2⟩ := hB
  unfold wp_X0_extend_5
  refine Jn3.to (fun x y z => ∃ C1 B1, Upd (E0 5 l) C B C1 B1 ∧ Bst C1 B1 x y z) (le_br (by decide) (by omega) (fun c => ⟨C, B, Upd.none (fun m g q => by rw [q.1]; exact c), rfl, hC5, hB2⟩) (fun c => ?_)) ?_
  · exact ⟨5, l, keep_upd (S := S) c, rfl, by decide, fun j hj => ⟨(hok.1 j hj).1, by rw [sb_cpy0 hj]; exact (hT j hj).1, by rw [sb_cpy0 hj]; exact (hT j hj).2⟩⟩
  · rintro x y z ⟨C1, B1, hU, hB1⟩
    have hfin : K x y z := h C1 B1 x y z (hU.congr (fun m g => by
      constructor
      · rintro ⟨q1, q2⟩
        subst q1
        exact ⟨hok.congr (fun j hj => (q2 j hj).symm), Nat.le_refl _, q2, fun q => by omega⟩
      · rintro ⟨q1, q2, q3, q4⟩
        have := q1.le5 hz
        exact ⟨by omega, q3⟩)) hB1
    refine Lp1.up 10 (fun k x => x = nI k) u0 hu0 rfl ?_
    rintro k x7 J hk rfl hJ
    refine le_br (by decide) (by omega) (fun c => hfin) (fun c => ?_)
    refine sp_mostFolds hF.1 (by omega) ⟨fun _ => ?_, fun _ => hfin⟩
    exact sp_contains (by have := hF.1; omega) (by omega) (fun b => ⟨fun q => absurd q (by decide), fun _ => hJ _ c (nI_1 k)⟩) (fun b => ⟨fun _ => hJ _ c (nI_1 k), fun q => absurd rfl q⟩)
theorem sp_tryLowers_4 {ct : Int32} {bu bl tu tl bd bm : Nat → Int32} {d4 : Nat → Int32} {d5 : Nat → Int32} {S : AS} {u F C : Nat} {l B : Nat → Nat} {K : Int32 → (Nat → Int32) → (Nat → Int32) → (Nat → Int32) → (Nat → Int32) → (Nat → Int32) → Prop} (hz : Size S) (hbd : ∀ c, c < 10 → bd c = nI (use S.2.2.1 c)) (hbm : Mts S bm) (hok : OkF S 4 l) (hs : ∀ j, j < 4 → l j / 10 < u) (hu : u < 10) (hF : Free S 4 l F) (hFu : F.testBit u = true) (hC : Clo d4 (LRf S.2.2.1 4 l)) (hB : Bst C B ct bu bl) (hT : Trd 4 l tu tl)
    (h : ∀ C2 B2 ct2 bu2 bl2 tu2 tl2 d52, Upd (EV S 4 l u 0 10) C B C2 B2 → Bst C2 B2 ct2 bu2 bl2 → Trd 4 l tu2 tl2 → K ct2 bu2 bl2 tu2 tl2 d52) : wp_X0_tryLowers_4 (nI u) (nI F) ct bu bl tu tl bd bm d4 d5 K := by
  have z5 : S.2.2.1.length ≤ 10 := hz.2.2.2.2.1
  have vu : vp_in (nI u) 10 := vp_in_nI hu (by decide)
  obtain ⟨mm, em, hmm, hmb⟩ := hbm u hu
  unfold wp_X0_tryLowers_4
  rw [clamp_n (k := u) (by omega), em, hbd u hu, nI_and]
  refine ⟨vu, Lp7.up 10 (fun k x z0 z1 z2 z3 z4 _ => x = nI k ∧ (∃ Ck Bk, Upd (EV S 4 l u 0 k) C B Ck Bk ∧ Bst Ck Bk z0 z1 z2) ∧ Trd 4 l z3 z4) 0 (by omega) ⟨rfl, ⟨C, B, Upd.none (fun m g q => by have := q.2.2.2.2.2; omega), hB⟩, hT⟩ ?_⟩
  rintro k x z0 z1 z2 z3 z4 e0 J hk ⟨rfl, ⟨Ck, Bk, hU, hBk⟩, hTk⟩ hJ
  refine le_br (by decide) (by omega) (fun c => ?_) (fun c => ?_)
  · rw [show k = 10 by omega] at hU
    exact h Ck Bk _ _ _ _ _ _ hU hBk hTk
  · have skip : (∀ m g, OkF S m g → 4 < m → (∀ j, j < 4 → g j = l j) → g 4 / 10 = u → g 4 % 10 = k → False) → J (nI k + 1) z0 z1 z2 z3 z4 e0 := fun hno => hJ _ _ _ _ _ _ _ c ⟨nI_1 k, ⟨Ck, Bk, EV_skip hno hU, hBk⟩, hTk⟩
    have hmF : mm &&& F < 2 ^ 10 := Nat.lt_of_le_of_lt Nat.and_le_left hmm
    have vk : vp_in (nI k) 10 := vp_in_nI c (by decide)
    refine sp_contains (by omega) (by omega) (fun b => ⟨fun q => absurd q (by decide), fun _ => ⟨vu, vk, ?_⟩⟩) (fun b => ⟨fun _ => skip (fun m g q1 q2 q3 q4 q5 => ?_), fun q => absurd rfl q⟩)
    · rw [Nat.testBit_and, Bool.and_eq_true] at b
      have hfit := ((hmb k).mp b.1).2
      have hnk := ((hF.2 k).mp b.2).2
      have hnu := ((hF.2 u).mp hFu).2
      rw [clamp_n (k := k) (by omega), hbd k c]
      refine sp_allow hC (use_lt _ _ z5) (use_lt _ _ z5) (fun hal => ⟨fun q => absurd q (by decide), fun _ => ?_⟩) (fun ⟨x, hx1, hx2⟩ => ⟨fun _ => skip (fun m g q1 q2 q3 q4 q5 => ?_), fun q => absurd rfl q⟩)
      · show vp_in (nI u) 10 ∧ vp_in (nI k) 10 ∧ wp_X1_add _ _ (va_cpy d4 _ 0 0 10) _
        refine ⟨vu, vk, sp_add hC.copy (fun a b q => by have := LRf_low a b q; omega) (use_lt _ _ z5) (use_lt _ _ z5) (fun ab2 hab => ?_)⟩
        have hl2 : ∀ j, j < 4 → (fun j => if j = 4 then 10 * u + k else l j) j = l j := fun j hj => if_neg (by omega)
        have hld : (fun j => if j = 4 then 10 * u + k else l j) 4 = 10 * u + k := if_pos rfl
        generalize (fun j => if j = 4 then 10 * u + k else l j) = l2 at hl2 hld
        have hok2 : OkF S 5 l2 := OkF.more hz hok hl2 hld hu c hfit hs hnu hnk hal
        have hF2 : Free S 5 l2 (bdiff F (2 ^ u ||| 2 ^ k)) := hF.more hl2 hld hu c
        have hC2 : Clo ab2 (LRf S.2.2.1 5 l2) := hab.congr (fun a b => by
          rw [← LRf_succ (m := 4) (l := l2) a b, show l2 4 / 10 = u by omega, show l2 4 % 10 = k by omega]
          constructor
          · rintro (q | q)
            · exact Or.inl ((LRf_congr hl2 a b).mpr q)
            · exact Or.inr q
          · rintro (q | q)
            · exact Or.inl ((LRf_congr hl2 a b).mp q)
            · exact Or.inr q)
        have hs2 : ∀ j, j < 5 → l2 j / 10 < u + 1 := fun j hj => by
          by_cases ej : j = 4
          · rw [ej]
            omega
          · rw [hl2 j (by omega)]
            have := hs j (by omega)
            omega
        have hT2 : Trd 5 l2 (upd z3 4 (nI u)) (upd z4 4 (nI k)) := fun j hj => by
          by_cases ej : j = 4
          · rw [ej, pk_us, pk_us, show l2 4 / 10 = u by omega, show l2 4 % 10 = k by omega]
            exact ⟨rfl, rfl⟩
          · rw [pk_un ej, pk_un ej, hl2 j (by omega)]
            exact hTk j (by omega)
        have hB2 := hBk
        rw [nI_1, jshl_1 (by omega), jshl_1 (by omega), nI_or, nI_diff]
        refine sp_extend_5 hz hok2 hF2 hB2 hT2 (by omega) (fun C2 B2 ct2 bu2 bl2 hU2 hBs2 => ?_)
        exact hJ _ _ _ _ _ _ _ c ⟨nI_1 k, ⟨C2, B2, EV_step hl2 hld c hU hU2, hBs2⟩, fun j hj => ⟨by rw [(hT2 j (by omega)).1, hl2 j hj], by rw [(hT2 j (by omega)).2, hl2 j hj]⟩⟩
      · -- not allowed: such a list would have a round
        have hac := (q1.sub (by omega : 4 + 1 ≤ m)).2.2.2
        have h9 : Acyc (addR (LRf S.2.2.1 4 l) (use S.2.2.1 u) (use S.2.2.1 k)) := fun t ht => hac t (ht.mono (fun a b q => by
          apply (LRf_succ (m := 4) (l := g) a b).mp
          rw [q4, q5]
          rcases q with q | q
          · exact Or.inl ((LRf_congr q3 a b).mpr q)
          · exact Or.inr q))
        exact (acyc_add hok.2.2.2).mp h9 x hx1 hx2
    · have hf := (q1.1 4 q2).2
      rw [q4, q5] at hf
      have h1 := (hmb k).mpr ⟨c, hf⟩
      have h2 := (hF.of hz q1 q3 (Nat.le_refl 4) q2).2
      rw [q5] at h2
      rw [Nat.testBit_and, h1, h2] at b
      exact absurd b (by decide)
theorem sp_extend_4 {ct : Int32} {bu bl tu tl bd bm : Nat → Int32} {d4 : Nat → Int32} {d5 : Nat → Int32} {S : AS} {u0 F C : Nat} {l B : Nat → Nat} {K : Int32 → (Nat → Int32) → (Nat → Int32) → (Nat → Int32) → (Nat → Int32) → (Nat → Int32) → Prop} (hz : Size S) (hbd : ∀ c, c < 10 → bd c = nI (use S.2.2.1 c)) (hbm : Mts S bm) (hok : OkF S 4 l) (hs : ∀ j, j < 4 → l j / 10 < u0) (hF : Free S 4 l F) (hC : Clo d4 (LRf S.2.2.1 4 l)) (hB : Bst C B ct bu bl) (hT : Trd 4 l tu tl) (hu0 : u0 ≤ 10)
    (h : ∀ C2 B2 ct2 bu2 bl2 tu2 tl2 d52, Upd (EX S 4 l u0) C B C2 B2 → Bst C2 B2 ct2 bu2 bl2 → Trd 4 l tu2 tl2 → K ct2 bu2 bl2 tu2 tl2 d52) : wp_X0_extend_4 (nI u0) (nI F) ct bu bl tu tl bd bm d4 d5 K := by
  obtain ⟨rfl, hC5, hB2⟩ := hB
  unfold wp_X0_extend_4
  refine Jn3.to (fun x y z => ∃ C1 B1, Upd (E0 4 l) C B C1 B1 ∧ Bst C1 B1 x y z) (le_br (a := 4) (by decide) (by omega) (fun c => ⟨C, B, Upd.none (fun m g q => by rw [q.1]; exact c), rfl, hC5, hB2⟩) (fun c => ?_)) ?_
  · exact ⟨4, l, keep_upd (S := S) c, rfl, by decide, fun j hj => ⟨(hok.1 j hj).1, by rw [sb_cpy0 hj]; exact (hT j hj).1, by rw [sb_cpy0 hj]; exact (hT j hj).2⟩⟩
  · rintro x y z ⟨C1, B1, hU, hB1⟩
    refine Lp7.up 10 (fun k x z0 z1 z2 z3 z4 _ => x = nI k ∧ u0 ≤ k ∧ (∃ Ck Bk, Upd (fun m g => E0 4 l m g ∨ EU S 4 l u0 k m g) C B Ck Bk ∧ Bst Ck Bk z0 z1 z2) ∧ Trd 4 l z3 z4) u0 hu0 ⟨rfl, Nat.le_refl _, ⟨C1, B1, hU.congr (fun m g => ⟨Or.inl, fun q => q.elim id (fun q => by have := q.2.2.2; omega)⟩), hB1⟩, hT⟩ ?_
    rintro k x7 z0 z1 z2 z3 z4 e0 J hk ⟨rfl, hku, ⟨Ck, Bk, hUk, hBk⟩, hTk⟩ hJ
    refine le_br (by decide) (by omega) (fun c => ?_) (fun c => ?_)
    · rw [show k = 10 by omega] at hUk
      exact h Ck Bk _ _ _ _ _ _ (hUk.congr (EX_split hok)) hBk hTk
    · have hBk2 := hBk
      obtain ⟨rfl, hCk5, -⟩ := hBk2
      have hmk : ∀ W, mok W k ≤ 10 := fun W => by
        have := c10_le W
        unfold mok
        have := c10_le (W / 2 ^ k)
        split <;> omega
      have hm1 := hmk (F &&& 63)
      have hm2 := hmk (F &&& 960)
      refine sp_mostFolds hF.1 (by omega) ?_
      have ea : (nI 4) + nI (mok (F &&& 63) k + mok (F &&& 960) k) = nI (4 + (mok (F &&& 63) k + mok (F &&& 960) k)) := nI_add 4 _
      rw [ea]
      refine lt_br (by omega) (by omega) (fun c2 => ?_) (fun c2 => ?_)
      · refine sp_contains (by have := hF.1; omega) (by omega) (fun b => ⟨fun q => absurd q (by decide), fun _ => ?_⟩) (fun b => ⟨fun _ => ?_, fun q => absurd rfl q⟩)
        · refine sp_tryLowers_4 hz hbd hbm hok (fun j hj => by have := hs j hj; omega) c hF b hC hBk hTk (fun C2 B2 ct2 bu2 bl2 tu2 tl2 d52 hU2 hBs2 hTr2 => ?_)
          exact hJ _ _ _ _ _ _ _ c ⟨nI_1 k, by omega, ⟨C2, B2, EU_step hku hUk hU2, hBs2⟩, hTr2⟩
        · exact hJ _ _ _ _ _ _ _ c ⟨nI_1 k, by omega, ⟨Ck, Bk, EU_skip hz hF hku b hUk, hBk⟩, hTk⟩
      · exact h Ck Bk _ _ _ _ _ _ (EU_prune hz hF hok hku c2 hUk) hBk hTk
theorem sp_tryLowers_3 {ct : Int32} {bu bl tu tl bd bm : Nat → Int32} {d3 : Nat → Int32} {d4 : Nat → Int32} {d5 : Nat → Int32} {S : AS} {u F C : Nat} {l B : Nat → Nat} {K : Int32 → (Nat → Int32) → (Nat → Int32) → (Nat → Int32) → (Nat → Int32) → (Nat → Int32) → (Nat → Int32) → Prop} (hz : Size S) (hbd : ∀ c, c < 10 → bd c = nI (use S.2.2.1 c)) (hbm : Mts S bm) (hok : OkF S 3 l) (hs : ∀ j, j < 3 → l j / 10 < u) (hu : u < 10) (hF : Free S 3 l F) (hFu : F.testBit u = true) (hC : Clo d3 (LRf S.2.2.1 3 l)) (hB : Bst C B ct bu bl) (hT : Trd 3 l tu tl)
    (h : ∀ C2 B2 ct2 bu2 bl2 tu2 tl2 d42 d52, Upd (EV S 3 l u 0 10) C B C2 B2 → Bst C2 B2 ct2 bu2 bl2 → Trd 3 l tu2 tl2 → K ct2 bu2 bl2 tu2 tl2 d42 d52) : wp_X0_tryLowers_3 (nI u) (nI F) ct bu bl tu tl bd bm d3 d4 d5 K := by
  have z5 : S.2.2.1.length ≤ 10 := hz.2.2.2.2.1
  have vu : vp_in (nI u) 10 := vp_in_nI hu (by decide)
  obtain ⟨mm, em, hmm, hmb⟩ := hbm u hu
  unfold wp_X0_tryLowers_3
  rw [clamp_n (k := u) (by omega), em, hbd u hu, nI_and]
  refine ⟨vu, Lp8.up 10 (fun k x z0 z1 z2 z3 z4 _ _ => x = nI k ∧ (∃ Ck Bk, Upd (EV S 3 l u 0 k) C B Ck Bk ∧ Bst Ck Bk z0 z1 z2) ∧ Trd 3 l z3 z4) 0 (by omega) ⟨rfl, ⟨C, B, Upd.none (fun m g q => by have := q.2.2.2.2.2; omega), hB⟩, hT⟩ ?_⟩
  rintro k x z0 z1 z2 z3 z4 e0 e1 J hk ⟨rfl, ⟨Ck, Bk, hU, hBk⟩, hTk⟩ hJ
  refine le_br (by decide) (by omega) (fun c => ?_) (fun c => ?_)
  · rw [show k = 10 by omega] at hU
    exact h Ck Bk _ _ _ _ _ _ _ hU hBk hTk
  · have skip : (∀ m g, OkF S m g → 3 < m → (∀ j, j < 3 → g j = l j) → g 3 / 10 = u → g 3 % 10 = k → False) → J (nI k + 1) z0 z1 z2 z3 z4 e0 e1 := fun hno => hJ _ _ _ _ _ _ _ _ c ⟨nI_1 k, ⟨Ck, Bk, EV_skip hno hU, hBk⟩, hTk⟩
    have hmF : mm &&& F < 2 ^ 10 := Nat.lt_of_le_of_lt Nat.and_le_left hmm
    have vk : vp_in (nI k) 10 := vp_in_nI c (by decide)
    refine sp_contains (by omega) (by omega) (fun b => ⟨fun q => absurd q (by decide), fun _ => ⟨vu, vk, ?_⟩⟩) (fun b => ⟨fun _ => skip (fun m g q1 q2 q3 q4 q5 => ?_), fun q => absurd rfl q⟩)
    · rw [Nat.testBit_and, Bool.and_eq_true] at b
      have hfit := ((hmb k).mp b.1).2
      have hnk := ((hF.2 k).mp b.2).2
      have hnu := ((hF.2 u).mp hFu).2
      rw [clamp_n (k := k) (by omega), hbd k c]
      refine sp_allow hC (use_lt _ _ z5) (use_lt _ _ z5) (fun hal => ⟨fun q => absurd q (by decide), fun _ => ?_⟩) (fun ⟨x, hx1, hx2⟩ => ⟨fun _ => skip (fun m g q1 q2 q3 q4 q5 => ?_), fun q => absurd rfl q⟩)
      · show vp_in (nI u) 10 ∧ vp_in (nI k) 10 ∧ wp_X1_add _ _ (va_cpy d3 _ 0 0 10) _
        refine ⟨vu, vk, sp_add hC.copy (fun a b q => by have := LRf_low a b q; omega) (use_lt _ _ z5) (use_lt _ _ z5) (fun ab2 hab => ?_)⟩
        have hl2 : ∀ j, j < 3 → (fun j => if j = 3 then 10 * u + k else l j) j = l j := fun j hj => if_neg (by omega)
        have hld : (fun j => if j = 3 then 10 * u + k else l j) 3 = 10 * u + k := if_pos rfl
        generalize (fun j => if j = 3 then 10 * u + k else l j) = l2 at hl2 hld
        have hok2 : OkF S 4 l2 := OkF.more hz hok hl2 hld hu c hfit hs hnu hnk hal
        have hF2 : Free S 4 l2 (bdiff F (2 ^ u ||| 2 ^ k)) := hF.more hl2 hld hu c
        have hC2 : Clo ab2 (LRf S.2.2.1 4 l2) := hab.congr (fun a b => by
          rw [← LRf_succ (m := 3) (l := l2) a b, show l2 3 / 10 = u by omega, show l2 3 % 10 = k by omega]
          constructor
          · rintro (q | q)
            · exact Or.inl ((LRf_congr hl2 a b).mpr q)
            · exact Or.inr q
          · rintro (q | q)
            · exact Or.inl ((LRf_congr hl2 a b).mp q)
            · exact Or.inr q)
        have hs2 : ∀ j, j < 4 → l2 j / 10 < u + 1 := fun j hj => by
          by_cases ej : j = 3
          · rw [ej]
            omega
          · rw [hl2 j (by omega)]
            have := hs j (by omega)
            omega
        have hT2 : Trd 4 l2 (upd z3 3 (nI u)) (upd z4 3 (nI k)) := fun j hj => by
          by_cases ej : j = 3
          · rw [ej, pk_us, pk_us, show l2 3 / 10 = u by omega, show l2 3 % 10 = k by omega]
            exact ⟨rfl, rfl⟩
          · rw [pk_un ej, pk_un ej, hl2 j (by omega)]
            exact hTk j (by omega)
        have hB2 := hBk
        rw [nI_1, jshl_1 (by omega), jshl_1 (by omega), nI_or, nI_diff]
        refine sp_extend_4 hz hbd hbm hok2 hs2 hF2 hC2 hB2 hT2 (by omega) (fun C2 B2 ct2 bu2 bl2 tu2 tl2 d5 hU2 hBs2 hTr2 => ?_)
        exact hJ _ _ _ _ _ _ _ _ c ⟨nI_1 k, ⟨C2, B2, EV_step hl2 hld c hU hU2, hBs2⟩, fun j hj => ⟨by rw [(hTr2 j (by omega)).1, hl2 j hj], by rw [(hTr2 j (by omega)).2, hl2 j hj]⟩⟩
      · -- not allowed: such a list would have a round
        have hac := (q1.sub (by omega : 3 + 1 ≤ m)).2.2.2
        have h9 : Acyc (addR (LRf S.2.2.1 3 l) (use S.2.2.1 u) (use S.2.2.1 k)) := fun t ht => hac t (ht.mono (fun a b q => by
          apply (LRf_succ (m := 3) (l := g) a b).mp
          rw [q4, q5]
          rcases q with q | q
          · exact Or.inl ((LRf_congr q3 a b).mpr q)
          · exact Or.inr q))
        exact (acyc_add hok.2.2.2).mp h9 x hx1 hx2
    · have hf := (q1.1 3 q2).2
      rw [q4, q5] at hf
      have h1 := (hmb k).mpr ⟨c, hf⟩
      have h2 := (hF.of hz q1 q3 (Nat.le_refl 3) q2).2
      rw [q5] at h2
      rw [Nat.testBit_and, h1, h2] at b
      exact absurd b (by decide)
theorem sp_extend_3 {ct : Int32} {bu bl tu tl bd bm : Nat → Int32} {d3 : Nat → Int32} {d4 : Nat → Int32} {d5 : Nat → Int32} {S : AS} {u0 F C : Nat} {l B : Nat → Nat} {K : Int32 → (Nat → Int32) → (Nat → Int32) → (Nat → Int32) → (Nat → Int32) → (Nat → Int32) → (Nat → Int32) → Prop} (hz : Size S) (hbd : ∀ c, c < 10 → bd c = nI (use S.2.2.1 c)) (hbm : Mts S bm) (hok : OkF S 3 l) (hs : ∀ j, j < 3 → l j / 10 < u0) (hF : Free S 3 l F) (hC : Clo d3 (LRf S.2.2.1 3 l)) (hB : Bst C B ct bu bl) (hT : Trd 3 l tu tl) (hu0 : u0 ≤ 10)
    (h : ∀ C2 B2 ct2 bu2 bl2 tu2 tl2 d42 d52, Upd (EX S 3 l u0) C B C2 B2 → Bst C2 B2 ct2 bu2 bl2 → Trd 3 l tu2 tl2 → K ct2 bu2 bl2 tu2 tl2 d42 d52) : wp_X0_extend_3 (nI u0) (nI F) ct bu bl tu tl bd bm d3 d4 d5 K := by
  obtain ⟨rfl, hC5, hB2⟩ := hB
  unfold wp_X0_extend_3
  refine Jn3.to (fun x y z => ∃ C1 B1, Upd (E0 3 l) C B C1 B1 ∧ Bst C1 B1 x y z) (le_br (a := 3) (by decide) (by omega) (fun c => ⟨C, B, Upd.none (fun m g q => by rw [q.1]; exact c), rfl, hC5, hB2⟩) (fun c => ?_)) ?_
  · exact ⟨3, l, keep_upd (S := S) c, rfl, by decide, fun j hj => ⟨(hok.1 j hj).1, by rw [sb_cpy0 hj]; exact (hT j hj).1, by rw [sb_cpy0 hj]; exact (hT j hj).2⟩⟩
  · rintro x y z ⟨C1, B1, hU, hB1⟩
    refine Lp8.up 10 (fun k x z0 z1 z2 z3 z4 _ _ => x = nI k ∧ u0 ≤ k ∧ (∃ Ck Bk, Upd (fun m g => E0 3 l m g ∨ EU S 3 l u0 k m g) C B Ck Bk ∧ Bst Ck Bk z0 z1 z2) ∧ Trd 3 l z3 z4) u0 hu0 ⟨rfl, Nat.le_refl _, ⟨C1, B1, hU.congr (fun m g => ⟨Or.inl, fun q => q.elim id (fun q => by have := q.2.2.2; omega)⟩), hB1⟩, hT⟩ ?_
    rintro k x7 z0 z1 z2 z3 z4 e0 e1 J hk ⟨rfl, hku, ⟨Ck, Bk, hUk, hBk⟩, hTk⟩ hJ
    refine le_br (by decide) (by omega) (fun c => ?_) (fun c => ?_)
    · rw [show k = 10 by omega] at hUk
      exact h Ck Bk _ _ _ _ _ _ _ (hUk.congr (EX_split hok)) hBk hTk
    · have hBk2 := hBk
      obtain ⟨rfl, hCk5, -⟩ := hBk2
      have hmk : ∀ W, mok W k ≤ 10 := fun W => by
        have := c10_le W
        unfold mok
        have := c10_le (W / 2 ^ k)
        split <;> omega
      have hm1 := hmk (F &&& 63)
      have hm2 := hmk (F &&& 960)
      refine sp_mostFolds hF.1 (by omega) ?_
      have ea : (nI 3) + nI (mok (F &&& 63) k + mok (F &&& 960) k) = nI (3 + (mok (F &&& 63) k + mok (F &&& 960) k)) := nI_add 3 _
      rw [ea]
      refine lt_br (by omega) (by omega) (fun c2 => ?_) (fun c2 => ?_)
      · refine sp_contains (by have := hF.1; omega) (by omega) (fun b => ⟨fun q => absurd q (by decide), fun _ => ?_⟩) (fun b => ⟨fun _ => ?_, fun q => absurd rfl q⟩)
        · refine sp_tryLowers_3 hz hbd hbm hok (fun j hj => by have := hs j hj; omega) c hF b hC hBk hTk (fun C2 B2 ct2 bu2 bl2 tu2 tl2 d42 d52 hU2 hBs2 hTr2 => ?_)
          exact hJ _ _ _ _ _ _ _ _ c ⟨nI_1 k, by omega, ⟨C2, B2, EU_step hku hUk hU2, hBs2⟩, hTr2⟩
        · exact hJ _ _ _ _ _ _ _ _ c ⟨nI_1 k, by omega, ⟨Ck, Bk, EU_skip hz hF hku b hUk, hBk⟩, hTk⟩
      · exact h Ck Bk _ _ _ _ _ _ _ (EU_prune hz hF hok hku c2 hUk) hBk hTk
theorem sp_tryLowers_2 {ct : Int32} {bu bl tu tl bd bm : Nat → Int32} {d2 : Nat → Int32} {d3 : Nat → Int32} {d4 : Nat → Int32} {d5 : Nat → Int32} {S : AS} {u F C : Nat} {l B : Nat → Nat} {K : Int32 → (Nat → Int32) → (Nat → Int32) → (Nat → Int32) → (Nat → Int32) → (Nat → Int32) → (Nat → Int32) → (Nat → Int32) → Prop} (hz : Size S) (hbd : ∀ c, c < 10 → bd c = nI (use S.2.2.1 c)) (hbm : Mts S bm) (hok : OkF S 2 l) (hs : ∀ j, j < 2 → l j / 10 < u) (hu : u < 10) (hF : Free S 2 l F) (hFu : F.testBit u = true) (hC : Clo d2 (LRf S.2.2.1 2 l)) (hB : Bst C B ct bu bl) (hT : Trd 2 l tu tl)
    (h : ∀ C2 B2 ct2 bu2 bl2 tu2 tl2 d32 d42 d52, Upd (EV S 2 l u 0 10) C B C2 B2 → Bst C2 B2 ct2 bu2 bl2 → Trd 2 l tu2 tl2 → K ct2 bu2 bl2 tu2 tl2 d32 d42 d52) : wp_X0_tryLowers_2 (nI u) (nI F) ct bu bl tu tl bd bm d2 d3 d4 d5 K := by
  have z5 : S.2.2.1.length ≤ 10 := hz.2.2.2.2.1
  have vu : vp_in (nI u) 10 := vp_in_nI hu (by decide)
  obtain ⟨mm, em, hmm, hmb⟩ := hbm u hu
  unfold wp_X0_tryLowers_2
  rw [clamp_n (k := u) (by omega), em, hbd u hu, nI_and]
  refine ⟨vu, Lp9.up 10 (fun k x z0 z1 z2 z3 z4 _ _ _ => x = nI k ∧ (∃ Ck Bk, Upd (EV S 2 l u 0 k) C B Ck Bk ∧ Bst Ck Bk z0 z1 z2) ∧ Trd 2 l z3 z4) 0 (by omega) ⟨rfl, ⟨C, B, Upd.none (fun m g q => by have := q.2.2.2.2.2; omega), hB⟩, hT⟩ ?_⟩
  rintro k x z0 z1 z2 z3 z4 e0 e1 e2 J hk ⟨rfl, ⟨Ck, Bk, hU, hBk⟩, hTk⟩ hJ
  refine le_br (by decide) (by omega) (fun c => ?_) (fun c => ?_)
  · rw [show k = 10 by omega] at hU
    exact h Ck Bk _ _ _ _ _ _ _ _ hU hBk hTk
  · have skip : (∀ m g, OkF S m g → 2 < m → (∀ j, j < 2 → g j = l j) → g 2 / 10 = u → g 2 % 10 = k → False) → J (nI k + 1) z0 z1 z2 z3 z4 e0 e1 e2 := fun hno => hJ _ _ _ _ _ _ _ _ _ c ⟨nI_1 k, ⟨Ck, Bk, EV_skip hno hU, hBk⟩, hTk⟩
    have hmF : mm &&& F < 2 ^ 10 := Nat.lt_of_le_of_lt Nat.and_le_left hmm
    have vk : vp_in (nI k) 10 := vp_in_nI c (by decide)
    refine sp_contains (by omega) (by omega) (fun b => ⟨fun q => absurd q (by decide), fun _ => ⟨vu, vk, ?_⟩⟩) (fun b => ⟨fun _ => skip (fun m g q1 q2 q3 q4 q5 => ?_), fun q => absurd rfl q⟩)
    · rw [Nat.testBit_and, Bool.and_eq_true] at b
      have hfit := ((hmb k).mp b.1).2
      have hnk := ((hF.2 k).mp b.2).2
      have hnu := ((hF.2 u).mp hFu).2
      rw [clamp_n (k := k) (by omega), hbd k c]
      refine sp_allow hC (use_lt _ _ z5) (use_lt _ _ z5) (fun hal => ⟨fun q => absurd q (by decide), fun _ => ?_⟩) (fun ⟨x, hx1, hx2⟩ => ⟨fun _ => skip (fun m g q1 q2 q3 q4 q5 => ?_), fun q => absurd rfl q⟩)
      · show vp_in (nI u) 10 ∧ vp_in (nI k) 10 ∧ wp_X1_add _ _ (va_cpy d2 _ 0 0 10) _
        refine ⟨vu, vk, sp_add hC.copy (fun a b q => by have := LRf_low a b q; omega) (use_lt _ _ z5) (use_lt _ _ z5) (fun ab2 hab => ?_)⟩
        have hl2 : ∀ j, j < 2 → (fun j => if j = 2 then 10 * u + k else l j) j = l j := fun j hj => if_neg (by omega)
        have hld : (fun j => if j = 2 then 10 * u + k else l j) 2 = 10 * u + k := if_pos rfl
        generalize (fun j => if j = 2 then 10 * u + k else l j) = l2 at hl2 hld
        have hok2 : OkF S 3 l2 := OkF.more hz hok hl2 hld hu c hfit hs hnu hnk hal
        have hF2 : Free S 3 l2 (bdiff F (2 ^ u ||| 2 ^ k)) := hF.more hl2 hld hu c
        have hC2 : Clo ab2 (LRf S.2.2.1 3 l2) := hab.congr (fun a b => by
          rw [← LRf_succ (m := 2) (l := l2) a b, show l2 2 / 10 = u by omega, show l2 2 % 10 = k by omega]
          constructor
          · rintro (q | q)
            · exact Or.inl ((LRf_congr hl2 a b).mpr q)
            · exact Or.inr q
          · rintro (q | q)
            · exact Or.inl ((LRf_congr hl2 a b).mp q)
            · exact Or.inr q)
        have hs2 : ∀ j, j < 3 → l2 j / 10 < u + 1 := fun j hj => by
          by_cases ej : j = 2
          · rw [ej]
            omega
          · rw [hl2 j (by omega)]
            have := hs j (by omega)
            omega
        have hT2 : Trd 3 l2 (upd z3 2 (nI u)) (upd z4 2 (nI k)) := fun j hj => by
          by_cases ej : j = 2
          · rw [ej, pk_us, pk_us, show l2 2 / 10 = u by omega, show l2 2 % 10 = k by omega]
            exact ⟨rfl, rfl⟩
          · rw [pk_un ej, pk_un ej, hl2 j (by omega)]
            exact hTk j (by omega)
        have hB2 := hBk
        rw [nI_1, jshl_1 (by omega), jshl_1 (by omega), nI_or, nI_diff]
        refine sp_extend_3 hz hbd hbm hok2 hs2 hF2 hC2 hB2 hT2 (by omega) (fun C2 B2 ct2 bu2 bl2 tu2 tl2 d4 d5 hU2 hBs2 hTr2 => ?_)
        exact hJ _ _ _ _ _ _ _ _ _ c ⟨nI_1 k, ⟨C2, B2, EV_step hl2 hld c hU hU2, hBs2⟩, fun j hj => ⟨by rw [(hTr2 j (by omega)).1, hl2 j hj], by rw [(hTr2 j (by omega)).2, hl2 j hj]⟩⟩
      · -- not allowed: such a list would have a round
        have hac := (q1.sub (by omega : 2 + 1 ≤ m)).2.2.2
        have h9 : Acyc (addR (LRf S.2.2.1 2 l) (use S.2.2.1 u) (use S.2.2.1 k)) := fun t ht => hac t (ht.mono (fun a b q => by
          apply (LRf_succ (m := 2) (l := g) a b).mp
          rw [q4, q5]
          rcases q with q | q
          · exact Or.inl ((LRf_congr q3 a b).mpr q)
          · exact Or.inr q))
        exact (acyc_add hok.2.2.2).mp h9 x hx1 hx2
    · have hf := (q1.1 2 q2).2
      rw [q4, q5] at hf
      have h1 := (hmb k).mpr ⟨c, hf⟩
      have h2 := (hF.of hz q1 q3 (Nat.le_refl 2) q2).2
      rw [q5] at h2
      rw [Nat.testBit_and, h1, h2] at b
      exact absurd b (by decide)
theorem sp_extend_2 {ct : Int32} {bu bl tu tl bd bm : Nat → Int32} {d2 : Nat → Int32} {d3 : Nat → Int32} {d4 : Nat → Int32} {d5 : Nat → Int32} {S : AS} {u0 F C : Nat} {l B : Nat → Nat} {K : Int32 → (Nat → Int32) → (Nat → Int32) → (Nat → Int32) → (Nat → Int32) → (Nat → Int32) → (Nat → Int32) → (Nat → Int32) → Prop} (hz : Size S) (hbd : ∀ c, c < 10 → bd c = nI (use S.2.2.1 c)) (hbm : Mts S bm) (hok : OkF S 2 l) (hs : ∀ j, j < 2 → l j / 10 < u0) (hF : Free S 2 l F) (hC : Clo d2 (LRf S.2.2.1 2 l)) (hB : Bst C B ct bu bl) (hT : Trd 2 l tu tl) (hu0 : u0 ≤ 10)
    (h : ∀ C2 B2 ct2 bu2 bl2 tu2 tl2 d32 d42 d52, Upd (EX S 2 l u0) C B C2 B2 → Bst C2 B2 ct2 bu2 bl2 → Trd 2 l tu2 tl2 → K ct2 bu2 bl2 tu2 tl2 d32 d42 d52) : wp_X0_extend_2 (nI u0) (nI F) ct bu bl tu tl bd bm d2 d3 d4 d5 K := by
  obtain ⟨rfl, hC5, hB2⟩ := hB
  unfold wp_X0_extend_2
  refine Jn3.to (fun x y z => ∃ C1 B1, Upd (E0 2 l) C B C1 B1 ∧ Bst C1 B1 x y z) (le_br (a := 2) (by decide) (by omega) (fun c => ⟨C, B, Upd.none (fun m g q => by rw [q.1]; exact c), rfl, hC5, hB2⟩) (fun c => ?_)) ?_
  · exact ⟨2, l, keep_upd (S := S) c, rfl, by decide, fun j hj => ⟨(hok.1 j hj).1, by rw [sb_cpy0 hj]; exact (hT j hj).1, by rw [sb_cpy0 hj]; exact (hT j hj).2⟩⟩
  · rintro x y z ⟨C1, B1, hU, hB1⟩
    refine Lp9.up 10 (fun k x z0 z1 z2 z3 z4 _ _ _ => x = nI k ∧ u0 ≤ k ∧ (∃ Ck Bk, Upd (fun m g => E0 2 l m g ∨ EU S 2 l u0 k m g) C B Ck Bk ∧ Bst Ck Bk z0 z1 z2) ∧ Trd 2 l z3 z4) u0 hu0 ⟨rfl, Nat.le_refl _, ⟨C1, B1, hU.congr (fun m g => ⟨Or.inl, fun q => q.elim id (fun q => by have := q.2.2.2; omega)⟩), hB1⟩, hT⟩ ?_
    rintro k x7 z0 z1 z2 z3 z4 e0 e1 e2 J hk ⟨rfl, hku, ⟨Ck, Bk, hUk, hBk⟩, hTk⟩ hJ
    refine le_br (by decide) (by omega) (fun c => ?_) (fun c => ?_)
    · rw [show k = 10 by omega] at hUk
      exact h Ck Bk _ _ _ _ _ _ _ _ (hUk.congr (EX_split hok)) hBk hTk
    · have hBk2 := hBk
      obtain ⟨rfl, hCk5, -⟩ := hBk2
      have hmk : ∀ W, mok W k ≤ 10 := fun W => by
        have := c10_le W
        unfold mok
        have := c10_le (W / 2 ^ k)
        split <;> omega
      have hm1 := hmk (F &&& 63)
      have hm2 := hmk (F &&& 960)
      refine sp_mostFolds hF.1 (by omega) ?_
      have ea : (nI 2) + nI (mok (F &&& 63) k + mok (F &&& 960) k) = nI (2 + (mok (F &&& 63) k + mok (F &&& 960) k)) := nI_add 2 _
      rw [ea]
      refine lt_br (by omega) (by omega) (fun c2 => ?_) (fun c2 => ?_)
      · refine sp_contains (by have := hF.1; omega) (by omega) (fun b => ⟨fun q => absurd q (by decide), fun _ => ?_⟩) (fun b => ⟨fun _ => ?_, fun q => absurd rfl q⟩)
        · refine sp_tryLowers_2 hz hbd hbm hok (fun j hj => by have := hs j hj; omega) c hF b hC hBk hTk (fun C2 B2 ct2 bu2 bl2 tu2 tl2 d32 d42 d52 hU2 hBs2 hTr2 => ?_)
          exact hJ _ _ _ _ _ _ _ _ _ c ⟨nI_1 k, by omega, ⟨C2, B2, EU_step hku hUk hU2, hBs2⟩, hTr2⟩
        · exact hJ _ _ _ _ _ _ _ _ _ c ⟨nI_1 k, by omega, ⟨Ck, Bk, EU_skip hz hF hku b hUk, hBk⟩, hTk⟩
      · exact h Ck Bk _ _ _ _ _ _ _ _ (EU_prune hz hF hok hku c2 hUk) hBk hTk
theorem sp_tryLowers_1 {ct : Int32} {bu bl tu tl bd bm : Nat → Int32} {d1 : Nat → Int32} {d2 : Nat → Int32} {d3 : Nat → Int32} {d4 : Nat → Int32} {d5 : Nat → Int32} {S : AS} {u F C : Nat} {l B : Nat → Nat} {K : Int32 → (Nat → Int32) → (Nat → Int32) → (Nat → Int32) → (Nat → Int32) → (Nat → Int32) → (Nat → Int32) → (Nat → Int32) → (Nat → Int32) → Prop} (hz : Size S) (hbd : ∀ c, c < 10 → bd c = nI (use S.2.2.1 c)) (hbm : Mts S bm) (hok : OkF S 1 l) (hs : ∀ j, j < 1 → l j / 10 < u) (hu : u < 10) (hF : Free S 1 l F) (hFu : F.testBit u = true) (hC : Clo d1 (LRf S.2.2.1 1 l)) (hB : Bst C B ct bu bl) (hT : Trd 1 l tu tl)
    (h : ∀ C2 B2 ct2 bu2 bl2 tu2 tl2 d22 d32 d42 d52, Upd (EV S 1 l u 0 10) C B C2 B2 → Bst C2 B2 ct2 bu2 bl2 → Trd 1 l tu2 tl2 → K ct2 bu2 bl2 tu2 tl2 d22 d32 d42 d52) : wp_X0_tryLowers_1 (nI u) (nI F) ct bu bl tu tl bd bm d1 d2 d3 d4 d5 K := by
  have z5 : S.2.2.1.length ≤ 10 := hz.2.2.2.2.1
  have vu : vp_in (nI u) 10 := vp_in_nI hu (by decide)
  obtain ⟨mm, em, hmm, hmb⟩ := hbm u hu
  unfold wp_X0_tryLowers_1
  rw [clamp_n (k := u) (by omega), em, hbd u hu, nI_and]
  refine ⟨vu, Lp10.up 10 (fun k x z0 z1 z2 z3 z4 _ _ _ _ => x = nI k ∧ (∃ Ck Bk, Upd (EV S 1 l u 0 k) C B Ck Bk ∧ Bst Ck Bk z0 z1 z2) ∧ Trd 1 l z3 z4) 0 (by omega) ⟨rfl, ⟨C, B, Upd.none (fun m g q => by have := q.2.2.2.2.2; omega), hB⟩, hT⟩ ?_⟩
  rintro k x z0 z1 z2 z3 z4 e0 e1 e2 e3 J hk ⟨rfl, ⟨Ck, Bk, hU, hBk⟩, hTk⟩ hJ
  refine le_br (by decide) (by omega) (fun c => ?_) (fun c => ?_)
  · rw [show k = 10 by omega] at hU
    exact h Ck Bk _ _ _ _ _ _ _ _ _ hU hBk hTk
  · have skip : (∀ m g, OkF S m g → 1 < m → (∀ j, j < 1 → g j = l j) → g 1 / 10 = u → g 1 % 10 = k → False) → J (nI k + 1) z0 z1 z2 z3 z4 e0 e1 e2 e3 := fun hno => hJ _ _ _ _ _ _ _ _ _ _ c ⟨nI_1 k, ⟨Ck, Bk, EV_skip hno hU, hBk⟩, hTk⟩
    have hmF : mm &&& F < 2 ^ 10 := Nat.lt_of_le_of_lt Nat.and_le_left hmm
    have vk : vp_in (nI k) 10 := vp_in_nI c (by decide)
    refine sp_contains (by omega) (by omega) (fun b => ⟨fun q => absurd q (by decide), fun _ => ⟨vu, vk, ?_⟩⟩) (fun b => ⟨fun _ => skip (fun m g q1 q2 q3 q4 q5 => ?_), fun q => absurd rfl q⟩)
    · rw [Nat.testBit_and, Bool.and_eq_true] at b
      have hfit := ((hmb k).mp b.1).2
      have hnk := ((hF.2 k).mp b.2).2
      have hnu := ((hF.2 u).mp hFu).2
      rw [clamp_n (k := k) (by omega), hbd k c]
      refine sp_allow hC (use_lt _ _ z5) (use_lt _ _ z5) (fun hal => ⟨fun q => absurd q (by decide), fun _ => ?_⟩) (fun ⟨x, hx1, hx2⟩ => ⟨fun _ => skip (fun m g q1 q2 q3 q4 q5 => ?_), fun q => absurd rfl q⟩)
      · show vp_in (nI u) 10 ∧ vp_in (nI k) 10 ∧ wp_X1_add _ _ (va_cpy d1 _ 0 0 10) _
        refine ⟨vu, vk, sp_add hC.copy (fun a b q => by have := LRf_low a b q; omega) (use_lt _ _ z5) (use_lt _ _ z5) (fun ab2 hab => ?_)⟩
        have hl2 : ∀ j, j < 1 → (fun j => if j = 1 then 10 * u + k else l j) j = l j := fun j hj => if_neg (by omega)
        have hld : (fun j => if j = 1 then 10 * u + k else l j) 1 = 10 * u + k := if_pos rfl
        generalize (fun j => if j = 1 then 10 * u + k else l j) = l2 at hl2 hld
        have hok2 : OkF S 2 l2 := OkF.more hz hok hl2 hld hu c hfit hs hnu hnk hal
        have hF2 : Free S 2 l2 (bdiff F (2 ^ u ||| 2 ^ k)) := hF.more hl2 hld hu c
        have hC2 : Clo ab2 (LRf S.2.2.1 2 l2) := hab.congr (fun a b => by
          rw [← LRf_succ (m := 1) (l := l2) a b, show l2 1 / 10 = u by omega, show l2 1 % 10 = k by omega]
          constructor
          · rintro (q | q)
            · exact Or.inl ((LRf_congr hl2 a b).mpr q)
            · exact Or.inr q
          · rintro (q | q)
            · exact Or.inl ((LRf_congr hl2 a b).mp q)
            · exact Or.inr q)
        have hs2 : ∀ j, j < 2 → l2 j / 10 < u + 1 := fun j hj => by
          by_cases ej : j = 1
          · rw [ej]
            omega
          · rw [hl2 j (by omega)]
            have := hs j (by omega)
            omega
        have hT2 : Trd 2 l2 (upd z3 1 (nI u)) (upd z4 1 (nI k)) := fun j hj => by
          by_cases ej : j = 1
          · rw [ej, pk_us, pk_us, show l2 1 / 10 = u by omega, show l2 1 % 10 = k by omega]
            exact ⟨rfl, rfl⟩
          · rw [pk_un ej, pk_un ej, hl2 j (by omega)]
            exact hTk j (by omega)
        have hB2 := hBk
        rw [nI_1, jshl_1 (by omega), jshl_1 (by omega), nI_or, nI_diff]
        refine sp_extend_2 hz hbd hbm hok2 hs2 hF2 hC2 hB2 hT2 (by omega) (fun C2 B2 ct2 bu2 bl2 tu2 tl2 d3 d4 d5 hU2 hBs2 hTr2 => ?_)
        exact hJ _ _ _ _ _ _ _ _ _ _ c ⟨nI_1 k, ⟨C2, B2, EV_step hl2 hld c hU hU2, hBs2⟩, fun j hj => ⟨by rw [(hTr2 j (by omega)).1, hl2 j hj], by rw [(hTr2 j (by omega)).2, hl2 j hj]⟩⟩
      · -- not allowed: such a list would have a round
        have hac := (q1.sub (by omega : 1 + 1 ≤ m)).2.2.2
        have h9 : Acyc (addR (LRf S.2.2.1 1 l) (use S.2.2.1 u) (use S.2.2.1 k)) := fun t ht => hac t (ht.mono (fun a b q => by
          apply (LRf_succ (m := 1) (l := g) a b).mp
          rw [q4, q5]
          rcases q with q | q
          · exact Or.inl ((LRf_congr q3 a b).mpr q)
          · exact Or.inr q))
        exact (acyc_add hok.2.2.2).mp h9 x hx1 hx2
    · have hf := (q1.1 1 q2).2
      rw [q4, q5] at hf
      have h1 := (hmb k).mpr ⟨c, hf⟩
      have h2 := (hF.of hz q1 q3 (Nat.le_refl 1) q2).2
      rw [q5] at h2
      rw [Nat.testBit_and, h1, h2] at b
      exact absurd b (by decide)
theorem sp_extend_1 {ct : Int32} {bu bl tu tl bd bm : Nat → Int32} {d1 : Nat → Int32} {d2 : Nat → Int32} {d3 : Nat → Int32} {d4 : Nat → Int32} {d5 : Nat → Int32} {S : AS} {u0 F C : Nat} {l B : Nat → Nat} {K : Int32 → (Nat → Int32) → (Nat → Int32) → (Nat → Int32) → (Nat → Int32) → (Nat → Int32) → (Nat → Int32) → (Nat → Int32) → (Nat → Int32) → Prop} (hz : Size S) (hbd : ∀ c, c < 10 → bd c = nI (use S.2.2.1 c)) (hbm : Mts S bm) (hok : OkF S 1 l) (hs : ∀ j, j < 1 → l j / 10 < u0) (hF : Free S 1 l F) (hC : Clo d1 (LRf S.2.2.1 1 l)) (hB : Bst C B ct bu bl) (hT : Trd 1 l tu tl) (hu0 : u0 ≤ 10)
    (h : ∀ C2 B2 ct2 bu2 bl2 tu2 tl2 d22 d32 d42 d52, Upd (EX S 1 l u0) C B C2 B2 → Bst C2 B2 ct2 bu2 bl2 → Trd 1 l tu2 tl2 → K ct2 bu2 bl2 tu2 tl2 d22 d32 d42 d52) : wp_X0_extend_1 (nI u0) (nI F) ct bu bl tu tl bd bm d1 d2 d3 d4 d5 K := by
  obtain ⟨rfl, hC5, hB2⟩ := hB
  unfold wp_X0_extend_1
  refine Jn3.to (fun x y z => ∃ C1 B1, Upd (E0 1 l) C B C1 B1 ∧ Bst C1 B1 x y z) (le_br (a := 1) (by decide) (by omega) (fun c => ⟨C, B, Upd.none (fun m g q => by rw [q.1]; exact c), rfl, hC5, hB2⟩) (fun c => ?_)) ?_
  · exact ⟨1, l, keep_upd (S := S) c, rfl, by decide, fun j hj => ⟨(hok.1 j hj).1, by rw [sb_cpy0 hj]; exact (hT j hj).1, by rw [sb_cpy0 hj]; exact (hT j hj).2⟩⟩
  · rintro x y z ⟨C1, B1, hU, hB1⟩
    refine Lp10.up 10 (fun k x z0 z1 z2 z3 z4 _ _ _ _ => x = nI k ∧ u0 ≤ k ∧ (∃ Ck Bk, Upd (fun m g => E0 1 l m g ∨ EU S 1 l u0 k m g) C B Ck Bk ∧ Bst Ck Bk z0 z1 z2) ∧ Trd 1 l z3 z4) u0 hu0 ⟨rfl, Nat.le_refl _, ⟨C1, B1, hU.congr (fun m g => ⟨Or.inl, fun q => q.elim id (fun q => by have := q.2.2.2; omega)⟩), hB1⟩, hT⟩ ?_
    rintro k x7 z0 z1 z2 z3 z4 e0 e1 e2 e3 J hk ⟨rfl, hku, ⟨Ck, Bk, hUk, hBk⟩, hTk⟩ hJ
    refine le_br (by decide) (by omega) (fun c => ?_) (fun c => ?_)
    · rw [show k = 10 by omega] at hUk
      exact h Ck Bk _ _ _ _ _ _ _ _ _ (hUk.congr (EX_split hok)) hBk hTk
    · have hBk2 := hBk
      obtain ⟨rfl, hCk5, -⟩ := hBk2
      have hmk : ∀ W, mok W k ≤ 10 := fun W => by
        have := c10_le W
        unfold mok
        have := c10_le (W / 2 ^ k)
        split <;> omega
      have hm1 := hmk (F &&& 63)
      have hm2 := hmk (F &&& 960)
      refine sp_mostFolds hF.1 (by omega) ?_
      have ea : (1 : Int32) + nI (mok (F &&& 63) k + mok (F &&& 960) k) = nI (1 + (mok (F &&& 63) k + mok (F &&& 960) k)) := nI_add 1 _
      rw [ea]
      refine lt_br (by omega) (by omega) (fun c2 => ?_) (fun c2 => ?_)
      · refine sp_contains (by have := hF.1; omega) (by omega) (fun b => ⟨fun q => absurd q (by decide), fun _ => ?_⟩) (fun b => ⟨fun _ => ?_, fun q => absurd rfl q⟩)
        · refine sp_tryLowers_1 hz hbd hbm hok (fun j hj => by have := hs j hj; omega) c hF b hC hBk hTk (fun C2 B2 ct2 bu2 bl2 tu2 tl2 d22 d32 d42 d52 hU2 hBs2 hTr2 => ?_)
          exact hJ _ _ _ _ _ _ _ _ _ _ c ⟨nI_1 k, by omega, ⟨C2, B2, EU_step hku hUk hU2, hBs2⟩, hTr2⟩
        · exact hJ _ _ _ _ _ _ _ _ _ _ c ⟨nI_1 k, by omega, ⟨Ck, Bk, EU_skip hz hF hku b hUk, hBk⟩, hTk⟩
      · exact h Ck Bk _ _ _ _ _ _ _ _ _ (EU_prune hz hF hok hku c2 hUk) hBk hTk
theorem sp_tryLowers_0 {ct : Int32} {bu bl tu tl bd bm : Nat → Int32} {d0 : Nat → Int32} {d1 : Nat → Int32} {d2 : Nat → Int32} {d3 : Nat → Int32} {d4 : Nat → Int32} {d5 : Nat → Int32} {S : AS} {u F C : Nat} {l B : Nat → Nat} {K : Int32 → (Nat → Int32) → (Nat → Int32) → (Nat → Int32) → (Nat → Int32) → (Nat → Int32) → (Nat → Int32) → (Nat → Int32) → (Nat → Int32) → (Nat → Int32) → Prop} (hz : Size S) (hbd : ∀ c, c < 10 → bd c = nI (use S.2.2.1 c)) (hbm : Mts S bm) (hok : OkF S 0 l) (hs : ∀ j, j < 0 → l j / 10 < u) (hu : u < 10) (hF : Free S 0 l F) (hFu : F.testBit u = true) (hC : Clo d0 (LRf S.2.2.1 0 l)) (hB : Bst C B ct bu bl) (hT : Trd 0 l tu tl)
    (h : ∀ C2 B2 ct2 bu2 bl2 tu2 tl2 d12 d22 d32 d42 d52, Upd (EV S 0 l u 0 10) C B C2 B2 → Bst C2 B2 ct2 bu2 bl2 → Trd 0 l tu2 tl2 → K ct2 bu2 bl2 tu2 tl2 d12 d22 d32 d42 d52) : wp_X0_tryLowers_0 (nI u) (nI F) ct bu bl tu tl bd bm d0 d1 d2 d3 d4 d5 K := by
  have z5 : S.2.2.1.length ≤ 10 := hz.2.2.2.2.1
  have vu : vp_in (nI u) 10 := vp_in_nI hu (by decide)
  obtain ⟨mm, em, hmm, hmb⟩ := hbm u hu
  unfold wp_X0_tryLowers_0
  rw [clamp_n (k := u) (by omega), em, hbd u hu, nI_and]
  refine ⟨vu, Lp11.up 10 (fun k x z0 z1 z2 z3 z4 _ _ _ _ _ => x = nI k ∧ (∃ Ck Bk, Upd (EV S 0 l u 0 k) C B Ck Bk ∧ Bst Ck Bk z0 z1 z2) ∧ Trd 0 l z3 z4) 0 (by omega) ⟨rfl, ⟨C, B, Upd.none (fun m g q => by have := q.2.2.2.2.2; omega), hB⟩, hT⟩ ?_⟩
  rintro k x z0 z1 z2 z3 z4 e0 e1 e2 e3 e4 J hk ⟨rfl, ⟨Ck, Bk, hU, hBk⟩, hTk⟩ hJ
  refine le_br (by decide) (by omega) (fun c => ?_) (fun c => ?_)
  · rw [show k = 10 by omega] at hU
    exact h Ck Bk _ _ _ _ _ _ _ _ _ _ hU hBk hTk
  · have skip : (∀ m g, OkF S m g → 0 < m → (∀ j, j < 0 → g j = l j) → g 0 / 10 = u → g 0 % 10 = k → False) → J (nI k + 1) z0 z1 z2 z3 z4 e0 e1 e2 e3 e4 := fun hno => hJ _ _ _ _ _ _ _ _ _ _ _ c ⟨nI_1 k, ⟨Ck, Bk, EV_skip hno hU, hBk⟩, hTk⟩
    have hmF : mm &&& F < 2 ^ 10 := Nat.lt_of_le_of_lt Nat.and_le_left hmm
    have vk : vp_in (nI k) 10 := vp_in_nI c (by decide)
    refine sp_contains (by omega) (by omega) (fun b => ⟨fun q => absurd q (by decide), fun _ => ⟨vu, vk, ?_⟩⟩) (fun b => ⟨fun _ => skip (fun m g q1 q2 q3 q4 q5 => ?_), fun q => absurd rfl q⟩)
    · rw [Nat.testBit_and, Bool.and_eq_true] at b
      have hfit := ((hmb k).mp b.1).2
      have hnk := ((hF.2 k).mp b.2).2
      have hnu := ((hF.2 u).mp hFu).2
      rw [clamp_n (k := k) (by omega), hbd k c]
      refine sp_allow hC (use_lt _ _ z5) (use_lt _ _ z5) (fun hal => ⟨fun q => absurd q (by decide), fun _ => ?_⟩) (fun ⟨x, hx1, hx2⟩ => ⟨fun _ => skip (fun m g q1 q2 q3 q4 q5 => ?_), fun q => absurd rfl q⟩)
      · show vp_in (nI u) 10 ∧ vp_in (nI k) 10 ∧ wp_X1_add _ _ (va_cpy d0 _ 0 0 10) _
        refine ⟨vu, vk, sp_add hC.copy (fun a b q => by have := LRf_low a b q; omega) (use_lt _ _ z5) (use_lt _ _ z5) (fun ab2 hab => ?_)⟩
        have hl2 : ∀ j, j < 0 → (fun j => if j = 0 then 10 * u + k else l j) j = l j := fun j hj => if_neg (by omega)
        have hld : (fun j => if j = 0 then 10 * u + k else l j) 0 = 10 * u + k := if_pos rfl
        generalize (fun j => if j = 0 then 10 * u + k else l j) = l2 at hl2 hld
        have hok2 : OkF S 1 l2 := OkF.more hz hok hl2 hld hu c hfit hs hnu hnk hal
        have hF2 : Free S 1 l2 (bdiff F (2 ^ u ||| 2 ^ k)) := hF.more hl2 hld hu c
        have hC2 : Clo ab2 (LRf S.2.2.1 1 l2) := hab.congr (fun a b => by
          rw [← LRf_succ (m := 0) (l := l2) a b, show l2 0 / 10 = u by omega, show l2 0 % 10 = k by omega]
          constructor
          · rintro (q | q)
            · exact Or.inl ((LRf_congr hl2 a b).mpr q)
            · exact Or.inr q
          · rintro (q | q)
            · exact Or.inl ((LRf_congr hl2 a b).mp q)
            · exact Or.inr q)
        have hs2 : ∀ j, j < 1 → l2 j / 10 < u + 1 := fun j hj => by
          by_cases ej : j = 0
          · rw [ej]
            omega
          · rw [hl2 j (by omega)]
            have := hs j (by omega)
            omega
        have hT2 : Trd 1 l2 (upd z3 0 (nI u)) (upd z4 0 (nI k)) := fun j hj => by
          by_cases ej : j = 0
          · rw [ej, pk_us, pk_us, show l2 0 / 10 = u by omega, show l2 0 % 10 = k by omega]
            exact ⟨rfl, rfl⟩
          · rw [pk_un ej, pk_un ej, hl2 j (by omega)]
            exact hTk j (by omega)
        have hB2 := hBk
        rw [nI_1, jshl_1 (by omega), jshl_1 (by omega), nI_or, nI_diff]
        refine sp_extend_1 hz hbd hbm hok2 hs2 hF2 hC2 hB2 hT2 (by omega) (fun C2 B2 ct2 bu2 bl2 tu2 tl2 d2 d3 d4 d5 hU2 hBs2 hTr2 => ?_)
        exact hJ _ _ _ _ _ _ _ _ _ _ _ c ⟨nI_1 k, ⟨C2, B2, EV_step hl2 hld c hU hU2, hBs2⟩, fun j hj => ⟨by rw [(hTr2 j (by omega)).1, hl2 j hj], by rw [(hTr2 j (by omega)).2, hl2 j hj]⟩⟩
      · -- not allowed: such a list would have a round
        have hac := (q1.sub (by omega : 0 + 1 ≤ m)).2.2.2
        have h9 : Acyc (addR (LRf S.2.2.1 0 l) (use S.2.2.1 u) (use S.2.2.1 k)) := fun t ht => hac t (ht.mono (fun a b q => by
          apply (LRf_succ (m := 0) (l := g) a b).mp
          rw [q4, q5]
          rcases q with q | q
          · exact Or.inl ((LRf_congr q3 a b).mpr q)
          · exact Or.inr q))
        exact (acyc_add hok.2.2.2).mp h9 x hx1 hx2
    · have hf := (q1.1 0 q2).2
      rw [q4, q5] at hf
      have h1 := (hmb k).mpr ⟨c, hf⟩
      have h2 := (hF.of hz q1 q3 (Nat.le_refl 0) q2).2
      rw [q5] at h2
      rw [Nat.testBit_and, h1, h2] at b
      exact absurd b (by decide)
theorem sp_extend_0 {ct : Int32} {bu bl tu tl bd bm : Nat → Int32} {d0 : Nat → Int32} {d1 : Nat → Int32} {d2 : Nat → Int32} {d3 : Nat → Int32} {d4 : Nat → Int32} {d5 : Nat → Int32} {S : AS} {u0 F C : Nat} {l B : Nat → Nat} {K : Int32 → (Nat → Int32) → (Nat → Int32) → (Nat → Int32) → (Nat → Int32) → (Nat → Int32) → (Nat → Int32) → (Nat → Int32) → (Nat → Int32) → (Nat → Int32) → Prop} (hz : Size S) (hbd : ∀ c, c < 10 → bd c = nI (use S.2.2.1 c)) (hbm : Mts S bm) (hok : OkF S 0 l) (hs : ∀ j, j < 0 → l j / 10 < u0) (hF : Free S 0 l F) (hC : Clo d0 (LRf S.2.2.1 0 l)) (hB : Bst C B ct bu bl) (hT : Trd 0 l tu tl) (hu0 : u0 ≤ 10)
    (h : ∀ C2 B2 ct2 bu2 bl2 tu2 tl2 d12 d22 d32 d42 d52, Upd (EX S 0 l u0) C B C2 B2 → Bst C2 B2 ct2 bu2 bl2 → Trd 0 l tu2 tl2 → K ct2 bu2 bl2 tu2 tl2 d12 d22 d32 d42 d52) : wp_X0_extend_0 (nI u0) (nI F) ct bu bl tu tl bd bm d0 d1 d2 d3 d4 d5 K := by
  obtain ⟨rfl, hC5, hB2⟩ := hB
  unfold wp_X0_extend_0
  refine Jn3.to (fun x y z => ∃ C1 B1, Upd (E0 0 l) C B C1 B1 ∧ Bst C1 B1 x y z) (le_br (a := 0) (by decide) (by omega) (fun c => ⟨C, B, Upd.none (fun m g q => by rw [q.1]; exact c), rfl, hC5, hB2⟩) (fun c => ?_)) ?_
  · exact ⟨0, l, keep_upd (S := S) c, rfl, by decide, fun j hj => ⟨(hok.1 j hj).1, by rw [sb_cpy0 hj]; exact (hT j hj).1, by rw [sb_cpy0 hj]; exact (hT j hj).2⟩⟩
  · rintro x y z ⟨C1, B1, hU, hB1⟩
    refine Lp11.up 10 (fun k x z0 z1 z2 z3 z4 _ _ _ _ _ => x = nI k ∧ u0 ≤ k ∧ (∃ Ck Bk, Upd (fun m g => E0 0 l m g ∨ EU S 0 l u0 k m g) C B Ck Bk ∧ Bst Ck Bk z0 z1 z2) ∧ Trd 0 l z3 z4) u0 hu0 ⟨rfl, Nat.le_refl _, ⟨C1, B1, hU.congr (fun m g => ⟨Or.inl, fun q => q.elim id (fun q => by have := q.2.2.2; omega)⟩), hB1⟩, hT⟩ ?_
    rintro k x7 z0 z1 z2 z3 z4 e0 e1 e2 e3 e4 J hk ⟨rfl, hku, ⟨Ck, Bk, hUk, hBk⟩, hTk⟩ hJ
    refine le_br (by decide) (by omega) (fun c => ?_) (fun c => ?_)
    · rw [show k = 10 by omega] at hUk
      exact h Ck Bk _ _ _ _ _ _ _ _ _ _ (hUk.congr (EX_split hok)) hBk hTk
    · have hBk2 := hBk
      obtain ⟨rfl, hCk5, -⟩ := hBk2
      have hmk : ∀ W, mok W k ≤ 10 := fun W => by
        have := c10_le W
        unfold mok
        have := c10_le (W / 2 ^ k)
        split <;> omega
      have hm1 := hmk (F &&& 63)
      have hm2 := hmk (F &&& 960)
      refine sp_mostFolds hF.1 (by omega) ?_
      have ea : (0 : Int32) + nI (mok (F &&& 63) k + mok (F &&& 960) k) = nI (0 + (mok (F &&& 63) k + mok (F &&& 960) k)) := nI_add 0 _
      rw [ea]
      refine lt_br (by omega) (by omega) (fun c2 => ?_) (fun c2 => ?_)
      · refine sp_contains (by have := hF.1; omega) (by omega) (fun b => ⟨fun q => absurd q (by decide), fun _ => ?_⟩) (fun b => ⟨fun _ => ?_, fun q => absurd rfl q⟩)
        · refine sp_tryLowers_0 hz hbd hbm hok (fun j hj => by have := hs j hj; omega) c hF b hC hBk hTk (fun C2 B2 ct2 bu2 bl2 tu2 tl2 d12 d22 d32 d42 d52 hU2 hBs2 hTr2 => ?_)
          exact hJ _ _ _ _ _ _ _ _ _ _ _ c ⟨nI_1 k, by omega, ⟨C2, B2, EU_step hku hUk hU2, hBs2⟩, hTr2⟩
        · exact hJ _ _ _ _ _ _ _ _ _ _ _ c ⟨nI_1 k, by omega, ⟨Ck, Bk, EU_skip hz hF hku b hUk, hBk⟩, hTk⟩
      · exact h Ck Bk _ _ _ _ _ _ _ _ _ _ (EU_prune hz hF hok hku c2 hUk) hBk hTk
