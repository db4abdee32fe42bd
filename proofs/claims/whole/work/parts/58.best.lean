-- how many folds there can be; the reference's best folding
theorem kind_bound {q N : Nat} {a b : Nat → Nat} {p : Nat → Bool} (h1 : ∀ j, j < q → p (a j) = true ∧ a j < N ∧ p (b j) = true ∧ b j < N) (h2 : ∀ j, j < q → a j ≠ b j) (h3 : ∀ i j, i < j → j < q → a i ≠ a j ∧ a i ≠ b j ∧ b i ≠ a j ∧ b i ≠ b j) : 2 * q ≤ cnt p N := by
  have h4 : ∀ i j, i < q → j < q → i ≠ j → a i ≠ a j ∧ a i ≠ b j ∧ b i ≠ a j ∧ b i ≠ b j := by
    intro i j hi hj hne
    rcases Nat.lt_or_ge i j with c | c
    · exact h3 i j c hj
    · obtain ⟨w1, w2, w3, w4⟩ := h3 j i (by omega) hi
      exact ⟨fun e => w1 e.symm, fun e => w3 e.symm, fun e => w2 e.symm, fun e => w4 e.symm⟩
  refine inj_cnt (g := fun x => if x % 2 = 0 then a (x / 2) else b (x / 2)) (2 * q) (fun x y hx hy e => ?_) (fun x hx => ?_)
  · have e : (if x % 2 = 0 then a (x / 2) else b (x / 2)) = (if y % 2 = 0 then a (y / 2) else b (y / 2)) := e
    by_cases ed : x / 2 = y / 2
    · by_cases c1 : x % 2 = 0 <;> by_cases c2 : y % 2 = 0
      · omega
      · rw [if_pos c1, if_neg c2, ed] at e
        exact absurd e (h2 (y / 2) (by omega))
      · rw [if_neg c1, if_pos c2, ed] at e
        exact absurd e.symm (h2 (y / 2) (by omega))
      · omega
    · obtain ⟨w1, w2, w3, w4⟩ := h4 (x / 2) (y / 2) (by omega) (by omega) ed
      by_cases c1 : x % 2 = 0 <;> by_cases c2 : y % 2 = 0
      · rw [if_pos c1, if_pos c2] at e
        exact absurd e w1
      · rw [if_pos c1, if_neg c2] at e
        exact absurd e w2
      · rw [if_neg c1, if_pos c2] at e
        exact absurd e w3
      · rw [if_neg c1, if_neg c2] at e
        exact absurd e w4
  · obtain ⟨k1, k2, k3, k4⟩ := h1 (x / 2) (by omega)
    show p (if x % 2 = 0 then a (x / 2) else b (x / 2)) = true ∧ (if x % 2 = 0 then a (x / 2) else b (x / 2)) < N
    by_cases c1 : x % 2 = 0
    · rw [if_pos c1]
      exact ⟨k1, k2⟩
    · rw [if_neg c1]
      exact ⟨k3, k4⟩
/-- first the folds of inputs, then those of outputs -/
theorem OkF.split {S : AS} {m : Nat} {l : Nat → Nat} (h : OkF S m l) : ∃ s, s ≤ m ∧ (∀ j, j < s → l j / 10 < 6) ∧ ∀ j, s ≤ j → j < m → 6 ≤ l j / 10 := by
  obtain ⟨s, h1, h2⟩ := pk_least (fun s => m ≤ s ∨ 6 ≤ l s / 10) ⟨m, Or.inl (Nat.le_refl m)⟩
  refine ⟨if s ≤ m then s else m, by split <;> omega, fun j hj => ?_, fun j hj hjm => ?_⟩
  · have hjs : j < s := by
      by_cases c : s ≤ m
      · rw [if_pos c] at hj
        exact hj
      · rw [if_neg c] at hj
        omega
    have := h2 j hjs
    omega
  · rcases h1 with c | c
    · have : j < s := by omega
      by_cases d : s ≤ m
      · rw [if_pos d] at hj
        omega
      · rw [if_neg d] at hj
        omega
    · by_cases d : s ≤ m
      · rw [if_pos d] at hj
        by_cases e : j = s
        · rw [e]
          exact c
        · have := h.2.1 s j (by omega) hjm
          omega
      · rw [if_neg d] at hj
        omega
theorem OkF.bound {S : AS} {m : Nat} {l : Nat → Nat} (hz : Size S) (h : OkF S m l) : m ≤ S.1 / 2 + S.2.1 / 2 := by
  obtain ⟨z1, z2, z3, z4, z5, z6⟩ := hz
  obtain ⟨s, hs, ha, hb⟩ := h.split
  have b1 : 2 * s ≤ cnt (fun _ => true) S.1 := by
    refine kind_bound (a := fun j => l j / 10) (b := fun j => l j % 10) (fun j hj => ?_) (fun j hj => (h.1 j (by omega)).2.1) (fun i j hij hj => h.2.2.1 i j hij (by omega))
    obtain ⟨f1, f2, f3, f4, f5⟩ := (h.1 j (by omega)).2
    have hu := ha j hj
    have hv := f4.mp hu
    have hu2 : l j / 10 < S.1 := by rcases f2 with q | q <;> omega
    have hv2 : l j % 10 < S.1 := by rcases f3 with q | q <;> omega
    exact ⟨rfl, hu2, rfl, hv2⟩
  have b2 : 2 * (m - s) ≤ cnt (fun _ => true) S.2.1 := by
    have key : ∀ j, j < m - s → 6 ≤ l (s + j) / 10 ∧ l (s + j) / 10 < 6 + S.2.1 ∧ 6 ≤ l (s + j) % 10 ∧ l (s + j) % 10 < 6 + S.2.1 := by
      intro j hj
      obtain ⟨f1, f2, f3, f4, f5⟩ := (h.1 (s + j) (by omega)).2
      have hu := hb (s + j) (by omega) (by omega)
      have hv : 6 ≤ l (s + j) % 10 := by
        rcases Nat.lt_or_ge (l (s + j) % 10) 6 with q | q
        · have := f4.mpr q
          omega
        · exact q
      have hu2 : l (s + j) / 10 < 6 + S.2.1 := by rcases f2 with q | q <;> omega
      have hv2 : l (s + j) % 10 < 6 + S.2.1 := by rcases f3 with q | q <;> omega
      exact ⟨hu, hu2, hv, hv2⟩
    refine kind_bound (a := fun j => l (s + j) / 10 - 6) (b := fun j => l (s + j) % 10 - 6) (fun j hj => ?_) (fun j hj => ?_) (fun i j hij hj => ?_)
    · have := key j hj
      exact ⟨rfl, by show l (s + j) / 10 - 6 < S.2.1; omega, rfl, by show l (s + j) % 10 - 6 < S.2.1; omega⟩
    · have k1 := key j hj
      have k2 := (h.1 (s + j) (by omega)).2.1
      show l (s + j) / 10 - 6 ≠ l (s + j) % 10 - 6
      omega
    · have k1 := key i (by omega)
      have k2 := key j hj
      obtain ⟨w1, w2, w3, w4⟩ := h.2.2.1 (s + i) (s + j) (by omega) (by omega)
      show l (s + i) / 10 - 6 ≠ l (s + j) / 10 - 6 ∧ l (s + i) / 10 - 6 ≠ l (s + j) % 10 - 6 ∧ l (s + i) % 10 - 6 ≠ l (s + j) / 10 - 6 ∧ l (s + i) % 10 - 6 ≠ l (s + j) % 10 - 6
      refine ⟨?_, ?_, ?_, ?_⟩ <;> omega
  rw [cnt_true] at b1 b2
  omega
/-- the best folding -/
def BestF (S : AS) (M : Nat) (l : Nat → Nat) : Prop := OkF S M l ∧ (∀ m g, OkF S m g → m ≤ M) ∧ ∀ g, OkF S M g → LexGe M l g
theorem BestF.unique {S : AS} {M N : Nat} {l g : Nat → Nat} (h : BestF S M l) (k : BestF S N g) : M = N ∧ ∀ j, j < M → l j = g j := by
  have e : M = N := by
    have := h.2.1 N g k.1
    have := k.2.1 M l h.1
    omega
  subst e
  refine ⟨rfl, fun j hj => ?_⟩
  rcases h.2.2 g k.1 with q | ⟨a, q1, q2, q3⟩
  · exact (q j hj).symm
  · rcases k.2.2 l h.1 with p | ⟨b, p1, p2, p3⟩
    · exact p j hj
    · exfalso
      rcases Nat.lt_trichotomy a b with c | c | c
      · have := p2 a c
        omega
      · subst c
        omega
      · have := q2 b c
        omega
theorem sp_findBestM {nw us un od li : Nat → Int32} {lm : Int32} {S : AS} {K : (Nat → Int32) → (Nat → Int32) → (Nat → Int32) → (Nat → Int32) → Int32 → Prop} (hR : RepM nw S) (hz : Size S)
    (h : ∀ M l us2 un2 od2 li2, BestF S M l → M ≤ 5 → (∀ j, j < M → li2 j = nI (l j)) → K us2 un2 od2 li2 (nI M)) : wp_X6_findBest nw us un od li lm K := by
  have hz2 := hz
  obtain ⟨z1, z2, z3, z4, z5, z6⟩ := hz2
  unfold wp_X6_findBest
  refine sp_layUsed hR hz (fun us2 hus => ?_)
  rw [hR.1, hR.2.1]
  have e1 : nI S.1 / nI 2 = nI (S.1 / 2) := pk_div (by omega) (by decide) (by decide)
  have e2 : nI S.2.1 / nI 2 = nI (S.2.1 / 2) := pk_div (by omega) (by decide) (by decide)
  rw [e1, e2, nI_add]
  refine Lp5.dn (S.1 / 2 + S.2.1 / 2) (fun k x _ _ _ _ => x = nI k ∧ k ≤ 5 ∧ ∀ m g, OkF S m g → m ≤ k) ⟨rfl, by omega, fun m g hg => hg.bound hz⟩ ?_
  rintro k x un1 od1 li1 lm1 J ⟨rfl, hk, hall⟩ hJ
  refine sp_findList hR hz hus hk (fun l un2 od2 li2 hok hlex hli => ⟨fun _ => h k l us2 un2 od2 li2 ⟨hok, hall, hlex⟩ hk hli, fun q => absurd q (by decide)⟩) (fun hno un2 od2 li2 => ⟨fun q => absurd rfl q, fun _ => ?_⟩)
  cases k with
  | zero => exact absurd OkF.zero (hno (fun _ => 0))
  | succ k =>
    have e8 : nI (k + 1) + (-1 : Int32) = nI k := pk_m1 k
    rw [e8]
    refine hJ k _ _ _ _ _ (by omega) ⟨rfl, by omega, fun m g hg => ?_⟩
    have h9 := hall m g hg
    by_cases em : m = k + 1
    · subst em
      exact absurd hg (hno g)
    · omega
