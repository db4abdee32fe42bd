-- the class's search, said without the machine
/-- from the best so far (C, B) over the lists of E to (C2, B2) -/
def Upd (E : Nat → (Nat → Nat) → Prop) (C : Nat) (B : Nat → Nat) (C2 : Nat) (B2 : Nat → Nat) : Prop := (C2 = C ∧ B2 = B ∧ ∀ m g, E m g → m ≤ C) ∨ (C < C2 ∧ E C2 B2 ∧ (∀ m g, E m g → m ≤ C2) ∧ ∀ g, E C2 g → LexGe C2 B2 g)
theorem Upd.none {E : Nat → (Nat → Nat) → Prop} {C : Nat} {B : Nat → Nat} (h : ∀ m g, E m g → m ≤ C) : Upd E C B C B := Or.inl ⟨rfl, rfl, h⟩
theorem Upd.congr {E G : Nat → (Nat → Nat) → Prop} {C C2 : Nat} {B B2 : Nat → Nat} (h : Upd E C B C2 B2) (e : ∀ m g, E m g ↔ G m g) : Upd G C B C2 B2 := by
  rcases h with ⟨h1, h2, h3⟩ | ⟨h1, h2, h3, h4⟩
  · exact Or.inl ⟨h1, h2, fun m g q => h3 m g ((e m g).mpr q)⟩
  · exact Or.inr ⟨h1, (e _ _).mp h2, fun m g q => h3 m g ((e m g).mpr q), fun g q => h4 g ((e _ g).mpr q)⟩
theorem Upd.seq {E G : Nat → (Nat → Nat) → Prop} {C C1 C2 : Nat} {B B1 B2 : Nat → Nat} (h : Upd E C B C1 B1) (k : Upd G C1 B1 C2 B2) (hx : ∀ m g1 g2, E m g1 → G m g2 → LexGe m g1 g2) : Upd (fun m g => E m g ∨ G m g) C B C2 B2 := by
  rcases h with ⟨rfl, rfl, h3⟩ | ⟨h1, h2, h3, h4⟩
  · rcases k with ⟨rfl, rfl, k3⟩ | ⟨k1, k2, k3, k4⟩
    · exact Or.inl ⟨rfl, rfl, fun m g q => q.elim (h3 m g) (k3 m g)⟩
    · refine Or.inr ⟨k1, Or.inr k2, fun m g q => ?_, fun g q => ?_⟩
      · rcases q with q | q
        · have := h3 m g q
          omega
        · exact k3 m g q
      · rcases q with q | q
        · have := h3 _ g q
          omega
        · exact k4 g q
  · rcases k with ⟨rfl, rfl, k3⟩ | ⟨k1, k2, k3, k4⟩
    · exact Or.inr ⟨h1, Or.inl h2, fun m g q => q.elim (h3 m g) (k3 m g), fun g q => q.elim (h4 g) (hx _ _ g h2)⟩
    · refine Or.inr ⟨by omega, Or.inr k2, fun m g q => ?_, fun g q => ?_⟩
      · rcases q with q | q
        · have := h3 m g q
          omega
        · exact k3 m g q
      · rcases q with q | q
        · have := h3 _ g q
          omega
        · exact k4 g q
/-- the lists that go on from the first d folds of l, the next upper column being u0 at least -/
def EX (S : AS) (d : Nat) (l : Nat → Nat) (u0 m : Nat) (g : Nat → Nat) : Prop := OkF S m g ∧ d ≤ m ∧ (∀ j, j < d → g j = l j) ∧ (d < m → u0 ≤ g d / 10)
/-- those whose next upper column is from a to b, b not included -/
def EU (S : AS) (d : Nat) (l : Nat → Nat) (a b m : Nat) (g : Nat → Nat) : Prop := OkF S m g ∧ d < m ∧ (∀ j, j < d → g j = l j) ∧ a ≤ g d / 10 ∧ g d / 10 < b
/-- those whose next fold is of u, with a lower column from a to b -/
def EV (S : AS) (d : Nat) (l : Nat → Nat) (u a b m : Nat) (g : Nat → Nat) : Prop := OkF S m g ∧ d < m ∧ (∀ j, j < d → g j = l j) ∧ g d / 10 = u ∧ a ≤ g d % 10 ∧ g d % 10 < b
theorem acyc_add {R : Nat → Nat → Prop} {U L : Nat} (ha : Acyc R) : Acyc (addR R U L) ↔ ∀ l, L.testBit l = true → ¬ upR R U l := by
  constructor
  · intro h l hl hu
    rcases hu with hu | ⟨u, hu, ht⟩
    · exact h l (TC.one (Or.inr ⟨hu, hl⟩))
    · have h1 : TC (addR R U L) l u := ht.mono (fun _ _ r => Or.inl r)
      exact h l (h1.step (Or.inr ⟨hu, hl⟩))
  · intro h t ht
    rcases tc_add.mp ht with q | ⟨q1, q2⟩
    · exact ha t q
    · rcases q2 with q2 | ⟨l, q2, q3⟩
      · exact h t q2 q1
      · refine h l q2 ?_
        rcases q1 with q1 | ⟨u, q1, q4⟩
        · exact Or.inr ⟨t, q1, q3⟩
        · exact Or.inr ⟨u, q1, q3.trans q4⟩
/-- the columns that are free behind d folds -/
def Free (S : AS) (d : Nat) (l : Nat → Nat) (F : Nat) : Prop := F < 2 ^ 10 ∧ ∀ c, F.testBit c = true ↔ (c < 10 ∧ ∃ v, fitP S c v) ∧ ∀ j, j < d → c ≠ l j / 10 ∧ c ≠ l j % 10
theorem fit_symm {S : AS} {u v : Nat} (h : fitP S u v) : fitP S v u := by
  obtain ⟨a, b, c, d, e⟩ := h
  exact ⟨fun q => a q.symm, c, b, d.symm, by rw [Nat.and_comm]; exact e⟩
theorem Free.of {S : AS} {d m : Nat} {l g : Nat → Nat} {F : Nat} (hz : Size S) (hF : Free S d l F) (hg : OkF S m g) (e : ∀ j, j < d → g j = l j) {j : Nat} (hj : d ≤ j) (hjm : j < m) : F.testBit (g j / 10) = true ∧ F.testBit (g j % 10) = true := by
  obtain ⟨z1, z2, z3, z4, z5, z6⟩ := hz
  have hf := (hg.1 j hjm).2
  refine ⟨(hF.2 _).mpr ⟨⟨col10 z2 z4 hf.2.1, _, hf⟩, fun i hi => ?_⟩, (hF.2 _).mpr ⟨⟨col10 z2 z4 hf.2.2.1, _, fit_symm hf⟩, fun i hi => ?_⟩⟩
  · obtain ⟨w1, w2, w3, w4⟩ := hg.2.2.1 i j (by omega) hjm
    rw [← e i hi]
    exact ⟨fun q => w1 q.symm, fun q => w3 q.symm⟩
  · obtain ⟨w1, w2, w3, w4⟩ := hg.2.2.1 i j (by omega) hjm
    rw [← e i hi]
    exact ⟨fun q => w2 q.symm, fun q => w4 q.symm⟩
/-- the class's bound -/
theorem prune {S : AS} {d m u : Nat} {l g : Nat → Nat} {F : Nat} (hz : Size S) (hF : Free S d l F) (hg : OkF S m g) (e : ∀ j, j < d → g j = l j) (hm : d < m) (hu : u ≤ g d / 10) : m ≤ d + (mok (F &&& 63) u + mok (F &&& 960) u) := by
  obtain ⟨s, hs, ha, hb⟩ := hg.split
  have hsort : ∀ j, d ≤ j → j < m → u ≤ g j / 10 := by
    intro j hj hjm
    by_cases ej : j = d
    · rw [ej]
      exact hu
    · have := hg.2.1 d j (by omega) hjm
      omega
  -- inputs: from d to s; outputs: from max d s to m
  have part : ∀ (b q W : Nat), d ≤ b → b + q ≤ m → (∀ j, j < q → (F &&& W).testBit (g (b + j) / 10) = true ∧ (F &&& W).testBit (g (b + j) % 10) = true) → q ≤ mok (F &&& W) u := by
    intro b q W hdb hbq hW
    have hFW : F &&& W < 2 ^ 10 := Nat.lt_of_le_of_lt Nat.and_le_left hF.1
    have c1 : 2 * q ≤ c10 (F &&& W) := by
      unfold c10
      refine kind_bound (p := fun t => (F &&& W).testBit t) (a := fun j => g (b + j) / 10) (b := fun j => g (b + j) % 10) (fun j hj => ⟨(hW j hj).1, bit_lt hFW (hW j hj).1, (hW j hj).2, bit_lt hFW (hW j hj).2⟩) (fun j hj => (hg.1 (b + j) (by omega)).2.1) (fun i j hij hj => hg.2.2.1 (b + i) (b + j) (by omega) (by omega))
    have c2 : q ≤ c10 ((F &&& W) / 2 ^ u) := by
      unfold c10
      refine inj_cnt (p := fun t => ((F &&& W) / 2 ^ u).testBit t) (g := fun j => g (b + j) / 10 - u) q (fun i j hi hj eij => ?_) (fun j hj => ?_)
      · have eij : g (b + i) / 10 - u = g (b + j) / 10 - u := eij
        have k1 := hsort (b + i) (by omega) (by omega)
        have k2 := hsort (b + j) (by omega) (by omega)
        rcases Nat.lt_trichotomy i j with c | c | c
        · have := hg.2.1 (b + i) (b + j) (by omega) (by omega)
          omega
        · exact c
        · have := hg.2.1 (b + j) (b + i) (by omega) (by omega)
          omega
      · have k1 := hsort (b + j) (by omega) (by omega)
        have k2 := bit_lt hFW (hW j hj).1
        show ((F &&& W) / 2 ^ u).testBit (g (b + j) / 10 - u) = true ∧ g (b + j) / 10 - u < 10
        rw [Nat.testBit_div_two_pow, show g (b + j) / 10 - u + u = g (b + j) / 10 by omega]
        exact ⟨(hW j hj).1, by omega⟩
    unfold mok
    split <;> omega
  have bit63 : ∀ c, c < 6 → (63 : Nat).testBit c = true := by decide
  have bit960 : ∀ c, 6 ≤ c → c < 10 → (960 : Nat).testBit c = true := by
    intro c h1 h2
    rcases (show c = 6 ∨ c = 7 ∨ c = 8 ∨ c = 9 by omega) with rfl | rfl | rfl | rfl <;> decide
  have inp : ∀ j, d ≤ j → j < m → g j / 10 < 6 → (F &&& 63).testBit (g j / 10) = true ∧ (F &&& 63).testBit (g j % 10) = true := by
    intro j hj hjm hk
    obtain ⟨f1, f2⟩ := hF.of hz hg e hj hjm
    have hv := (hg.1 j hjm).2.2.2.2.1.mp hk
    rw [Nat.testBit_and, Nat.testBit_and, f1, f2, bit63 _ hk, bit63 _ hv]
    exact ⟨rfl, rfl⟩
  have out : ∀ j, d ≤ j → j < m → 6 ≤ g j / 10 → (F &&& 960).testBit (g j / 10) = true ∧ (F &&& 960).testBit (g j % 10) = true := by
    intro j hj hjm hk
    obtain ⟨f1, f2⟩ := hF.of hz hg e hj hjm
    have hv : 6 ≤ g j % 10 := by
      rcases Nat.lt_or_ge (g j % 10) 6 with q | q
      · have := (hg.1 j hjm).2.2.2.2.1.mpr q
        omega
      · exact q
    rw [Nat.testBit_and, Nat.testBit_and, f1, f2, bit960 _ hk (bit_lt hF.1 f1), bit960 _ hv (bit_lt hF.1 f2)]
    exact ⟨rfl, rfl⟩
  rcases Nat.lt_or_ge s d with c | c
  · have p2 := part d (m - d) 960 (Nat.le_refl _) (by omega) (fun j hj => out (d + j) (by omega) (by omega) (hb (d + j) (by omega) (by omega)))
    omega
  · have p1 := part d (s - d) 63 (Nat.le_refl _) (by omega) (fun j hj => inp (d + j) (by omega) (by omega) (ha (d + j) (by omega)))
    have p2 := part s (m - s) 960 c (by omega) (fun j hj => out (s + j) (by omega) (by omega) (hb (s + j) (by omega) (by omega)))
    omega
