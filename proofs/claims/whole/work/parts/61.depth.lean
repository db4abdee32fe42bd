-- the search, depth by depth
def Bst (C : Nat) (B : Nat → Nat) (ct : Int32) (bu bl : Nat → Int32) : Prop := ct = nI C ∧ C ≤ 5 ∧ ∀ j, j < C → B j < 100 ∧ bu j = nI (B j / 10) ∧ bl j = nI (B j % 10)
def Trd (d : Nat) (l : Nat → Nat) (tu tl : Nat → Int32) : Prop := ∀ j, j < d → tu j = nI (l j / 10) ∧ tl j = nI (l j % 10)
def E0 (d : Nat) (l : Nat → Nat) (m : Nat) (g : Nat → Nat) : Prop := m = d ∧ ∀ j, j < d → g j = l j
def Mts (S : AS) (bm : Nat → Int32) : Prop := ∀ c, c < 10 → ∃ m, bm c = nI m ∧ m < 2 ^ 10 ∧ ∀ v, m.testBit v = true ↔ v < 10 ∧ fitP S c v
theorem OkF.le5 {S : AS} {m : Nat} {g : Nat → Nat} (hz : Size S) (h : OkF S m g) : m ≤ 5 := by
  have := h.bound hz
  obtain ⟨z1, z2, z3, z4, z5, z6⟩ := hz
  omega
theorem EX_split {S : AS} {d : Nat} {l : Nat → Nat} {u0 : Nat} (hok : OkF S d l) (m : Nat) (g : Nat → Nat) : (E0 d l m g ∨ EU S d l u0 10 m g) ↔ EX S d l u0 m g := by
  constructor
  · rintro (⟨h1, h2⟩ | ⟨h1, h2, h3, h4, h5⟩)
    · subst h1
      exact ⟨hok.congr (fun j hj => (h2 j hj).symm), Nat.le_refl _, h2, fun q => by omega⟩
    · exact ⟨h1, by omega, h3, fun _ => h4⟩
  · rintro ⟨h1, h2, h3, h4⟩
    rcases Nat.lt_or_ge d m with c | c
    · have := (h1.1 d c).1
      exact Or.inr ⟨h1, c, h3, h4 c, by omega⟩
    · exact Or.inl ⟨by omega, h3⟩
theorem keep_upd {S : AS} {d C : Nat} {l B : Nat → Nat} (h : C < d) : Upd (E0 d l) C B d l := Or.inr ⟨h, ⟨rfl, fun _ _ => rfl⟩, fun m g q => by rw [q.1]; exact Nat.le_refl _, fun g q => Or.inl q.2⟩
theorem EU_step {S : AS} {d : Nat} {l : Nat → Nat} {u0 k C C1 C2 : Nat} {B B1 B2 : Nat → Nat} (hk : u0 ≤ k) (h : Upd (fun m g => E0 d l m g ∨ EU S d l u0 k m g) C B C1 B1) (h2 : Upd (EV S d l k 0 10) C1 B1 C2 B2) : Upd (fun m g => E0 d l m g ∨ EU S d l u0 (k + 1) m g) C B C2 B2 := by
  refine (h.seq h2 (fun m g1 g2 q1 q2 => ?_)).congr (fun m g => ?_)
  · rcases q1 with q1 | q1
    · have := q1.1
      have := q2.2.1
      omega
    · refine Or.inr ⟨d, q1.2.1, fun j hj => by rw [q1.2.2.1 j hj, q2.2.2.1 j hj], ?_⟩
      have := q1.2.2.2.2
      have := q2.2.2.2.1
      omega
  · constructor
    · rintro ((q | q) | q)
      · exact Or.inl q
      · exact Or.inr ⟨q.1, q.2.1, q.2.2.1, q.2.2.2.1, by have := q.2.2.2.2; omega⟩
      · exact Or.inr ⟨q.1, q.2.1, q.2.2.1, by have := q.2.2.2.1; omega, by have := q.2.2.2.1; omega⟩
    · rintro (q | ⟨q1, q2, q3, q4, q5⟩)
      · exact Or.inl (Or.inl q)
      · by_cases e : g d / 10 = k
        · exact Or.inr ⟨q1, q2, q3, e, by omega, by omega⟩
        · exact Or.inl (Or.inr ⟨q1, q2, q3, q4, by omega⟩)
theorem EU_skip {S : AS} {d : Nat} {l : Nat → Nat} {u0 k C C1 : Nat} {B B1 : Nat → Nat} {F : Nat} (hz : Size S) (hF : Free S d l F) (hk : u0 ≤ k) (hb : F.testBit k = false) (h : Upd (fun m g => E0 d l m g ∨ EU S d l u0 k m g) C B C1 B1) : Upd (fun m g => E0 d l m g ∨ EU S d l u0 (k + 1) m g) C B C1 B1 := by
  refine EU_step hk h (Upd.none (fun m g q => ?_))
  have := (hF.of hz q.1 q.2.2.1 (Nat.le_refl d) q.2.1).1
  rw [q.2.2.2.1, hb] at this
  exact absurd this (by decide)
theorem EU_prune {S : AS} {d : Nat} {l : Nat → Nat} {u0 k C C1 : Nat} {B B1 : Nat → Nat} {F : Nat} (hz : Size S) (hF : Free S d l F) (hok : OkF S d l) (hk : u0 ≤ k) (hp : d + (mok (F &&& 63) k + mok (F &&& 960) k) ≤ C1) (h : Upd (fun m g => E0 d l m g ∨ EU S d l u0 k m g) C B C1 B1) : Upd (EX S d l u0) C B C1 B1 := by
  have h2 : Upd (EU S d l k 10) C1 B1 C1 B1 := Upd.none (fun m g q => Nat.le_trans (prune hz hF q.1 q.2.2.1 q.2.1 q.2.2.2.1) hp)
  refine (h.seq h2 (fun m g1 g2 q1 q2 => ?_)).congr (fun m g => Iff.trans ?_ (EX_split hok m g))
  · rcases q1 with q1 | q1
    · have := q1.1
      have := q2.2.1
      omega
    · refine Or.inr ⟨d, q1.2.1, fun j hj => by rw [q1.2.2.1 j hj, q2.2.2.1 j hj], ?_⟩
      have := q1.2.2.2.2
      have := q2.2.2.2.1
      omega
  · constructor
    · rintro ((q | q) | q)
      · exact Or.inl q
      · exact Or.inr ⟨q.1, q.2.1, q.2.2.1, q.2.2.2.1, by have := (q.1.1 d q.2.1).1; omega⟩
      · exact Or.inr ⟨q.1, q.2.1, q.2.2.1, by have := q.2.2.2.1; omega, q.2.2.2.2⟩
    · rintro (q | ⟨q1, q2, q3, q4, q5⟩)
      · exact Or.inl (Or.inl q)
      · rcases Nat.lt_or_ge (g d / 10) k with c | c
        · exact Or.inl (Or.inr ⟨q1, q2, q3, q4, c⟩)
        · exact Or.inr ⟨q1, q2, q3, c, q5⟩
theorem EV_step {S : AS} {d : Nat} {l l2 : Nat → Nat} {u k C C1 C2 : Nat} {B B1 B2 : Nat → Nat} (hl : ∀ j, j < d → l2 j = l j) (hd : l2 d = 10 * u + k) (hk : k < 10) (h : Upd (EV S d l u 0 k) C B C1 B1) (h2 : Upd (EX S (d + 1) l2 (u + 1)) C1 B1 C2 B2) : Upd (EV S d l u 0 (k + 1)) C B C2 B2 := by
  refine (h.seq h2 (fun m g1 g2 q1 q2 => ?_)).congr (fun m g => ?_)
  · refine Or.inr ⟨d, q1.2.1, fun j hj => by rw [q1.2.2.1 j hj, q2.2.2.1 j (by omega), hl j hj], ?_⟩
    have e2 := q2.2.2.1 d (by omega)
    have e3 := q1.2.2.2.1
    have e4 := q1.2.2.2.2.2
    omega
  · constructor
    · rintro (q | q)
      · exact ⟨q.1, q.2.1, q.2.2.1, q.2.2.2.1, by omega, by have := q.2.2.2.2.2; omega⟩
      · have e2 := q.2.2.1 d (by omega)
        exact ⟨q.1, q.2.1, fun j hj => by rw [q.2.2.1 j (by omega), hl j hj], by omega, by omega, by omega⟩
    · rintro ⟨q1, q2, q3, q4, q5, q6⟩
      by_cases e : g d % 10 = k
      · refine Or.inr ⟨q1, q2, fun j hj => ?_, fun hm => ?_⟩
        · by_cases ej : j = d
          · rw [ej, hd]
            omega
          · rw [q3 j (by omega), hl j (by omega)]
        · have := q1.2.1 d (d + 1) (by omega) hm
          omega
      · exact Or.inl ⟨q1, q2, q3, q4, q5, by omega⟩
theorem EV_skip {S : AS} {d : Nat} {l : Nat → Nat} {u k C C1 : Nat} {B B1 : Nat → Nat} (hno : ∀ m g, OkF S m g → d < m → (∀ j, j < d → g j = l j) → g d / 10 = u → g d % 10 = k → False) (h : Upd (EV S d l u 0 k) C B C1 B1) : Upd (EV S d l u 0 (k + 1)) C B C1 B1 := by
  refine h.congr (fun m g => ?_)
  constructor
  · exact fun q => ⟨q.1, q.2.1, q.2.2.1, q.2.2.2.1, by omega, by have := q.2.2.2.2.2; omega⟩
  · rintro ⟨q1, q2, q3, q4, q5, q6⟩
    refine ⟨q1, q2, q3, q4, q5, ?_⟩
    rcases Nat.lt_or_ge (g d % 10) k with c | c
    · exact c
    · exact absurd (by omega) (fun e : g d % 10 = k => hno m g q1 q2 q3 q4 e)
theorem Clo.copy {a b : Nat → Int32} {R : Nat → Nat → Prop} (h : Clo a R) : Clo (va_cpy a b 0 0 10) R := fun t ht => by
  rw [sb_cpy0 ht]
  exact h t ht
/-- one fold more -/
theorem OkF.more {S : AS} {d u v : Nat} {l l2 : Nat → Nat} (hz : Size S) (h : OkF S d l) (hl : ∀ j, j < d → l2 j = l j) (hd : l2 d = 10 * u + v) (hu : u < 10) (hv : v < 10) (hf : fitP S u v) (hs : ∀ j, j < d → l j / 10 < u) (hnu : ∀ j, j < d → u ≠ l j / 10 ∧ u ≠ l j % 10) (hnv : ∀ j, j < d → v ≠ l j / 10 ∧ v ≠ l j % 10) (ha : ∀ x, (use S.2.2.1 v).testBit x = true → ¬ upR (LRf S.2.2.1 d l) (use S.2.2.1 u) x) : OkF S (d + 1) l2 := by
  have e1 : l2 d / 10 = u := by omega
  have e2 : l2 d % 10 = v := by omega
  refine ⟨fun j hj => ?_, fun i j hi hj => ?_, fun i j hi hj => ?_, fun t ht => ?_⟩
  · by_cases ej : j = d
    · rw [ej, e1, e2]
      exact ⟨by omega, hf⟩
    · rw [hl j (by omega)]
      exact h.1 j (by omega)
  · by_cases ej : j = d
    · rw [ej, e1, hl i (by omega)]
      exact hs i (by omega)
    · rw [hl i (by omega), hl j (by omega)]
      exact h.2.1 i j hi (by omega)
  · by_cases ej : j = d
    · rw [ej, e1, e2, hl i (by omega)]
      have k1 := hnu i (by omega)
      have k2 := hnv i (by omega)
      exact ⟨fun q => k1.1 q.symm, fun q => k2.1 q.symm, fun q => k1.2 q.symm, fun q => k2.2 q.symm⟩
    · rw [hl i (by omega), hl j (by omega)]
      exact h.2.2.1 i j hi (by omega)
  · have h4 : Acyc (addR (LRf S.2.2.1 d l) (use S.2.2.1 u) (use S.2.2.1 v)) := (acyc_add h.2.2.2).mpr ha
    refine h4 t (ht.mono (fun a b q => ?_))
    have q2 := (LRf_succ (m := d) (l := l2) a b).mpr q
    rw [e1, e2] at q2
    rcases q2 with q2 | q2
    · exact Or.inl ((LRf_congr hl a b).mp q2)
    · exact Or.inr q2
theorem Free.more {S : AS} {d u v F : Nat} {l l2 : Nat → Nat} (hF : Free S d l F) (hl : ∀ j, j < d → l2 j = l j) (hd : l2 d = 10 * u + v) (hu : u < 10) (hv : v < 10) : Free S (d + 1) l2 (bdiff F (2 ^ u ||| 2 ^ v)) := by
  refine ⟨bdiff_le hF.1, fun c => ?_⟩
  rw [bdiff_bit, Bool.and_eq_true, hF.2 c, Nat.testBit_or, Nat.testBit_two_pow, Nat.testBit_two_pow]
  have e1 : l2 d / 10 = u := by omega
  have e2 : l2 d % 10 = v := by omega
  constructor
  · rintro ⟨⟨q1, q2⟩, q3⟩
    refine ⟨q1, fun j hj => ?_⟩
    by_cases ej : j = d
    · rw [ej, e1, e2]
      by_cases c1 : u = c
      · rw [decide_eq_true c1] at q3
        exact absurd q3 (by simp)
      · by_cases c2 : v = c
        · rw [decide_eq_true c2] at q3
          exact absurd q3 (by simp)
        · exact ⟨fun q => c1 q.symm, fun q => c2 q.symm⟩
    · rw [hl j (by omega)]
      exact q2 j (by omega)
  · rintro ⟨q1, q2⟩
    refine ⟨⟨q1, fun j hj => ?_⟩, ?_⟩
    · have := q2 j (by omega)
      rw [hl j hj] at this
      exact this
    · have := q2 d (by omega)
      rw [e1, e2] at this
      rw [decide_eq_false (fun q => this.1 q.symm), decide_eq_false (fun q => this.2 q.symm)]
      rfl
