def Lp11 {α β γ δ ε ζ η θ κ ρ σ : Type} (a0 : α) (a1 : β) (a2 : γ) (a3 : δ) (a4 : ε) (a5 : ζ) (a6 : η) (a7 : θ) (a8 : κ) (a9 : ρ) (a10 : σ) (B : α → β → γ → δ → ε → ζ → η → θ → κ → ρ → σ → (α → β → γ → δ → ε → ζ → η → θ → κ → ρ → σ → Prop) → Prop) : Prop := ∃ (I : Nat → α → β → γ → δ → ε → ζ → η → θ → κ → ρ → σ → Prop) (n0 : Nat), I n0 a0 a1 a2 a3 a4 a5 a6 a7 a8 a9 a10 ∧ ∀ n a0 a1 a2 a3 a4 a5 a6 a7 a8 a9 a10, I n a0 a1 a2 a3 a4 a5 a6 a7 a8 a9 a10 → B a0 a1 a2 a3 a4 a5 a6 a7 a8 a9 a10 (fun b0 b1 b2 b3 b4 b5 b6 b7 b8 b9 b10 => ∃ n2, n2 < n ∧ I n2 b0 b1 b2 b3 b4 b5 b6 b7 b8 b9 b10)
theorem Lp11.up {α β γ δ ε ζ η θ κ ρ σ : Type} {a0 : α} {a1 : β} {a2 : γ} {a3 : δ} {a4 : ε} {a5 : ζ} {a6 : η} {a7 : θ} {a8 : κ} {a9 : ρ} {a10 : σ} {B : α → β → γ → δ → ε → ζ → η → θ → κ → ρ → σ → (α → β → γ → δ → ε → ζ → η → θ → κ → ρ → σ → Prop) → Prop} (N : Nat) (I : Nat → α → β → γ → δ → ε → ζ → η → θ → κ → ρ → σ → Prop) (k0 : Nat) (hk0 : k0 ≤ N) (h0 : I k0 a0 a1 a2 a3 a4 a5 a6 a7 a8 a9 a10) (hs : ∀ (k : Nat) b0 b1 b2 b3 b4 b5 b6 b7 b8 b9 b10 (J : α → β → γ → δ → ε → ζ → η → θ → κ → ρ → σ → Prop), k ≤ N → I k b0 b1 b2 b3 b4 b5 b6 b7 b8 b9 b10 → (∀ a0 a1 a2 a3 a4 a5 a6 a7 a8 a9 a10, k < N → I (k + 1) a0 a1 a2 a3 a4 a5 a6 a7 a8 a9 a10 → J a0 a1 a2 a3 a4 a5 a6 a7 a8 a9 a10) → B b0 b1 b2 b3 b4 b5 b6 b7 b8 b9 b10 J) : Lp11 a0 a1 a2 a3 a4 a5 a6 a7 a8 a9 a10 B :=
  ⟨fun n b0 b1 b2 b3 b4 b5 b6 b7 b8 b9 b10 => ∃ k, k + n = N ∧ I k b0 b1 b2 b3 b4 b5 b6 b7 b8 b9 b10, N - k0, ⟨k0, by omega, h0⟩, fun n b0 b1 b2 b3 b4 b5 b6 b7 b8 b9 b10 ⟨k, e, h⟩ => hs k b0 b1 b2 b3 b4 b5 b6 b7 b8 b9 b10 _ (by omega) h (fun a0 a1 a2 a3 a4 a5 a6 a7 a8 a9 a10 hk h2 => ⟨n - 1, by omega, k + 1, by omega, h2⟩)⟩
def Lp12 {α β γ δ ε ζ η θ κ ρ σ τ : Type} (a0 : α) (a1 : β) (a2 : γ) (a3 : δ) (a4 : ε) (a5 : ζ) (a6 : η) (a7 : θ) (a8 : κ) (a9 : ρ) (a10 : σ) (a11 : τ) (B : α → β → γ → δ → ε → ζ → η → θ → κ → ρ → σ → τ → (α → β → γ → δ → ε → ζ → η → θ → κ → ρ → σ → τ → Prop) → Prop) : Prop := ∃ (I : Nat → α → β → γ → δ → ε → ζ → η → θ → κ → ρ → σ → τ → Prop) (n0 : Nat), I n0 a0 a1 a2 a3 a4 a5 a6 a7 a8 a9 a10 a11 ∧ ∀ n a0 a1 a2 a3 a4 a5 a6 a7 a8 a9 a10 a11, I n a0 a1 a2 a3 a4 a5 a6 a7 a8 a9 a10 a11 → B a0 a1 a2 a3 a4 a5 a6 a7 a8 a9 a10 a11 (fun b0 b1 b2 b3 b4 b5 b6 b7 b8 b9 b10 b11 => ∃ n2, n2 < n ∧ I n2 b0 b1 b2 b3 b4 b5 b6 b7 b8 b9 b10 b11)
theorem Lp12.up {α β γ δ ε ζ η θ κ ρ σ τ : Type} {a0 : α} {a1 : β} {a2 : γ} {a3 : δ} {a4 : ε} {a5 : ζ} {a6 : η} {a7 : θ} {a8 : κ} {a9 : ρ} {a10 : σ} {a11 : τ} {B : α → β → γ → δ → ε → ζ → η → θ → κ → ρ → σ → τ → (α → β → γ → δ → ε → ζ → η → θ → κ → ρ → σ → τ → Prop) → Prop} (N : Nat) (I : Nat → α → β → γ → δ → ε → ζ → η → θ → κ → ρ → σ → τ → Prop) (k0 : Nat) (hk0 : k0 ≤ N) (h0 : I k0 a0 a1 a2 a3 a4 a5 a6 a7 a8 a9 a10 a11) (hs : ∀ (k : Nat) b0 b1 b2 b3 b4 b5 b6 b7 b8 b9 b10 b11 (J : α → β → γ → δ → ε → ζ → η → θ → κ → ρ → σ → τ → Prop), k ≤ N → I k b0 b1 b2 b3 b4 b5 b6 b7 b8 b9 b10 b11 → (∀ a0 a1 a2 a3 a4 a5 a6 a7 a8 a9 a10 a11, k < N → I (k + 1) a0 a1 a2 a3 a4 a5 a6 a7 a8 a9 a10 a11 → J a0 a1 a2 a3 a4 a5 a6 a7 a8 a9 a10 a11) → B b0 b1 b2 b3 b4 b5 b6 b7 b8 b9 b10 b11 J) : Lp12 a0 a1 a2 a3 a4 a5 a6 a7 a8 a9 a10 a11 B :=
  ⟨fun n b0 b1 b2 b3 b4 b5 b6 b7 b8 b9 b10 b11 => ∃ k, k + n = N ∧ I k b0 b1 b2 b3 b4 b5 b6 b7 b8 b9 b10 b11, N - k0, ⟨k0, by omega, h0⟩, fun n b0 b1 b2 b3 b4 b5 b6 b7 b8 b9 b10 b11 ⟨k, e, h⟩ => hs k b0 b1 b2 b3 b4 b5 b6 b7 b8 b9 b10 b11 _ (by omega) h (fun a0 a1 a2 a3 a4 a5 a6 a7 a8 a9 a10 a11 hk h2 => ⟨n - 1, by omega, k + 1, by omega, h2⟩)⟩
abbrev SS : Type := Int32 × Int32 × Int32 × Int32 × (Nat → Int32) × (Nat → Int32) × (Nat → Int32) × (Nat → Int64) × (Nat → Int32) × (Nat → Int32)
def rf5 (a b c d e : Nat) : Nat → Option Nat := fun k => if k = 0 then some a else if k = 1 then some b else if k = 2 then some c else if k = 3 then some d else if k = 4 then some e else none
def rf6 (a b c d e f : Nat) : Nat → Option Nat := fun k => if k = 0 then some a else if k = 1 then some b else if k = 2 then some c else if k = 3 then some d else if k = 4 then some e else if k = 5 then some f else none
theorem rf5_rot (a b c d e : Nat) : va_up (va_up (va_up (va_up (va_up (rf5 a b c d e) 0 (some b)) 1 (some c)) 2 (some d)) 3 (some e)) 4 (some a) = rf5 b c d e a := by
  funext k
  simp only [va_up, rf5]
  by_cases h0 : k = 0
  · subst h0; simp
  by_cases h1 : k = 1
  · subst h1; simp
  by_cases h2 : k = 2
  · subst h2; simp
  by_cases h3 : k = 3
  · subst h3; simp
  by_cases h4 : k = 4
  · subst h4; simp
  simp [h0, h1, h2, h3, h4]
def rot {α : Type} (f : Nat → α) : Nat → α := fun k => if k = 4 then f 0 else f (k + 1)
theorem vin5 {i : Int32} (h : vp_in i 5) : i = (0 : Int32) ∨ i = (1 : Int32) ∨ i = (2 : Int32) ∨ i = (3 : Int32) ∨ i = (4 : Int32) := by
  obtain ⟨j, hj, rfl⟩ := vp_in_of h (by decide)
  rcases (show j = 0 ∨ j = 1 ∨ j = 2 ∨ j = 3 ∨ j = 4 by omega) with rfl | rfl | rfl | rfl | rfl
  · exact Or.inl rfl
  · exact Or.inr (Or.inl rfl)
  · exact Or.inr (Or.inr (Or.inl rfl))
  · exact Or.inr (Or.inr (Or.inr (Or.inl rfl)))
  · exact Or.inr (Or.inr (Or.inr (Or.inr rfl)))
section XQ
variable {p : Program} {l : Launch} {e : Env} {R : Room} {s : State} {m : MethodId} {args : Array Value} {below : List Frame} {meth : Method} {c : Code} {H : Heap} {locs : List Loc} {cells slots : Nat} {Q : State → Prop}
variable {pc : Nat} {ls : Array Slot} {rest : List Value} {A : Nat → Prop} {G : GG} {ws : va_W} {cc : ByteArray} {a : Nat} {H0 : Heap}
theorem x_aldq (hexec : p.tables.exec = Jvm.exec) (hb : c.code = cc) (hK : KK G s) (hP : va_P G.1 vwCl ws H) (q0 t0 : Nat) {cA : ClassId} {C : String} {n : Nat} {f : Nat → Option Nat} (ha : ws[q0]? = some (a, .inl (cA, n, .inr (.inr (.inr (.inr f)))))) (ht : (tyL G)[t0]? = some (cA, .object C)) {i : Int32} (hin : vp_in i n) {k : Nat} (hk : i.toNatClampNeg = k) {a2 : Nat} (h2 : f k = some a2) (hdg : decode cc pc = .ok (.aaload, 1))
    (kk : W p l e R s m args below meth c H locs cells slots Q (F0 m (pc + 1) ls (.ref a2 :: rest))) : W p l e R s m args below meth c H locs cells slots Q (F0 m pc ls (.int i :: .ref a :: rest)) := by
  subst hk
  refine va_aldq hexec hb hK.1 hP q0 t0 ha ht hin hdg ?_
  rw [h2]
  exact kk
theorem x_astq (hexec : p.tables.exec = Jvm.exec) (hb : c.code = cc) (hK : KK G s) (hP : va_P G.1 vwCl ws H) (hD : va_D A ws) (hS : va_S A H0 H locs) (q0 t0 qk ci : Nat) {cA : ClassId} {r : vw_C} {n v : Nat} {vs : List Value} {f : Nat → Option Nat} (ha : ws[q0]? = some (a, .inl (cA, n, .inr (.inr (.inr (.inr f)))))) (ht : (tyL G)[t0]? = some (cA, .object r.1)) (hv : ws[qk]? = some (v, .inr (ci, vs))) (hc : vwCl[ci]? = some r) {i : Int32} (hin : vp_in i n) {k : Nat} (hk : i.toNatClampNeg = k) (hdg : decode cc pc = .ok (.aastore, 1))
    (kk : ∀ (H1 : Heap) (locs1 : List Loc), va_P G.1 vwCl (ws.set q0 (a, .inl (cA, n, .inr (.inr (.inr (.inr (va_up f k (some v)))))))) H1 → va_D A (ws.set q0 (a, .inl (cA, n, .inr (.inr (.inr (.inr (va_up f k (some v)))))))) → va_S A H0 H1 locs1 → W p l e R s m args below meth c H1 locs1 cells slots Q (F0 m (pc + 1) ls rest)) : W p l e R s m args below meth c H locs cells slots Q (F0 m pc ls (.ref v :: .int i :: .ref a :: rest)) := by
  subst hk
  exact va_astq hexec hb hK.1 hP hD hS q0 t0 qk ci ha ht hv hc hin hdg kk
end XQ
def wP (G : GG) (ad sd hd md rd be : Nat → Nat) (er : Nat → Int32) : va_W := [(ad 0, .inr (5, [.ref (sd 0), .ref (hd 0), .ref (md 0), .ref (rd 0), .ref (be 0), .ref (ad 1)])), (ad 1, .inl (G.2 0, 5, .inl er))]
def wSS (G : GG) (ad : Nat → Nat) (v : SS) : va_W := wS G ad v.1 v.2.1 v.2.2.1 v.2.2.2.1 v.2.2.2.2.1 v.2.2.2.2.2.1 v.2.2.2.2.2.2.1 v.2.2.2.2.2.2.2.1 v.2.2.2.2.2.2.2.2.1 v.2.2.2.2.2.2.2.2.2
def wH1 (G : GG) (hd : Nat → Nat) (hc : Int32) (f : Nat → Option Nat) : va_W := [(hd 0, .inr (2, [.ref (hd 1), .int hc])), (hd 1, .inl (G.2 3, 5, .inr (.inr (.inr (.inr f)))))]
def wH0 (G : GG) (hd : Nat → Nat) (hc : Int32) (sa : Nat → Nat → Nat) : va_W := wH1 G hd hc (rf5 (sa 0 0) (sa 1 0) (sa 2 0) (sa 3 0) (sa 4 0))
def wHr (G : GG) (hd : Nat → Nat) (hc : Int32) (sa : Nat → Nat → Nat) (sv : Nat → SS) (f : Nat → Option Nat) : va_W := wH1 G hd hc f ++ (wSS G (sa 0) (sv 0) ++ (wSS G (sa 1) (sv 1) ++ (wSS G (sa 2) (sv 2) ++ (wSS G (sa 3) (sv 3) ++ wSS G (sa 4) (sv 4)))))
def wH (G : GG) (hd : Nat → Nat) (hc : Int32) (sa : Nat → Nat → Nat) (sv : Nat → SS) : va_W := wH0 G hd hc sa ++ (wSS G (sa 0) (sv 0) ++ (wSS G (sa 1) (sv 1) ++ (wSS G (sa 2) (sv 2) ++ (wSS G (sa 3) (sv 3) ++ wSS G (sa 4) (sv 4)))))
def wB0 (G : GG) (be : Nat → Nat) (beD : Nat → Nat → Nat) (kn ct : Int32) (bu bl tu tl bd bm : Nat → Int32) : va_W := [(be 0, .inr (0, [.int kn, .int ct, .ref (be 1), .ref (be 2), .ref (be 3), .ref (be 4), .ref (be 5), .ref (be 6), .ref (be 7)])), (be 1, .inl (G.2 0, 5, .inl bu)), (be 2, .inl (G.2 0, 5, .inl bl)), (be 3, .inl (G.2 0, 5, .inl tu)), (be 4, .inl (G.2 0, 5, .inl tl)), (be 5, .inl (G.2 0, 10, .inl bd)), (be 6, .inl (G.2 0, 10, .inl bm)), (be 7, .inl (G.2 2, 6, .inr (.inr (.inr (.inr (rf6 (beD 0 0) (beD 1 0) (beD 2 0) (beD 3 0) (beD 4 0) (beD 5 0)))))))]
def wB (G : GG) (be : Nat → Nat) (beD : Nat → Nat → Nat) (kn ct : Int32) (bu bl tu tl bd bm d0 d1 d2 d3 d4 d5 : Nat → Int32) : va_W := wB0 G be beD kn ct bu bl tu tl bd bm ++ (wD G (beD 0) d0 ++ (wD G (beD 1) d1 ++ (wD G (beD 2) d2 ++ (wD G (beD 3) d3 ++ (wD G (beD 4) d4 ++ wD G (beD 5) d5)))))
