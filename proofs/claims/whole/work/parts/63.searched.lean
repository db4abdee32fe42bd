-- the class's search finds the best folding
theorem Upd.best {S : AS} {C : Nat} {B0 B l : Nat → Nat} (h : Upd (EX S 0 l 0) 0 B0 C B) : BestF S C B := by
  have ex : ∀ m g, OkF S m g → EX S 0 l 0 m g := fun m g q => ⟨q, Nat.zero_le _, fun j hj => by omega, fun _ => Nat.zero_le _⟩
  rcases h with ⟨rfl, rfl, h3⟩ | ⟨h1, h2, h3, h4⟩
  · exact ⟨OkF.zero, fun m g q => h3 m g (ex m g q), fun g q => Or.inl (fun j hj => by omega)⟩
  · exact ⟨h2.1, fun m g q => h3 m g (ex m g q), fun g q => h4 g (ex C g q)⟩
theorem sp_search {kn ct : Int32} {bu bl tu tl bd bm d0 d1 d2 d3 d4 d5 : Nat → Int32} {inp otp tc : Int32} {on ze ou : Nat → Int32} {wd : Nat → Int64} {S : AS} {K : Int32 → Int32 → (Nat → Int32) → (Nat → Int32) → (Nat → Int32) → (Nat → Int32) → (Nat → Int32) → (Nat → Int32) → (Nat → Int32) → (Nat → Int32) → (Nat → Int32) → (Nat → Int32) → (Nat → Int32) → Prop} (hi : inp = nI S.1) (ho : otp = nI S.2.1) (htc : tc = nI S.2.2.1.length) (hR : RepT on ze ou wd S.1 S.2.2.1) (hz : Size S) (hd0 : ∀ t, t < 10 → d0 t = 0)
    (h : ∀ C B ct2 bu2 bl2 tu2 tl2 bd2 bm2 e1 e2 e3 e4 e5, BestF S C B → Bst C B ct2 bu2 bl2 → K 1 ct2 bu2 bl2 tu2 tl2 bd2 bm2 e1 e2 e3 e4 e5) : wp_X0_search kn ct bu bl tu tl bd bm d0 d1 d2 d3 d4 d5 inp otp tc on ze ou K := by
  unfold wp_X0_search
  refine sp_foldable hi ho htc hR hz (fun Fr bd2 bm2 hF hFb hbd hbm => ?_)
  refine sp_extend_0 (u0 := 0) (C := 0) (B := fun _ => 0) (l := fun _ => 0) hz hbd hbm OkF.zero (fun j hj => by omega) ⟨hF, fun c => ?_⟩ (Clo_zero hd0 (fun a b ⟨j, hj, _⟩ => by omega)) ⟨rfl, by decide, fun j hj => by omega⟩ (fun j hj => by omega) (by decide) (fun C2 B2 ct2 bu2 bl2 tu2 tl2 e1 e2 e3 e4 e5 hU hB hT => ?_)
  · rw [hFb]
    exact ⟨fun q => ⟨q, fun j hj => by omega⟩, fun q => q.1⟩
  · exact h C2 B2 ct2 bu2 bl2 tu2 tl2 bd2 bm2 e1 e2 e3 e4 e5 hU.best hB
