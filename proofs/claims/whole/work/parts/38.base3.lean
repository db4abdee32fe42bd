-- constructors: the world grows
theorem rf5_made (a b c d e : Nat) : va_up (va_up (va_up (va_up (va_up (fun _ => none) 0 (some a)) 1 (some b)) 2 (some c)) 3 (some d)) 4 (some e) = rf5 a b c d e := by
  funext k
  simp only [va_up, rf5]
  by_cases h0 : k = 0
  · subst h0; simp
  by_cases h1 : k = 1
  · subst h1; simp
  by_cases h2 : k = 2
  · subst h2; simp
  by_cases h3 : k = 3
  · subst h3; simp
  by_cases h4 : k = 4
  · subst h4; simp
  simp [h0, h1, h2, h3, h4]
theorem rf6_made (a b c d e f : Nat) : va_up (va_up (va_up (va_up (va_up (va_up (fun _ => none) 0 (some a)) 1 (some b)) 2 (some c)) 3 (some d)) 4 (some e)) 5 (some f) = rf6 a b c d e f := by
  funext k
  simp only [va_up, rf6]
  by_cases h0 : k = 0
  · subst h0; simp
  by_cases h1 : k = 1
  · subst h1; simp
  by_cases h2 : k = 2
  · subst h2; simp
  by_cases h3 : k = 3
  · subst h3; simp
  by_cases h4 : k = 4
  · subst h4; simp
  by_cases h5 : k = 5
  · subst h5; simp
  simp [h0, h1, h2, h3, h4, h5]
def AO (U : State) : Prop := va_AO "PlaFolder$State" U ∧ va_AO "PlaFolder$Demands" U
theorem AO.moved {u U : State} (hvm : u.vm.Alike U.vm) (h : AO u) : AO U := ⟨va_AO.moved hvm h.1, va_AO.moved hvm h.2⟩
def PreK (G : GG) (w : va_W) (sz : Nat) (U : State) : Prop := Pre G w sz U ∧ AO U
theorem preBlindK {G : GG} {av : List Value} {w : va_W} {sz : Nat} : FrameBlind (va_Pc av (PreK G w sz)) := fun a U g mk q => by
  obtain ⟨q0, ⟨q1, qP, qK, qD, qZ⟩, qA⟩ := q
  exact ⟨q0, ⟨q1, qP, ⟨va_K.moved (u := U) (U := U.calling g mk a) (Vm.Alike.refl U.vm) qK.1, qK.2.same rfl⟩, qD, by obtain ⟨t, z1, z2⟩ := qZ; exact ⟨t, va_Z.moved (u := U) (U := U.calling g mk a) (Vm.Alike.refl U.vm) z1, va_T.moved (u := U) (U := U.calling g mk a) (Vm.Alike.refl U.vm) z2⟩⟩, AO.moved (u := U) (U := U.calling g mk a) (Vm.Alike.refl U.vm) qA⟩
abbrev CC (l : Launch) (y : MethodName) (ws : List Cond) (rm : Room) (G : GG) (av : List Value) (w : va_W) (sz mc ms : Nat) {S : Type} (wOf : S → va_W) (K : S → Prop) : Prop := Met l y ws rm (va_Pc av (PreK G w sz)) (va_Qv K (fun u t => va_P G.1 vwCl (wOf u) t.heap ∧ va_D (va_A w sz) (wOf u)) (va_A w sz)) mc ms (va_A w sz)
theorem kpK {G : GG} {s : State} {H : Heap} {A : Nat → Prop} {w wc : va_W} {As : List Value} (hK : KK G s) (hO : AO s) (hP : va_P G.1 vwCl w H) (hD : va_D A w) (hZ : ZZ A s s.heap) {locs : List Loc} (hS : va_S A s.heap H locs) (hA : ∀ q, s.heap.size ≤ q → A q) (isC : List Nat) (hC : isC.map (fun i => w[i]?) = wc.map some) (hn : va_nd isC = true) : PreS s H (va_Pc As (PreK G wc H.size)) As :=
  ⟨preBlindK, fun U hU hW => ⟨rfl, ⟨by rw [hU], by rw [hU]; exact hP.sub2 isC hC, hK.warm hW, hD.sub2 isC hn hC, hZ.go hS (va_free hD hS hA isC hC) hW.alike hU⟩, hO.moved hW.alike⟩⟩
section KCC
variable {p : Program} {l : Launch} {e : Env} {R : Room} {s : State} {m : MethodId} {args : Array Value} {below : List Frame} {meth : Method} {c : Code} {H : Heap} {locs : List Loc} {cells slots : Nat} {Q : State → Prop}
variable {pc : Nat} {ls : Array Slot} {rest st0 : List Value} {a : Array Value} {A : Nat → Prop} {G : GG} {w wc wr : va_W} {S : Type} {wOf : S → va_W} {mc ms : Nat}
theorem kc_c {K : S → Prop} (hr : va_Run p l e R s m args below meth c H locs cells slots mc ms (F0 m pc ls st0) rest (va_Qv K (fun u t => va_P G.1 vwCl (wOf u) t.heap ∧ va_D (va_A wc H.size) (wOf u)) (va_A wc H.size) a) (va_A wc H.size)) (hP : va_P G.1 vwCl w H) (hD : va_D A w) (hS : va_S A s.heap H locs) (hA : ∀ q, s.heap.size ≤ q → A q) (isC isR : List Nat) (hC : isC.map (fun i => w[i]?) = wc.map some) (hR : isR.map (fun i => w[i]?) = wr.map some) (hn : va_nd isR = true) (hdis : ∀ i ∈ isR, i ∉ isC)
    (kk : ∀ (u : S) (H1 : Heap) (locs1 : List Loc), K u → va_P G.1 vwCl (wr ++ wOf u) H1 → va_D A (wr ++ wOf u) → va_S A s.heap H1 locs1 → W p l e R s m args below meth c H1 locs1 (cells + mc) (slots + ms) Q (F0 m (pc + 3) ls (rest))) : W p l e R s m args below meth c H locs cells slots Q (F0 m pc ls st0) := by
  have hFc := va_free (wc := wc) hD hS hA isC hC
  refine va_callv hr hS (fun q _ h => hFc q h) hFc (fun u t H1 locs1 ht hvm hw hB hz1 hk1 hS => ?_)
  obtain ⟨hP1, hD1⟩ := hB
  rw [ht] at hP1
  obtain ⟨hP2, hD2⟩ := va_join (wr := wr) (w1 := wOf u) hP hD isC isR hC hR hn hdis hk1 hFc hP1 hD1
  exact kk u H1 locs1 hw hP2 hD2 hS
end KCC
section XN
variable {p : Program} {l : Launch} {e : Env} {R : Room} {s : State} {m : MethodId} {args : Array Value} {below : List Frame} {meth : Method} {c : Code} {H : Heap} {locs : List Loc} {cells slots : Nat} {Q : State → Prop}
variable {pc : Nat} {ls : Array Slot} {rest : List Value} {A : Nat → Prop} {G : GG} {ws : va_W} {cc : ByteArray} {a : Nat}
theorem KK.cls {G : GG} {s : State} (hK : KK G s) {k : Nat} {ty : FieldType} {cA cB : ClassId} (h1 : (tyL G)[k]? = some (cA, ty)) (h2 : va_RA s cB ty) : cB = cA := by
  have h3 := (hK.1.2 k _ h1).2
  have h3 : va_RA s cA ty := h3
  cases ty with
  | object C =>
    obtain ⟨k1, c1, a1, a2, a3, a4⟩ := h2
    obtain ⟨k2, c2, b1, b2, b3, b4⟩ := h3
    exact Option.some.inj (a4.symm.trans b4)
  | _ => exact Option.some.inj (h2.symm.trans h3)
theorem x_newi (hexec : p.tables.exec = Jvm.exec) (hb : c.code = cc) (harr : (Cond.arrayClass .int).before args s = true) (hK : KK G s) (hP : va_P G.1 vwCl ws H) (hD : va_D A ws) (hS : va_S A s.heap H locs) (hA : ∀ q, s.heap.size ≤ q → A q)
    {n : Int32} {N2 : Nat} (hn : ¬ n < 0) (hN : n.toNatClampNeg = N2) (hbytes : N2 * componentBytes .int ≤ 536870912) (hcells : cells + 1 ≤ R.cells) (hslots : slots + N2 ≤ R.slots) (hdg : decode cc pc = .ok (.newarray .int, 2))
    (kk : ∀ (q : Nat) (H1 : Heap), va_P G.1 vwCl (ws ++ [(q, .inl (G.2 0, N2, .inl (fun _ => 0)))]) H1 → va_D A (ws ++ [(q, .inl (G.2 0, N2, .inl (fun _ => 0)))]) → va_S A s.heap H1 locs → W p l e R s m args below meth c H1 locs (cells + 1) (slots + N2) Q (F0 m (pc + 2) ls (.ref q :: rest))) : W p l e R s m args below meth c H locs cells slots Q (F0 m pc ls (.int n :: rest)) := by
  refine va_newa (atype := .int) (a0 := (N2, .inl (fun _ => 0))) hexec hb harr rfl hK.1 hP hD hS hA (fun _ => rfl) hn hN hbytes hcells hslots hdg (fun q cA H1 hK1 hP1 hD1 hS1 => ?_)
  have e := hK.cls (k := 0) rfl (hK1.2 4 _ rfl).2
  subst e
  exact kk q H1 hP1 hD1 hS1
theorem x_newl (hexec : p.tables.exec = Jvm.exec) (hb : c.code = cc) (harr : (Cond.arrayClass .long).before args s = true) (hK : KK G s) (hP : va_P G.1 vwCl ws H) (hD : va_D A ws) (hS : va_S A s.heap H locs) (hA : ∀ q, s.heap.size ≤ q → A q)
    {n : Int32} {N2 : Nat} (hn : ¬ n < 0) (hN : n.toNatClampNeg = N2) (hbytes : N2 * componentBytes .long ≤ 536870912) (hcells : cells + 1 ≤ R.cells) (hslots : slots + N2 ≤ R.slots) (hdg : decode cc pc = .ok (.newarray .long, 2))
    (kk : ∀ (q : Nat) (H1 : Heap), va_P G.1 vwCl (ws ++ [(q, .inl (G.2 1, N2, .inr (.inl (fun _ => 0))))]) H1 → va_D A (ws ++ [(q, .inl (G.2 1, N2, .inr (.inl (fun _ => 0))))]) → va_S A s.heap H1 locs → W p l e R s m args below meth c H1 locs (cells + 1) (slots + N2) Q (F0 m (pc + 2) ls (.ref q :: rest))) : W p l e R s m args below meth c H locs cells slots Q (F0 m pc ls (.int n :: rest)) := by
  refine va_newa (atype := .long) (a0 := (N2, .inr (.inl (fun _ => 0)))) hexec hb harr rfl hK.1 hP hD hS hA (fun _ => rfl) hn hN hbytes hcells hslots hdg (fun q cA H1 hK1 hP1 hD1 hS1 => ?_)
  have e := hK.cls (k := 1) rfl (hK1.2 4 _ rfl).2
  subst e
  exact kk q H1 hP1 hD1 hS1
theorem x_newq2 (hexec : p.tables.exec = Jvm.exec) (hb : c.code = cc) {own : String} {index : Nat} (hown : s.vm.findClass own = some m.cls) (hclink : (Cond.classLink own index "PlaFolder$Demands").before args s = true) (hover : va_AO "PlaFolder$Demands" s) (hK : KK G s) (hP : va_P G.1 vwCl ws H) (hD : va_D A ws) (hS : va_S A s.heap H locs) (hA : ∀ q, s.heap.size ≤ q → A q)
    {n : Int32} {N2 : Nat} (hn : ¬ n < 0) (hN : n.toNatClampNeg = N2) (hbytes : N2 * 4 ≤ 536870912) (hcells : cells + 1 ≤ R.cells) (hslots : slots + N2 ≤ R.slots) (hdg : decode cc pc = .ok (.anewarray index, 3))
    (kk : ∀ (q : Nat) (H1 : Heap), va_P G.1 vwCl (ws ++ [(q, .inl (G.2 2, N2, .inr (.inr (.inr (.inr (fun _ => none))))))]) H1 → va_D A (ws ++ [(q, .inl (G.2 2, N2, .inr (.inr (.inr (.inr (fun _ => none))))))]) → va_S A s.heap H1 locs → W p l e R s m args below meth c H1 locs (cells + 1) (slots + N2) Q (F0 m (pc + 3) ls (.ref q :: rest))) : W p l e R s m args below meth c H locs cells slots Q (F0 m pc ls (.int n :: rest)) := by
  refine va_newq hexec hb hown hclink hover hK.1 hP hD hS hA hn hN hbytes hcells hslots hdg (fun q cA H1 hK1 hP1 hD1 hS1 => ?_)
  have e := hK.cls (k := 2) rfl (hK1.2 4 _ rfl).2
  subst e
  exact kk q H1 hP1 hD1 hS1
theorem x_newq3 (hexec : p.tables.exec = Jvm.exec) (hb : c.code = cc) {own : String} {index : Nat} (hown : s.vm.findClass own = some m.cls) (hclink : (Cond.classLink own index "PlaFolder$State").before args s = true) (hover : va_AO "PlaFolder$State" s) (hK : KK G s) (hP : va_P G.1 vwCl ws H) (hD : va_D A ws) (hS : va_S A s.heap H locs) (hA : ∀ q, s.heap.size ≤ q → A q)
    {n : Int32} {N2 : Nat} (hn : ¬ n < 0) (hN : n.toNatClampNeg = N2) (hbytes : N2 * 4 ≤ 536870912) (hcells : cells + 1 ≤ R.cells) (hslots : slots + N2 ≤ R.slots) (hdg : decode cc pc = .ok (.anewarray index, 3))
    (kk : ∀ (q : Nat) (H1 : Heap), va_P G.1 vwCl (ws ++ [(q, .inl (G.2 3, N2, .inr (.inr (.inr (.inr (fun _ => none))))))]) H1 → va_D A (ws ++ [(q, .inl (G.2 3, N2, .inr (.inr (.inr (.inr (fun _ => none))))))]) → va_S A s.heap H1 locs → W p l e R s m args below meth c H1 locs (cells + 1) (slots + N2) Q (F0 m (pc + 3) ls (.ref q :: rest))) : W p l e R s m args below meth c H locs cells slots Q (F0 m pc ls (.int n :: rest)) := by
  refine va_newq hexec hb hown hclink hover hK.1 hP hD hS hA hn hN hbytes hcells hslots hdg (fun q cA H1 hK1 hP1 hD1 hS1 => ?_)
  have e := hK.cls (k := 3) rfl (hK1.2 4 _ rfl).2
  subst e
  exact kk q H1 hP1 hD1 hS1
end XN
theorem kpKp {G : GG} {s : State} {H : Heap} {A : Nat → Prop} {w wr wc : va_W} {As : List Value} (hK : KK G s) (hO : AO s) (hP : va_P G.1 vwCl w H) (hD : va_D A w) (hZ : ZZ A s s.heap) {locs : List Loc} (hS : va_S A s.heap H locs) (hA : ∀ q, s.heap.size ≤ q → A q) (hp : w.Perm (wr ++ wc)) : PreS s H (va_Pc As (PreK G wc H.size)) As :=
  ⟨preBlindK, fun U hU hW => ⟨rfl, ⟨by rw [hU], by rw [hU]; exact (hP.perm hp).r, hK.warm hW, ((hD.perm hp).rr).weaken (fun _ _ _ _ => trivial), hZ.go hS (pfree hD hp hS hA) hW.alike hU⟩, hO.moved hW.alike⟩⟩
section KCPC
variable {p : Program} {l : Launch} {e : Env} {R : Room} {s : State} {m : MethodId} {args : Array Value} {below : List Frame} {meth : Method} {c : Code} {H : Heap} {locs : List Loc} {cells slots : Nat} {Q : State → Prop}
variable {pc : Nat} {ls : Array Slot} {rest st0 : List Value} {a : Array Value} {A : Nat → Prop} {G : GG} {w wc wr : va_W} {S : Type} {wOf : S → va_W} {mc ms : Nat}
theorem kp_c {K : S → Prop} (hr : va_Run p l e R s m args below meth c H locs cells slots mc ms (F0 m pc ls st0) rest (va_Qv K (fun u t => va_P G.1 vwCl (wOf u) t.heap ∧ va_D (va_A wc H.size) (wOf u)) (va_A wc H.size) a) (va_A wc H.size)) (hP : va_P G.1 vwCl w H) (hD : va_D A w) (hS : va_S A s.heap H locs) (hA : ∀ q, s.heap.size ≤ q → A q) (hp : w.Perm (wr ++ wc))
    (kk : ∀ (u : S) (H1 : Heap) (locs1 : List Loc), K u → va_P G.1 vwCl (wr ++ wOf u) H1 → va_D A (wr ++ wOf u) → va_S A s.heap H1 locs1 → W p l e R s m args below meth c H1 locs1 (cells + mc) (slots + ms) Q (F0 m (pc + 3) ls (rest))) : W p l e R s m args below meth c H locs cells slots Q (F0 m pc ls st0) :=
  kc_c hr (hP.perm hp) (hD.perm hp) hS hA ((List.range wc.length).map (fun i => wr.length + i)) (List.range wr.length) (rng_r wr wc) (rng_l wr wc) (va_nd_of _ List.nodup_range) (fun i h1 h2 => by
    have h3 := List.mem_range.mp h1
    obtain ⟨j, -, hj⟩ := List.mem_map.mp h2
    omega) kk
end KCPC
