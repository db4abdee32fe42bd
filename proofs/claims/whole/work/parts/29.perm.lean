-- worlds up to the order of their cells
theorem va_P_iff {D : va_G} {cl : List vw_C} {w : va_W} {H : Heap} : va_P D cl w H ↔ ∀ q ∈ w, va_at D cl q H := by
  constructor
  · intro h q hq
    obtain ⟨k, hk⟩ := List.mem_iff_getElem?.mp hq
    exact h k q hk
  · intro h k q hk
    exact h q (List.mem_of_getElem? hk)
theorem va_D_iff {A : Nat → Prop} {w : va_W} : va_D A w ↔ (w.map (fun q => q.1)).Nodup ∧ ∀ q ∈ w, A q.1 := by
  constructor
  · intro h
    refine ⟨List.pairwise_iff_getElem.mpr (fun i j hi hj hij e => ?_), fun q hq => ?_⟩
    · rw [List.length_map] at hi hj
      rw [List.getElem_map, List.getElem_map] at e
      have h3 := h.1 i j w[i] w[j] (List.getElem?_eq_getElem hi) (List.getElem?_eq_getElem hj) e
      omega
    · obtain ⟨k, hk⟩ := List.mem_iff_getElem?.mp hq
      exact h.2 k q hk
  · intro ⟨h1, h2⟩
    refine ⟨fun i j p q hp hq e => ?_, fun k q hk => h2 q (List.mem_of_getElem? hk)⟩
    obtain ⟨hi, ei⟩ := List.getElem?_eq_some_iff.mp hp
    obtain ⟨hj, ej⟩ := List.getElem?_eq_some_iff.mp hq
    have h3 := List.pairwise_iff_getElem.mp h1
    rcases Nat.lt_trichotomy i j with c | c | c
    · exact absurd (by rw [List.getElem_map, List.getElem_map, ei, ej]; exact e) (h3 i j (by rw [List.length_map]; exact hi) (by rw [List.length_map]; exact hj) c)
    · exact c
    · exact absurd (by rw [List.getElem_map, List.getElem_map, ei, ej]; exact e.symm) (h3 j i (by rw [List.length_map]; exact hj) (by rw [List.length_map]; exact hi) c)
theorem va_P.perm {D : va_G} {cl : List vw_C} {w w2 : va_W} {H : Heap} (h : va_P D cl w H) (hp : w.Perm w2) : va_P D cl w2 H := va_P_iff.mpr (fun q hq => va_P_iff.mp h q (hp.mem_iff.mpr hq))
theorem va_D.perm {A : Nat → Prop} {w w2 : va_W} (h : va_D A w) (hp : w.Perm w2) : va_D A w2 := va_D_iff.mpr ⟨(hp.map _).nodup (va_D_iff.mp h).1, fun q hq => (va_D_iff.mp h).2 q (hp.mem_iff.mpr hq)⟩
theorem va_P.l {D : va_G} {cl : List vw_C} {a b : va_W} {H : Heap} (h : va_P D cl (a ++ b) H) : va_P D cl a H := va_P_iff.mpr (fun q hq => va_P_iff.mp h q (List.mem_append_left _ hq))
theorem va_P.r {D : va_G} {cl : List vw_C} {a b : va_W} {H : Heap} (h : va_P D cl (a ++ b) H) : va_P D cl b H := va_P_iff.mpr (fun q hq => va_P_iff.mp h q (List.mem_append_right _ hq))
theorem va_D.rr {A : Nat → Prop} {a b : va_W} (h : va_D A (a ++ b)) : va_D A b := by
  obtain ⟨h1, h2⟩ := va_D_iff.mp h
  rw [List.map_append] at h1
  exact va_D_iff.mpr ⟨(List.nodup_append.mp h1).2.1, fun q hq => h2 q (List.mem_append_right _ hq)⟩
theorem va_nd_of : ∀ l : List Nat, l.Nodup → va_nd l = true
  | [], _ => rfl
  | a :: l, h => by
    obtain ⟨h1, h2⟩ := List.nodup_cons.mp h
    simp only [va_nd, Bool.and_eq_true, decide_eq_true_eq]
    exact ⟨h1, va_nd_of l h2⟩
theorem rng_l {α : Type} (a b : List α) : (List.range a.length).map (fun i => (a ++ b)[i]?) = a.map some := by
  apply List.ext_getElem?
  intro i
  rw [List.getElem?_map, List.getElem?_map]
  by_cases h : i < a.length
  · rw [List.getElem?_range h]
    show some ((a ++ b)[i]?) = _
    rw [List.getElem?_append_left h, List.getElem?_eq_getElem h]
    rfl
  · rw [List.getElem?_eq_none (by rw [List.length_range]; omega), List.getElem?_eq_none (by omega)]
    rfl
theorem rng_r {α : Type} (a b : List α) : ((List.range b.length).map (fun i => a.length + i)).map (fun i => (a ++ b)[i]?) = b.map some := by
  apply List.ext_getElem?
  intro i
  rw [List.getElem?_map, List.getElem?_map, List.getElem?_map]
  by_cases h : i < b.length
  · rw [List.getElem?_range h]
    show some ((a ++ b)[a.length + i]?) = _
    rw [List.getElem?_append_right (by omega), show a.length + i - a.length = i by omega, List.getElem?_eq_getElem h]
    rfl
  · rw [List.getElem?_eq_none (by rw [List.length_range]; omega), List.getElem?_eq_none (by omega)]
    rfl
theorem pfree {A0 : Nat → Prop} {w wr wc : va_W} {H0 H : Heap} {locs : List Loc} (hD : va_D A0 w) (hp : w.Perm (wr ++ wc)) (hS : va_S A0 H0 H locs) (hA : ∀ q, H0.size ≤ q → A0 q) : ∀ q, va_A wc H.size q → A0 q := by
  intro q h
  rcases h with ⟨k, e, h⟩ | h
  · exact (va_D_iff.mp hD).2 (q, e) (hp.mem_iff.mpr (List.mem_append_right _ (List.mem_of_getElem? h)))
  · exact hA q (Nat.le_trans hS.1 h)
theorem kpVp {G : GG} {s : State} {H : Heap} {A : Nat → Prop} {w wr wc : va_W} {C : String} {T : u_T} {N b q0 ci : Nat} {fs As : List Value} (hK : KK G s) (hP : va_P G.1 vwCl w H) (hD : va_D A w) (hZ : ZZ A s s.heap) {locs : List Loc} (hS : va_S A s.heap H locs) (hA : ∀ q, s.heap.size ≤ q → A q) (hp : w.Perm (wr ++ wc)) (hc : vwCl[ci]? = some (C, T, N)) (he : wc[q0]? = some (b, .inr (ci, fs))) : PreV s H C b (va_Pc (.ref b :: As) (Pre G wc H.size)) As :=
  ⟨preBlind, va_recv hK.1 (hP.perm hp).r hc he, fun U hU hW => ⟨rfl, by rw [hU], by rw [hU]; exact (hP.perm hp).r, hK.warm hW, ((hD.perm hp).rr).weaken (fun _ _ _ _ => trivial), hZ.go hS (pfree hD hp hS hA) hW.alike hU⟩⟩
theorem kpSp {G : GG} {s : State} {H : Heap} {A : Nat → Prop} {w wr wc : va_W} {As : List Value} (hK : KK G s) (hP : va_P G.1 vwCl w H) (hD : va_D A w) (hZ : ZZ A s s.heap) {locs : List Loc} (hS : va_S A s.heap H locs) (hA : ∀ q, s.heap.size ≤ q → A q) (hp : w.Perm (wr ++ wc)) : PreS s H (va_Pc As (Pre G wc H.size)) As :=
  ⟨preBlind, fun U hU hW => ⟨rfl, by rw [hU], by rw [hU]; exact (hP.perm hp).r, hK.warm hW, ((hD.perm hp).rr).weaken (fun _ _ _ _ => trivial), hZ.go hS (pfree hD hp hS hA) hW.alike hU⟩⟩
section KCP
variable {p : Program} {l : Launch} {e : Env} {R : Room} {s : State} {m : MethodId} {args : Array Value} {below : List Frame} {meth : Method} {c : Code} {H : Heap} {locs : List Loc} {cells slots : Nat} {Q : State → Prop}
variable {pc : Nat} {ls : Array Slot} {rest st0 : List Value} {a : Array Value} {A : Nat → Prop} {G : GG} {w wc wr : va_W} {S : Type} {wOf : S → va_W}
theorem kp_i {K : Int32 → S → Prop} (hr : va_Run p l e R s m args below meth c H locs cells slots 0 0 (F0 m pc ls st0) rest (va_Qi K (fun u t => va_P G.1 vwCl (wOf u) t.heap ∧ va_D (va_A wc H.size) (wOf u)) (va_A wc H.size) a) (va_A wc H.size)) (hP : va_P G.1 vwCl w H) (hD : va_D A w) (hS : va_S A s.heap H locs) (hA : ∀ q, s.heap.size ≤ q → A q) (hp : w.Perm (wr ++ wc))
    (kk : ∀ (r : Int32) (u : S) (H1 : Heap) (locs1 : List Loc), K r u → va_P G.1 vwCl (wr ++ wOf u) H1 → va_D A (wr ++ wOf u) → va_S A s.heap H1 locs1 → W p l e R s m args below meth c H1 locs1 cells slots Q (F0 m (pc + 3) ls (.int r :: rest))) : W p l e R s m args below meth c H locs cells slots Q (F0 m pc ls st0) :=
  kc_i hr (hP.perm hp) (hD.perm hp) hS hA ((List.range wc.length).map (fun i => wr.length + i)) (List.range wr.length) (rng_r wr wc) (rng_l wr wc) (va_nd_of _ List.nodup_range) (fun i h1 h2 => by
    have h3 := List.mem_range.mp h1
    obtain ⟨j, -, hj⟩ := List.mem_map.mp h2
    omega) kk
theorem kp_l {K : Int64 → S → Prop} (hr : va_Run p l e R s m args below meth c H locs cells slots 0 0 (F0 m pc ls st0) rest (va_Ql K (fun u t => va_P G.1 vwCl (wOf u) t.heap ∧ va_D (va_A wc H.size) (wOf u)) (va_A wc H.size) a) (va_A wc H.size)) (hP : va_P G.1 vwCl w H) (hD : va_D A w) (hS : va_S A s.heap H locs) (hA : ∀ q, s.heap.size ≤ q → A q) (hp : w.Perm (wr ++ wc))
    (kk : ∀ (r : Int64) (u : S) (H1 : Heap) (locs1 : List Loc), K r u → va_P G.1 vwCl (wr ++ wOf u) H1 → va_D A (wr ++ wOf u) → va_S A s.heap H1 locs1 → W p l e R s m args below meth c H1 locs1 cells slots Q (F0 m (pc + 3) ls (.long r :: rest))) : W p l e R s m args below meth c H locs cells slots Q (F0 m pc ls st0) :=
  kc_l hr (hP.perm hp) (hD.perm hp) hS hA ((List.range wc.length).map (fun i => wr.length + i)) (List.range wr.length) (rng_r wr wc) (rng_l wr wc) (va_nd_of _ List.nodup_range) (fun i h1 h2 => by
    have h3 := List.mem_range.mp h1
    obtain ⟨j, -, hj⟩ := List.mem_map.mp h2
    omega) kk
theorem kp_v {K : S → Prop} (hr : va_Run p l e R s m args below meth c H locs cells slots 0 0 (F0 m pc ls st0) rest (va_Qv K (fun u t => va_P G.1 vwCl (wOf u) t.heap ∧ va_D (va_A wc H.size) (wOf u)) (va_A wc H.size) a) (va_A wc H.size)) (hP : va_P G.1 vwCl w H) (hD : va_D A w) (hS : va_S A s.heap H locs) (hA : ∀ q, s.heap.size ≤ q → A q) (hp : w.Perm (wr ++ wc))
    (kk : ∀ (u : S) (H1 : Heap) (locs1 : List Loc), K u → va_P G.1 vwCl (wr ++ wOf u) H1 → va_D A (wr ++ wOf u) → va_S A s.heap H1 locs1 → W p l e R s m args below meth c H1 locs1 cells slots Q (F0 m (pc + 3) ls (rest))) : W p l e R s m args below meth c H locs cells slots Q (F0 m pc ls st0) :=
  kc_v hr (hP.perm hp) (hD.perm hp) hS hA ((List.range wc.length).map (fun i => wr.length + i)) (List.range wr.length) (rng_r wr wc) (rng_l wr wc) (va_nd_of _ List.nodup_range) (fun i h1 h2 => by
    have h3 := List.mem_range.mp h1
    obtain ⟨j, -, hj⟩ := List.mem_map.mp h2
    omega) kk
end KCP
theorem pm_nil (w : va_W) : w.Perm (w ++ []) := by rw [List.append_nil]
theorem pm_all (w : va_W) : w.Perm ([] ++ w) := List.Perm.refl _
theorem pm2_0_1 (x0 x1 : va_W) : (x0 ++ (x1)).Perm ((x0) ++ (x1)) := by
  have h : [x0, x1].Perm [x0, x1] := (List.Perm.cons _ (List.Perm.cons _ (List.Perm.refl _)))
  have h2 := h.flatten
  simp only [List.flatten_cons, List.flatten_nil, List.append_nil] at h2
  try simp only [List.nil_append, List.append_assoc] at h2 ⊢
  exact h2
theorem pm2_1_0 (x0 x1 : va_W) : (x0 ++ (x1)).Perm ((x1) ++ (x0)) := by
  have h : [x0, x1].Perm [x1, x0] := (List.Perm.trans (List.perm_middle (a := x1) (l₁ := [x0]) (l₂ := [])) (List.Perm.cons _ (List.Perm.cons _ (List.Perm.refl _))))
  have h2 := h.flatten
  simp only [List.flatten_cons, List.flatten_nil, List.append_nil] at h2
  try simp only [List.nil_append, List.append_assoc] at h2 ⊢
  exact h2
theorem pm6_01235_4 (x0 x1 x2 x3 x4 x5 : va_W) : (x0 ++ (x1 ++ (x2 ++ (x3 ++ (x4 ++ (x5)))))).Perm ((x0 ++ (x1 ++ (x2 ++ (x3 ++ (x5))))) ++ (x4)) := by
  have h : [x0, x1, x2, x3, x4, x5].Perm [x0, x1, x2, x3, x5, x4] := (List.Perm.cons _ (List.Perm.cons _ (List.Perm.cons _ (List.Perm.cons _ (List.Perm.trans (List.perm_middle (a := x5) (l₁ := [x4]) (l₂ := [])) (List.Perm.cons _ (List.Perm.cons _ (List.Perm.refl _))))))))
  have h2 := h.flatten
  simp only [List.flatten_cons, List.flatten_nil, List.append_nil] at h2
  try simp only [List.nil_append, List.append_assoc] at h2 ⊢
  exact h2
theorem pm6_01245_3 (x0 x1 x2 x3 x4 x5 : va_W) : (x0 ++ (x1 ++ (x2 ++ (x3 ++ (x4 ++ (x5)))))).Perm ((x0 ++ (x1 ++ (x2 ++ (x4 ++ (x5))))) ++ (x3)) := by
  have h : [x0, x1, x2, x3, x4, x5].Perm [x0, x1, x2, x4, x5, x3] := (List.Perm.cons _ (List.Perm.cons _ (List.Perm.cons _ (List.Perm.trans (List.perm_middle (a := x4) (l₁ := [x3]) (l₂ := [x5])) (List.Perm.cons _ (List.Perm.trans (List.perm_middle (a := x5) (l₁ := [x3]) (l₂ := [])) (List.Perm.cons _ (List.Perm.cons _ (List.Perm.refl _)))))))))
  have h2 := h.flatten
  simp only [List.flatten_cons, List.flatten_nil, List.append_nil] at h2
  try simp only [List.nil_append, List.append_assoc] at h2 ⊢
  exact h2
theorem pm6_0125_43 (x0 x1 x2 x3 x4 x5 : va_W) : (x0 ++ (x1 ++ (x2 ++ (x3 ++ (x4 ++ (x5)))))).Perm ((x0 ++ (x1 ++ (x2 ++ (x5)))) ++ (x4 ++ (x3))) := by
  have h : [x0, x1, x2, x3, x4, x5].Perm [x0, x1, x2, x5, x4, x3] := (List.Perm.cons _ (List.Perm.cons _ (List.Perm.cons _ (List.Perm.trans (List.perm_middle (a := x5) (l₁ := [x3, x4]) (l₂ := [])) (List.Perm.cons _ (List.Perm.trans (List.perm_middle (a := x4) (l₁ := [x3]) (l₂ := [])) (List.Perm.cons _ (List.Perm.cons _ (List.Perm.refl _)))))))))
  have h2 := h.flatten
  simp only [List.flatten_cons, List.flatten_nil, List.append_nil] at h2
  try simp only [List.nil_append, List.append_assoc] at h2 ⊢
  exact h2
theorem pm6_0234_51 (x0 x1 x2 x3 x4 x5 : va_W) : (x0 ++ (x1 ++ (x2 ++ (x3 ++ (x4 ++ (x5)))))).Perm ((x0 ++ (x2 ++ (x3 ++ (x4)))) ++ (x5 ++ (x1))) := by
  have h : [x0, x1, x2, x3, x4, x5].Perm [x0, x2, x3, x4, x5, x1] := (List.Perm.cons _ (List.Perm.trans (List.perm_middle (a := x2) (l₁ := [x1]) (l₂ := [x3, x4, x5])) (List.Perm.cons _ (List.Perm.trans (List.perm_middle (a := x3) (l₁ := [x1]) (l₂ := [x4, x5])) (List.Perm.cons _ (List.Perm.trans (List.perm_middle (a := x4) (l₁ := [x1]) (l₂ := [x5])) (List.Perm.cons _ (List.Perm.trans (List.perm_middle (a := x5) (l₁ := [x1]) (l₂ := [])) (List.Perm.cons _ (List.Perm.cons _ (List.Perm.refl _)))))))))))
  have h2 := h.flatten
  simp only [List.flatten_cons, List.flatten_nil, List.append_nil] at h2
  try simp only [List.nil_append, List.append_assoc] at h2 ⊢
  exact h2
theorem pm6_02345_1 (x0 x1 x2 x3 x4 x5 : va_W) : (x0 ++ (x1 ++ (x2 ++ (x3 ++ (x4 ++ (x5)))))).Perm ((x0 ++ (x2 ++ (x3 ++ (x4 ++ (x5))))) ++ (x1)) := by
  have h : [x0, x1, x2, x3, x4, x5].Perm [x0, x2, x3, x4, x5, x1] := (List.Perm.cons _ (List.Perm.trans (List.perm_middle (a := x2) (l₁ := [x1]) (l₂ := [x3, x4, x5])) (List.Perm.cons _ (List.Perm.trans (List.perm_middle (a := x3) (l₁ := [x1]) (l₂ := [x4, x5])) (List.Perm.cons _ (List.Perm.trans (List.perm_middle (a := x4) (l₁ := [x1]) (l₂ := [x5])) (List.Perm.cons _ (List.Perm.trans (List.perm_middle (a := x5) (l₁ := [x1]) (l₂ := [])) (List.Perm.cons _ (List.Perm.cons _ (List.Perm.refl _)))))))))))
  have h2 := h.flatten
  simp only [List.flatten_cons, List.flatten_nil, List.append_nil] at h2
  try simp only [List.nil_append, List.append_assoc] at h2 ⊢
  exact h2
theorem pm6_0245_31 (x0 x1 x2 x3 x4 x5 : va_W) : (x0 ++ (x1 ++ (x2 ++ (x3 ++ (x4 ++ (x5)))))).Perm ((x0 ++ (x2 ++ (x4 ++ (x5)))) ++ (x3 ++ (x1))) := by
  have h : [x0, x1, x2, x3, x4, x5].Perm [x0, x2, x4, x5, x3, x1] := (List.Perm.cons _ (List.Perm.trans (List.perm_middle (a := x2) (l₁ := [x1]) (l₂ := [x3, x4, x5])) (List.Perm.cons _ (List.Perm.trans (List.perm_middle (a := x4) (l₁ := [x1, x3]) (l₂ := [x5])) (List.Perm.cons _ (List.Perm.trans (List.perm_middle (a := x5) (l₁ := [x1, x3]) (l₂ := [])) (List.Perm.cons _ (List.Perm.trans (List.perm_middle (a := x3) (l₁ := [x1]) (l₂ := [])) (List.Perm.cons _ (List.Perm.cons _ (List.Perm.refl _)))))))))))
  have h2 := h.flatten
  simp only [List.flatten_cons, List.flatten_nil, List.append_nil] at h2
  try simp only [List.nil_append, List.append_assoc] at h2 ⊢
  exact h2
theorem pm6_0345_21 (x0 x1 x2 x3 x4 x5 : va_W) : (x0 ++ (x1 ++ (x2 ++ (x3 ++ (x4 ++ (x5)))))).Perm ((x0 ++ (x3 ++ (x4 ++ (x5)))) ++ (x2 ++ (x1))) := by
  have h : [x0, x1, x2, x3, x4, x5].Perm [x0, x3, x4, x5, x2, x1] := (List.Perm.cons _ (List.Perm.trans (List.perm_middle (a := x3) (l₁ := [x1, x2]) (l₂ := [x4, x5])) (List.Perm.cons _ (List.Perm.trans (List.perm_middle (a := x4) (l₁ := [x1, x2]) (l₂ := [x5])) (List.Perm.cons _ (List.Perm.trans (List.perm_middle (a := x5) (l₁ := [x1, x2]) (l₂ := [])) (List.Perm.cons _ (List.Perm.trans (List.perm_middle (a := x2) (l₁ := [x1]) (l₂ := [])) (List.Perm.cons _ (List.Perm.cons _ (List.Perm.refl _)))))))))))
  have h2 := h.flatten
  simp only [List.flatten_cons, List.flatten_nil, List.append_nil] at h2
  try simp only [List.nil_append, List.append_assoc] at h2 ⊢
  exact h2
theorem pm7_01234_56 (x0 x1 x2 x3 x4 x5 x6 : va_W) : (x0 ++ (x1 ++ (x2 ++ (x3 ++ (x4 ++ (x5 ++ (x6))))))).Perm ((x0 ++ (x1 ++ (x2 ++ (x3 ++ (x4))))) ++ (x5 ++ (x6))) := by
  have h : [x0, x1, x2, x3, x4, x5, x6].Perm [x0, x1, x2, x3, x4, x5, x6] := (List.Perm.cons _ (List.Perm.cons _ (List.Perm.cons _ (List.Perm.cons _ (List.Perm.cons _ (List.Perm.cons _ (List.Perm.cons _ (List.Perm.refl _))))))))
  have h2 := h.flatten
  simp only [List.flatten_cons, List.flatten_nil, List.append_nil] at h2
  try simp only [List.nil_append, List.append_assoc] at h2 ⊢
  exact h2
theorem pm7_01234_65 (x0 x1 x2 x3 x4 x5 x6 : va_W) : (x0 ++ (x1 ++ (x2 ++ (x3 ++ (x4 ++ (x5 ++ (x6))))))).Perm ((x0 ++ (x1 ++ (x2 ++ (x3 ++ (x4))))) ++ (x6 ++ (x5))) := by
  have h : [x0, x1, x2, x3, x4, x5, x6].Perm [x0, x1, x2, x3, x4, x6, x5] := (List.Perm.cons _ (List.Perm.cons _ (List.Perm.cons _ (List.Perm.cons _ (List.Perm.cons _ (List.Perm.trans (List.perm_middle (a := x6) (l₁ := [x5]) (l₂ := [])) (List.Perm.cons _ (List.Perm.cons _ (List.Perm.refl _)))))))))
  have h2 := h.flatten
  simp only [List.flatten_cons, List.flatten_nil, List.append_nil] at h2
  try simp only [List.nil_append, List.append_assoc] at h2 ⊢
  exact h2
theorem pm7_012345_6 (x0 x1 x2 x3 x4 x5 x6 : va_W) : (x0 ++ (x1 ++ (x2 ++ (x3 ++ (x4 ++ (x5 ++ (x6))))))).Perm ((x0 ++ (x1 ++ (x2 ++ (x3 ++ (x4 ++ (x5)))))) ++ (x6)) := by
  have h : [x0, x1, x2, x3, x4, x5, x6].Perm [x0, x1, x2, x3, x4, x5, x6] := (List.Perm.cons _ (List.Perm.cons _ (List.Perm.cons _ (List.Perm.cons _ (List.Perm.cons _ (List.Perm.cons _ (List.Perm.cons _ (List.Perm.refl _))))))))
  have h2 := h.flatten
  simp only [List.flatten_cons, List.flatten_nil, List.append_nil] at h2
  try simp only [List.nil_append, List.append_assoc] at h2 ⊢
  exact h2
theorem pm7_012346_5 (x0 x1 x2 x3 x4 x5 x6 : va_W) : (x0 ++ (x1 ++ (x2 ++ (x3 ++ (x4 ++ (x5 ++ (x6))))))).Perm ((x0 ++ (x1 ++ (x2 ++ (x3 ++ (x4 ++ (x6)))))) ++ (x5)) := by
  have h : [x0, x1, x2, x3, x4, x5, x6].Perm [x0, x1, x2, x3, x4, x6, x5] := (List.Perm.cons _ (List.Perm.cons _ (List.Perm.cons _ (List.Perm.cons _ (List.Perm.cons _ (List.Perm.trans (List.perm_middle (a := x6) (l₁ := [x5]) (l₂ := [])) (List.Perm.cons _ (List.Perm.cons _ (List.Perm.refl _)))))))))
  have h2 := h.flatten
  simp only [List.flatten_cons, List.flatten_nil, List.append_nil] at h2
  try simp only [List.nil_append, List.append_assoc] at h2 ⊢
  exact h2
theorem pm7_01235_46 (x0 x1 x2 x3 x4 x5 x6 : va_W) : (x0 ++ (x1 ++ (x2 ++ (x3 ++ (x4 ++ (x5 ++ (x6))))))).Perm ((x0 ++ (x1 ++ (x2 ++ (x3 ++ (x5))))) ++ (x4 ++ (x6))) := by
  have h : [x0, x1, x2, x3, x4, x5, x6].Perm [x0, x1, x2, x3, x5, x4, x6] := (List.Perm.cons _ (List.Perm.cons _ (List.Perm.cons _ (List.Perm.cons _ (List.Perm.trans (List.perm_middle (a := x5) (l₁ := [x4]) (l₂ := [x6])) (List.Perm.cons _ (List.Perm.cons _ (List.Perm.cons _ (List.Perm.refl _)))))))))
  have h2 := h.flatten
  simp only [List.flatten_cons, List.flatten_nil, List.append_nil] at h2
  try simp only [List.nil_append, List.append_assoc] at h2 ⊢
  exact h2
theorem pm7_01235_64 (x0 x1 x2 x3 x4 x5 x6 : va_W) : (x0 ++ (x1 ++ (x2 ++ (x3 ++ (x4 ++ (x5 ++ (x6))))))).Perm ((x0 ++ (x1 ++ (x2 ++ (x3 ++ (x5))))) ++ (x6 ++ (x4))) := by
  have h : [x0, x1, x2, x3, x4, x5, x6].Perm [x0, x1, x2, x3, x5, x6, x4] := (List.Perm.cons _ (List.Perm.cons _ (List.Perm.cons _ (List.Perm.cons _ (List.Perm.trans (List.perm_middle (a := x5) (l₁ := [x4]) (l₂ := [x6])) (List.Perm.cons _ (List.Perm.trans (List.perm_middle (a := x6) (l₁ := [x4]) (l₂ := [])) (List.Perm.cons _ (List.Perm.cons _ (List.Perm.refl _))))))))))
  have h2 := h.flatten
  simp only [List.flatten_cons, List.flatten_nil, List.append_nil] at h2
  try simp only [List.nil_append, List.append_assoc] at h2 ⊢
  exact h2
theorem pm7_012356_4 (x0 x1 x2 x3 x4 x5 x6 : va_W) : (x0 ++ (x1 ++ (x2 ++ (x3 ++ (x4 ++ (x5 ++ (x6))))))).Perm ((x0 ++ (x1 ++ (x2 ++ (x3 ++ (x5 ++ (x6)))))) ++ (x4)) := by
  have h : [x0, x1, x2, x3, x4, x5, x6].Perm [x0, x1, x2, x3, x5, x6, x4] := (List.Perm.cons _ (List.Perm.cons _ (List.Perm.cons _ (List.Perm.cons _ (List.Perm.trans (List.perm_middle (a := x5) (l₁ := [x4]) (l₂ := [x6])) (List.Perm.cons _ (List.Perm.trans (List.perm_middle (a := x6) (l₁ := [x4]) (l₂ := [])) (List.Perm.cons _ (List.Perm.cons _ (List.Perm.refl _))))))))))
  have h2 := h.flatten
  simp only [List.flatten_cons, List.flatten_nil, List.append_nil] at h2
  try simp only [List.nil_append, List.append_assoc] at h2 ⊢
  exact h2
theorem pm7_01236_54 (x0 x1 x2 x3 x4 x5 x6 : va_W) : (x0 ++ (x1 ++ (x2 ++ (x3 ++ (x4 ++ (x5 ++ (x6))))))).Perm ((x0 ++ (x1 ++ (x2 ++ (x3 ++ (x6))))) ++ (x5 ++ (x4))) := by
  have h : [x0, x1, x2, x3, x4, x5, x6].Perm [x0, x1, x2, x3, x6, x5, x4] := (List.Perm.cons _ (List.Perm.cons _ (List.Perm.cons _ (List.Perm.cons _ (List.Perm.trans (List.perm_middle (a := x6) (l₁ := [x4, x5]) (l₂ := [])) (List.Perm.cons _ (List.Perm.trans (List.perm_middle (a := x5) (l₁ := [x4]) (l₂ := [])) (List.Perm.cons _ (List.Perm.cons _ (List.Perm.refl _))))))))))
  have h2 := h.flatten
  simp only [List.flatten_cons, List.flatten_nil, List.append_nil] at h2
  try simp only [List.nil_append, List.append_assoc] at h2 ⊢
  exact h2
theorem pm7_01245_36 (x0 x1 x2 x3 x4 x5 x6 : va_W) : (x0 ++ (x1 ++ (x2 ++ (x3 ++ (x4 ++ (x5 ++ (x6))))))).Perm ((x0 ++ (x1 ++ (x2 ++ (x4 ++ (x5))))) ++ (x3 ++ (x6))) := by
  have h : [x0, x1, x2, x3, x4, x5, x6].Perm [x0, x1, x2, x4, x5, x3, x6] := (List.Perm.cons _ (List.Perm.cons _ (List.Perm.cons _ (List.Perm.trans (List.perm_middle (a := x4) (l₁ := [x3]) (l₂ := [x5, x6])) (List.Perm.cons _ (List.Perm.trans (List.perm_middle (a := x5) (l₁ := [x3]) (l₂ := [x6])) (List.Perm.cons _ (List.Perm.cons _ (List.Perm.cons _ (List.Perm.refl _))))))))))
  have h2 := h.flatten
  simp only [List.flatten_cons, List.flatten_nil, List.append_nil] at h2
  try simp only [List.nil_append, List.append_assoc] at h2 ⊢
  exact h2
theorem pm7_01245_63 (x0 x1 x2 x3 x4 x5 x6 : va_W) : (x0 ++ (x1 ++ (x2 ++ (x3 ++ (x4 ++ (x5 ++ (x6))))))).Perm ((x0 ++ (x1 ++ (x2 ++ (x4 ++ (x5))))) ++ (x6 ++ (x3))) := by
  have h : [x0, x1, x2, x3, x4, x5, x6].Perm [x0, x1, x2, x4, x5, x6, x3] := (List.Perm.cons _ (List.Perm.cons _ (List.Perm.cons _ (List.Perm.trans (List.perm_middle (a := x4) (l₁ := [x3]) (l₂ := [x5, x6])) (List.Perm.cons _ (List.Perm.trans (List.perm_middle (a := x5) (l₁ := [x3]) (l₂ := [x6])) (List.Perm.cons _ (List.Perm.trans (List.perm_middle (a := x6) (l₁ := [x3]) (l₂ := [])) (List.Perm.cons _ (List.Perm.cons _ (List.Perm.refl _)))))))))))
  have h2 := h.flatten
  simp only [List.flatten_cons, List.flatten_nil, List.append_nil] at h2
  try simp only [List.nil_append, List.append_assoc] at h2 ⊢
  exact h2
theorem pm7_012456_3 (x0 x1 x2 x3 x4 x5 x6 : va_W) : (x0 ++ (x1 ++ (x2 ++ (x3 ++ (x4 ++ (x5 ++ (x6))))))).Perm ((x0 ++ (x1 ++ (x2 ++ (x4 ++ (x5 ++ (x6)))))) ++ (x3)) := by
  have h : [x0, x1, x2, x3, x4, x5, x6].Perm [x0, x1, x2, x4, x5, x6, x3] := (List.Perm.cons _ (List.Perm.cons _ (List.Perm.cons _ (List.Perm.trans (List.perm_middle (a := x4) (l₁ := [x3]) (l₂ := [x5, x6])) (List.Perm.cons _ (List.Perm.trans (List.perm_middle (a := x5) (l₁ := [x3]) (l₂ := [x6])) (List.Perm.cons _ (List.Perm.trans (List.perm_middle (a := x6) (l₁ := [x3]) (l₂ := [])) (List.Perm.cons _ (List.Perm.cons _ (List.Perm.refl _)))))))))))
  have h2 := h.flatten
  simp only [List.flatten_cons, List.flatten_nil, List.append_nil] at h2
  try simp only [List.nil_append, List.append_assoc] at h2 ⊢
  exact h2
theorem pm7_01256_43 (x0 x1 x2 x3 x4 x5 x6 : va_W) : (x0 ++ (x1 ++ (x2 ++ (x3 ++ (x4 ++ (x5 ++ (x6))))))).Perm ((x0 ++ (x1 ++ (x2 ++ (x5 ++ (x6))))) ++ (x4 ++ (x3))) := by
  have h : [x0, x1, x2, x3, x4, x5, x6].Perm [x0, x1, x2, x5, x6, x4, x3] := (List.Perm.cons _ (List.Perm.cons _ (List.Perm.cons _ (List.Perm.trans (List.perm_middle (a := x5) (l₁ := [x3, x4]) (l₂ := [x6])) (List.Perm.cons _ (List.Perm.trans (List.perm_middle (a := x6) (l₁ := [x3, x4]) (l₂ := [])) (List.Perm.cons _ (List.Perm.trans (List.perm_middle (a := x4) (l₁ := [x3]) (l₂ := [])) (List.Perm.cons _ (List.Perm.cons _ (List.Perm.refl _)))))))))))
  have h2 := h.flatten
  simp only [List.flatten_cons, List.flatten_nil, List.append_nil] at h2
  try simp only [List.nil_append, List.append_assoc] at h2 ⊢
  exact h2
theorem pm7_01345_26 (x0 x1 x2 x3 x4 x5 x6 : va_W) : (x0 ++ (x1 ++ (x2 ++ (x3 ++ (x4 ++ (x5 ++ (x6))))))).Perm ((x0 ++ (x1 ++ (x3 ++ (x4 ++ (x5))))) ++ (x2 ++ (x6))) := by
  have h : [x0, x1, x2, x3, x4, x5, x6].Perm [x0, x1, x3, x4, x5, x2, x6] := (List.Perm.cons _ (List.Perm.cons _ (List.Perm.trans (List.perm_middle (a := x3) (l₁ := [x2]) (l₂ := [x4, x5, x6])) (List.Perm.cons _ (List.Perm.trans (List.perm_middle (a := x4) (l₁ := [x2]) (l₂ := [x5, x6])) (List.Perm.cons _ (List.Perm.trans (List.perm_middle (a := x5) (l₁ := [x2]) (l₂ := [x6])) (List.Perm.cons _ (List.Perm.cons _ (List.Perm.cons _ (List.Perm.refl _)))))))))))
  have h2 := h.flatten
  simp only [List.flatten_cons, List.flatten_nil, List.append_nil] at h2
  try simp only [List.nil_append, List.append_assoc] at h2 ⊢
  exact h2
theorem pm7_01345_62 (x0 x1 x2 x3 x4 x5 x6 : va_W) : (x0 ++ (x1 ++ (x2 ++ (x3 ++ (x4 ++ (x5 ++ (x6))))))).Perm ((x0 ++ (x1 ++ (x3 ++ (x4 ++ (x5))))) ++ (x6 ++ (x2))) := by
  have h : [x0, x1, x2, x3, x4, x5, x6].Perm [x0, x1, x3, x4, x5, x6, x2] := (List.Perm.cons _ (List.Perm.cons _ (List.Perm.trans (List.perm_middle (a := x3) (l₁ := [x2]) (l₂ := [x4, x5, x6])) (List.Perm.cons _ (List.Perm.trans (List.perm_middle (a := x4) (l₁ := [x2]) (l₂ := [x5, x6])) (List.Perm.cons _ (List.Perm.trans (List.perm_middle (a := x5) (l₁ := [x2]) (l₂ := [x6])) (List.Perm.cons _ (List.Perm.trans (List.perm_middle (a := x6) (l₁ := [x2]) (l₂ := [])) (List.Perm.cons _ (List.Perm.cons _ (List.Perm.refl _))))))))))))
  have h2 := h.flatten
  simp only [List.flatten_cons, List.flatten_nil, List.append_nil] at h2
  try simp only [List.nil_append, List.append_assoc] at h2 ⊢
  exact h2
theorem pm7_013456_2 (x0 x1 x2 x3 x4 x5 x6 : va_W) : (x0 ++ (x1 ++ (x2 ++ (x3 ++ (x4 ++ (x5 ++ (x6))))))).Perm ((x0 ++ (x1 ++ (x3 ++ (x4 ++ (x5 ++ (x6)))))) ++ (x2)) := by
  have h : [x0, x1, x2, x3, x4, x5, x6].Perm [x0, x1, x3, x4, x5, x6, x2] := (List.Perm.cons _ (List.Perm.cons _ (List.Perm.trans (List.perm_middle (a := x3) (l₁ := [x2]) (l₂ := [x4, x5, x6])) (List.Perm.cons _ (List.Perm.trans (List.perm_middle (a := x4) (l₁ := [x2]) (l₂ := [x5, x6])) (List.Perm.cons _ (List.Perm.trans (List.perm_middle (a := x5) (l₁ := [x2]) (l₂ := [x6])) (List.Perm.cons _ (List.Perm.trans (List.perm_middle (a := x6) (l₁ := [x2]) (l₂ := [])) (List.Perm.cons _ (List.Perm.cons _ (List.Perm.refl _))))))))))))
  have h2 := h.flatten
  simp only [List.flatten_cons, List.flatten_nil, List.append_nil] at h2
  try simp only [List.nil_append, List.append_assoc] at h2 ⊢
  exact h2
theorem pm7_01456_32 (x0 x1 x2 x3 x4 x5 x6 : va_W) : (x0 ++ (x1 ++ (x2 ++ (x3 ++ (x4 ++ (x5 ++ (x6))))))).Perm ((x0 ++ (x1 ++ (x4 ++ (x5 ++ (x6))))) ++ (x3 ++ (x2))) := by
  have h : [x0, x1, x2, x3, x4, x5, x6].Perm [x0, x1, x4, x5, x6, x3, x2] := (List.Perm.cons _ (List.Perm.cons _ (List.Perm.trans (List.perm_middle (a := x4) (l₁ := [x2, x3]) (l₂ := [x5, x6])) (List.Perm.cons _ (List.Perm.trans (List.perm_middle (a := x5) (l₁ := [x2, x3]) (l₂ := [x6])) (List.Perm.cons _ (List.Perm.trans (List.perm_middle (a := x6) (l₁ := [x2, x3]) (l₂ := [])) (List.Perm.cons _ (List.Perm.trans (List.perm_middle (a := x3) (l₁ := [x2]) (l₂ := [])) (List.Perm.cons _ (List.Perm.cons _ (List.Perm.refl _))))))))))))
  have h2 := h.flatten
  simp only [List.flatten_cons, List.flatten_nil, List.append_nil] at h2
  try simp only [List.nil_append, List.append_assoc] at h2 ⊢
  exact h2
theorem pm7_02345_16 (x0 x1 x2 x3 x4 x5 x6 : va_W) : (x0 ++ (x1 ++ (x2 ++ (x3 ++ (x4 ++ (x5 ++ (x6))))))).Perm ((x0 ++ (x2 ++ (x3 ++ (x4 ++ (x5))))) ++ (x1 ++ (x6))) := by
  have h : [x0, x1, x2, x3, x4, x5, x6].Perm [x0, x2, x3, x4, x5, x1, x6] := (List.Perm.cons _ (List.Perm.trans (List.perm_middle (a := x2) (l₁ := [x1]) (l₂ := [x3, x4, x5, x6])) (List.Perm.cons _ (List.Perm.trans (List.perm_middle (a := x3) (l₁ := [x1]) (l₂ := [x4, x5, x6])) (List.Perm.cons _ (List.Perm.trans (List.perm_middle (a := x4) (l₁ := [x1]) (l₂ := [x5, x6])) (List.Perm.cons _ (List.Perm.trans (List.perm_middle (a := x5) (l₁ := [x1]) (l₂ := [x6])) (List.Perm.cons _ (List.Perm.cons _ (List.Perm.cons _ (List.Perm.refl _))))))))))))
  have h2 := h.flatten
  simp only [List.flatten_cons, List.flatten_nil, List.append_nil] at h2
  try simp only [List.nil_append, List.append_assoc] at h2 ⊢
  exact h2
theorem pm7_02345_61 (x0 x1 x2 x3 x4 x5 x6 : va_W) : (x0 ++ (x1 ++ (x2 ++ (x3 ++ (x4 ++ (x5 ++ (x6))))))).Perm ((x0 ++ (x2 ++ (x3 ++ (x4 ++ (x5))))) ++ (x6 ++ (x1))) := by
  have h : [x0, x1, x2, x3, x4, x5, x6].Perm [x0, x2, x3, x4, x5, x6, x1] := (List.Perm.cons _ (List.Perm.trans (List.perm_middle (a := x2) (l₁ := [x1]) (l₂ := [x3, x4, x5, x6])) (List.Perm.cons _ (List.Perm.trans (List.perm_middle (a := x3) (l₁ := [x1]) (l₂ := [x4, x5, x6])) (List.Perm.cons _ (List.Perm.trans (List.perm_middle (a := x4) (l₁ := [x1]) (l₂ := [x5, x6])) (List.Perm.cons _ (List.Perm.trans (List.perm_middle (a := x5) (l₁ := [x1]) (l₂ := [x6])) (List.Perm.cons _ (List.Perm.trans (List.perm_middle (a := x6) (l₁ := [x1]) (l₂ := [])) (List.Perm.cons _ (List.Perm.cons _ (List.Perm.refl _)))))))))))))
  have h2 := h.flatten
  simp only [List.flatten_cons, List.flatten_nil, List.append_nil] at h2
  try simp only [List.nil_append, List.append_assoc] at h2 ⊢
  exact h2
theorem pm7_023456_1 (x0 x1 x2 x3 x4 x5 x6 : va_W) : (x0 ++ (x1 ++ (x2 ++ (x3 ++ (x4 ++ (x5 ++ (x6))))))).Perm ((x0 ++ (x2 ++ (x3 ++ (x4 ++ (x5 ++ (x6)))))) ++ (x1)) := by
  have h : [x0, x1, x2, x3, x4, x5, x6].Perm [x0, x2, x3, x4, x5, x6, x1] := (List.Perm.cons _ (List.Perm.trans (List.perm_middle (a := x2) (l₁ := [x1]) (l₂ := [x3, x4, x5, x6])) (List.Perm.cons _ (List.Perm.trans (List.perm_middle (a := x3) (l₁ := [x1]) (l₂ := [x4, x5, x6])) (List.Perm.cons _ (List.Perm.trans (List.perm_middle (a := x4) (l₁ := [x1]) (l₂ := [x5, x6])) (List.Perm.cons _ (List.Perm.trans (List.perm_middle (a := x5) (l₁ := [x1]) (l₂ := [x6])) (List.Perm.cons _ (List.Perm.trans (List.perm_middle (a := x6) (l₁ := [x1]) (l₂ := [])) (List.Perm.cons _ (List.Perm.cons _ (List.Perm.refl _)))))))))))))
  have h2 := h.flatten
  simp only [List.flatten_cons, List.flatten_nil, List.append_nil] at h2
  try simp only [List.nil_append, List.append_assoc] at h2 ⊢
  exact h2
theorem pm7_03456_21 (x0 x1 x2 x3 x4 x5 x6 : va_W) : (x0 ++ (x1 ++ (x2 ++ (x3 ++ (x4 ++ (x5 ++ (x6))))))).Perm ((x0 ++ (x3 ++ (x4 ++ (x5 ++ (x6))))) ++ (x2 ++ (x1))) := by
  have h : [x0, x1, x2, x3, x4, x5, x6].Perm [x0, x3, x4, x5, x6, x2, x1] := (List.Perm.cons _ (List.Perm.trans (List.perm_middle (a := x3) (l₁ := [x1, x2]) (l₂ := [x4, x5, x6])) (List.Perm.cons _ (List.Perm.trans (List.perm_middle (a := x4) (l₁ := [x1, x2]) (l₂ := [x5, x6])) (List.Perm.cons _ (List.Perm.trans (List.perm_middle (a := x5) (l₁ := [x1, x2]) (l₂ := [x6])) (List.Perm.cons _ (List.Perm.trans (List.perm_middle (a := x6) (l₁ := [x1, x2]) (l₂ := [])) (List.Perm.cons _ (List.Perm.trans (List.perm_middle (a := x2) (l₁ := [x1]) (l₂ := [])) (List.Perm.cons _ (List.Perm.cons _ (List.Perm.refl _)))))))))))))
  have h2 := h.flatten
  simp only [List.flatten_cons, List.flatten_nil, List.append_nil] at h2
  try simp only [List.nil_append, List.append_assoc] at h2 ⊢
  exact h2
