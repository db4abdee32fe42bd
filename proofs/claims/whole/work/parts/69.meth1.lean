-- the methods, one by one: class and reference answer alike and stay related
section RR
variable {er : Nat → Int32} {inp otp tc fc : Int32} {on ze ou : Nat → Int32} {wd : Nat → Int64} {lo up : Nat → Int32} {hc : Int32} {sv : Nat → SS} {ab tr rt : Nat → Int32} {kn ct : Int32} {bu bl d0 : Nat → Int32} {nw ps er2 : Nat → Int32} {st : Int32}
theorem m_setSize {a1 a2 : Int32} {sa : Nat → Nat → Nat} (h : Rel er inp otp tc fc on ze ou wd lo up hc sv ab tr rt kn ct bu bl d0 nw ps er2 st) : wp_X5_setSize a1 a2 er inp otp tc fc on ze ou wd lo up hc sa sv ab tr rt kn (fun r er' inp' otp' tc' fc' lo' up' hc' _ sv' ab' tr' rt' kn' => wp_X6_setSize a1 a2 nw ps er2 st (fun r2 nw' ps' er2' st' => r = r2 ∧ Rel er' inp' otp' tc' fc' on ze ou wd lo' up' hc' sv' ab' tr' rt' kn' ct bu bl d0 nw' ps' er2' st')) := by
  have bad : ¬ (((1 : Int32) ≤ a1 ∧ a1 ≤ nI 6) ∧ ((1 : Int32) ≤ a2 ∧ a2 ≤ nI 4)) → wp_X5_fail (-2 : Int32) er (fun r u => wp_X6_setSize a1 a2 nw ps er2 st (fun r2 nw' ps' er2' st' => r = r2 ∧ Rel u inp otp tc fc on ze ou wd lo up hc sv ab tr rt kn ct bu bl d0 nw' ps' er2' st')) := by
    intro hn
    refine sp_fail (by decide) er_2 ?_
    unfold wp_X6_setSize
    refine sp_in (fun p1 p2 => b1' ?_) (fun _ => b0' (sp_error (by decide) er_2 ⟨rfl, h.err 0 (by decide)⟩))
    exact sp_in (fun q1 q2 => absurd ⟨⟨p1, p2⟩, q1, q2⟩ hn) (fun _ => b0 (sp_error (by decide) er_2 ⟨rfl, h.err 0 (by decide)⟩))
  obtain ⟨S, L, hF, hC, hM, hH, hB, hd, hE⟩ := h
  unfold wp_X5_setSize
  refine ⟨fun c => bad (fun q => i32_lt_nle c q.1.1), fun c1 => ⟨fun c => bad (fun q => i32_lt_nle c q.1.2), fun c2 => ⟨fun c => bad (fun q => i32_lt_nle c q.2.1), fun c3 => ⟨fun c4 => ?_, fun c => bad (fun q => c q.2.2)⟩⟩⟩⟩
  have r1 : (1 : Int32) ≤ a1 ∧ a1 ≤ nI 6 := ⟨i32_nlt c1, i32_nlt c2⟩
  have r2 : (1 : Int32) ≤ a2 ∧ a2 ≤ nI 4 := ⟨i32_nlt c3, c4⟩
  obtain ⟨i, hi1, hi2, rfl⟩ := (rng_iff (by decide)).mp r1
  obtain ⟨o, ho1, ho2, rfl⟩ := (rng_iff (by decide)).mp r2
  have hz2 : Size (i, o, [], nof, nof) := ⟨hi1, hi2, ho1, ho2, Nat.zero_le _, fun q hq => (by cases hq)⟩
  refine sp_push hH.1 hC.1 hF.len (fun hc2 sa2 sv2 hH2 => ?_)
  unfold wp_X4_resize
  refine sp_partAll (fun lo2 up2 hl => ?_)
  refine sp_termsChanged (S := (i, o, [], nof, nof)) (wd := wd) rfl (fun s q hq => by cases hq) (Fok.empty hz2) (fun c hc => (hl c hc).1) (fun ab2 tr2 rt2 hab hrow => ?_)
  unfold wp_X6_setSize
  refine sp_in (fun _ _ => b1' (sp_in (fun _ _ => b1 ?_) (fun c => absurd r2 c))) (fun c => absurd r1 c)
  refine sp_save hH.2.2.1 hH.2.1 hM hF.len (fun ps2 hps => sp_noFolds ⟨?_, (i, o, [], nof, nof), push5 L S, Fok.empty hz2, ⟨⟨rfl, rfl, rfl, rfl, fun s q hq => (by cases hq), hl⟩, hab, hrow⟩, ?_, ⟨hH2, hps, rfl, push_ok hH.2.2.2 hF⟩, Or.inl rfl, hd, hE⟩)
  · rw [hC.1.2.2.1, hM.2.2.1]
  · refine ⟨rfl, rfl, rfl, fun s q hq => (by cases hq), fun c hc => ?_⟩
    unfold nf
    rw [if_pos (by omega), if_pos (by omega)]
    exact ⟨rfl, rfl⟩
-- addTerm
theorem nat_of (a : Int32) : ∃ n, n < 2 ^ 32 ∧ a = nI n := by
  refine ⟨a.toBitVec.toNat, a.toBitVec.isLt, ?_⟩
  apply Int32.toBitVec_inj.mp
  apply BitVec.eq_of_toNat_eq
  show a.toBitVec.toNat = (BitVec.ofNat 32 a.toBitVec.toNat).toNat
  rw [BitVec.toNat_ofNat, Nat.mod_eq_of_lt a.toBitVec.isLt]
theorem ush_k : ∀ t, t < 32 → (((nI t).toUInt32 &&& Int32.toUInt32 31).toBitVec % 32).toNat = t := by decide +kernel
theorem jushr_n {m t : Nat} (hm : m < 2 ^ 32) (ht : t < 32) : jushr (nI m) (nI t) = nI (m / 2 ^ t) := pk_ushrN hm (nI t) t (ush_k t ht)
theorem jushr_0 {m t : Nat} (hm : m < 2 ^ 32) (ht : t < 32) (h1 : 1 ≤ t) : jushr (nI m) (nI t) = 0 ↔ m < 2 ^ t := by
  rw [jushr_n hm ht]
  have hp : 2 ^ 1 ≤ 2 ^ t := Nat.pow_le_pow_right (by decide) h1
  have hq : m / 2 ^ t ≤ m / 2 := Nat.div_le_div_left hp (by decide)
  have e : nI (m / 2 ^ t) = nI 0 ↔ m / 2 ^ t = 0 := nI_eq (by omega) (by decide)
  constructor
  · intro c
    have c2 := e.mp c
    have d := Nat.div_add_mod m (2 ^ t)
    rw [c2, Nat.mul_zero, Nat.zero_add] at d
    rw [← d]
    exact Nat.mod_lt _ (Nat.two_pow_pos t)
  · intro c
    exact e.mpr (Nat.div_eq_of_lt c)
theorem or_le_l (x z : Nat) : x ≤ x ||| z := by
  have e : (x ||| z) &&& x = x := by
    apply Nat.eq_of_testBit_eq
    intro k
    rw [Nat.testBit_and, Nat.testBit_or]
    cases x.testBit k <;> simp
  exact Nat.le_trans (Nat.le_of_eq e.symm) Nat.and_le_left
theorem or_le_r (x z : Nat) : z ≤ x ||| z := by
  have e : (x ||| z) &&& z = z := by
    apply Nat.eq_of_testBit_eq
    intro k
    rw [Nat.testBit_and, Nat.testBit_or]
    cases x.testBit k <;> cases z.testBit k <;> rfl
  exact Nat.le_trans (Nat.le_of_eq e.symm) Nat.and_le_left
/-- what addTerm takes -/
def takeP (i o : Nat) (a1 a2 a3 : Int32) : Prop := ∃ x z w, x < 2 ^ i ∧ z < 2 ^ i ∧ w < 2 ^ o ∧ x &&& z = 0 ∧ w ≠ 0 ∧ a1 = nI x ∧ a2 = nI z ∧ a3 = nI w
theorem pow31 {i : Nat} (h : i ≤ 6) : 2 ^ i < 2 ^ 30 := Nat.pow_lt_pow_right (by decide) (by omega)
theorem takes_y {x z w i o : Nat} {K : Int32 → Prop} (hi1 : 1 ≤ i) (hi6 : i ≤ 6) (ho1 : 1 ≤ o) (ho4 : o ≤ 4) (hx : x < 2 ^ i) (hz : z < 2 ^ i) (hw : w < 2 ^ o) (hd : x &&& z = 0) (hw0 : w ≠ 0) (h : K 1) : wp_X4_takesTerm (nI x) (nI z) (nI w) (nI i) (nI o) K := by
  have p1 := pow31 hi6
  have p2 : 2 ^ o < 2 ^ 30 := pow31 (by omega)
  have e1 : jushr (nI x ||| nI z) (nI i) = 0 := by
    rw [nI_or]
    have hor := Nat.or_lt_two_pow hx hz
    exact (jushr_0 (by omega) (by omega) hi1).mpr hor
  have e3 : jushr (nI w) (nI o) = 0 := (jushr_0 (by omega) (by omega) ho1).mpr hw
  have e4 : nI x &&& nI z = 0 := by
    rw [nI_and, hd]
    rfl
  have e5 : ¬ nI w = 0 := fun c => hw0 ((nI_eq (b := 0) (by omega) (by decide)).mp c)
  unfold wp_X4_takesTerm
  refine Jn1.to (fun y => y = 1) ⟨fun c => absurd e1 c, fun _ => rfl⟩ ?_
  rintro y rfl
  refine Jn1.to (fun y => y = 1) ⟨fun c => absurd e3 c, fun _ => rfl⟩ ?_
  rintro y rfl
  exact b1' (b1' ⟨fun c => absurd e4 c, fun _ => ⟨fun c => absurd c e5, fun _ => h⟩⟩)
theorem takes_n {i o : Nat} {a1 a2 a3 : Int32} {K : Int32 → Prop} (hi1 : 1 ≤ i) (hi6 : i ≤ 6) (ho1 : 1 ≤ o) (ho4 : o ≤ 4) (hno : ¬ takeP i o a1 a2 a3) (h : K 0) : wp_X4_takesTerm a1 a2 a3 (nI i) (nI o) K := by
  unfold wp_X4_takesTerm
  refine Jn1.to (fun y => y = 0 ∨ (y = 1 ∧ jushr (a1 ||| a2) (nI i) = 0)) ⟨fun _ => Or.inl rfl, fun c => Or.inr ⟨rfl, c⟩⟩ ?_
  intro y hy
  refine Jn1.to (fun y => y = 0 ∨ (y = 1 ∧ jushr a3 (nI o) = 0)) ⟨fun _ => Or.inl rfl, fun c => Or.inr ⟨rfl, c⟩⟩ ?_
  intro y2 hy2
  refine ⟨fun _ => h, fun c1 => ⟨fun _ => h, fun c2 => ⟨fun _ => h, fun c3 => ⟨fun _ => h, fun c4 => absurd ?_ hno⟩⟩⟩⟩
  have d1 := (hy.resolve_left c1).2
  have d2 := (hy2.resolve_left c2).2
  obtain ⟨x, hx, rfl⟩ := nat_of a1
  obtain ⟨z, hz, rfl⟩ := nat_of a2
  obtain ⟨w, hw, rfl⟩ := nat_of a3
  have p1 := pow31 hi6
  rw [nI_or] at d1
  have g1 := (jushr_0 (Nat.or_lt_two_pow hx hz) (by omega) hi1).mp d1
  have g2 := (jushr_0 hw (by omega) ho1).mp d2
  have l1 := or_le_l x z
  have l2 := or_le_r x z
  have p2 : 2 ^ o < 2 ^ 30 := pow31 (by omega)
  rw [nI_and] at c3
  have hlt : x &&& z < 2 ^ 31 := Nat.lt_of_le_of_lt Nat.and_le_left (by omega)
  refine ⟨x, z, w, by omega, by omega, g2, (nI_eq (b := 0) hlt (by decide)).mp c3, fun e => c4 ?_, rfl, rfl, rfl⟩
  rw [e]
  rfl
theorem isSet_y {x i : Nat} {K : Int32 → Prop} (hi : i ≤ 6) (hx : x < 2 ^ i) (h : K 1) : wp_X6_isSet (nI x) (nI i) K := by
  unfold wp_X6_isSet
  rw [jshl_1 (by omega)]
  exact sp_in0_y (pow31 hi) hx ⟨Or.inr rfl, h⟩
theorem isSet_n {a : Int32} {i : Nat} {K : Int32 → Prop} (hi : i ≤ 6) (hno : ¬ ∃ x, x < 2 ^ i ∧ a = nI x) (h : K 0) : wp_X6_isSet a (nI i) K := by
  unfold wp_X6_isSet
  rw [jshl_1 (by omega)]
  exact sp_in0_n (pow31 hi) hno ⟨Or.inl rfl, h⟩
theorem tt_len {T : List Tm} {q : Tm} : (T ++ [q]).length = T.length + 1 := by rw [List.length_append, List.length_singleton]
theorem get_app {T : List Tm} {q r : Tm} {s : Nat} (h : (T ++ [q])[s]? = some r) : (s < T.length ∧ T[s]? = some r) ∨ (s = T.length ∧ r = q) := by
  have hs := lt_of_get h
  rw [tt_len] at hs
  by_cases c : s < T.length
  · rw [List.getElem?_append_left c] at h
    exact Or.inl ⟨c, h⟩
  · have e : s = T.length := by omega
    subst e
    rw [List.getElem?_append_right (Nat.le_refl _), Nat.sub_self, List.getElem?_cons_zero] at h
    cases h
    exact Or.inr ⟨rfl, rfl⟩
theorem m_addTerm {a1 a2 a3 : Int32} {sa : Nat → Nat → Nat} (h : Rel er inp otp tc fc on ze ou wd lo up hc sv ab tr rt kn ct bu bl d0 nw ps er2 st) : wp_X5_addTerm a1 a2 a3 er inp otp tc fc on ze ou wd lo up hc sa sv ab tr rt kn (fun r er' tc' fc' on' ze' ou' wd' lo' up' hc' _ sv' ab' tr' rt' kn' => wp_X6_addTerm a1 a2 a3 nw ps er2 st (fun r2 nw' ps' er2' st' => r = r2 ∧ Rel er' inp otp tc' fc' on' ze' ou' wd' lo' up' hc' sv' ab' tr' rt' kn' ct bu bl d0 nw' ps' er2' st')) := by
  have h0 := h
  obtain ⟨S, L, hF, hC, hM, hH, hB, hd, hE⟩ := h
  have hz := hF.1
  obtain ⟨z1, z2, z3, z4, z5, z6⟩ := hz
  obtain ⟨k1, k2, k3, k4, k5, k6⟩ := hC.1
  unfold wp_X5_addTerm
  rcases Classical.em (takeP S.1 S.2.1 a1 a2 a3) with ⟨x, z, w, hx, hzz, hw, hand, hw0, rfl, rfl, rfl⟩ | hno
  · rw [k1, k2]
    refine takes_y z1 z2 z3 z4 hx hzz hw hand hw0 (b1 ?_)
    have p1 := pow31 z2
    have p2 : 2 ^ S.2.1 < 2 ^ 30 := pow31 (by omega)
    have e4 : nI x &&& nI z = 0 := by
      rw [nI_and, hand]
      rfl
    have e5 : ¬ nI w = 0 := fun c => hw0 ((nI_eq (b := 0) (by omega) (by decide)).mp c)
    rw [k3]
    refine lt_br (by omega) (by decide) (fun hlt => ?_) (fun hge => ?_)
    · have hz2 : Size (S.1, S.2.1, S.2.2.1 ++ [(x, z, w)], nof, nof) := ⟨z1, z2, z3, z4, by rw [tt_len]; omega, fun q hq => by
        rw [List.mem_append, List.mem_singleton] at hq
        rcases hq with hq | rfl
        · exact z6 q hq
        · exact ⟨hx, hzz, hw⟩⟩
      refine sp_push hH.1 ⟨rfl, rfl, rfl, k4, k5, k6⟩ hF.len (fun hc2 sa2 sv2 hH2 => ?_)
      unfold wp_X4_appendTerm
      have v1 : vp_in (nI S.2.2.1.length) 10 := vp_in_nI hlt (by decide)
      refine lt_br (by omega) (by decide) (fun _ => ⟨v1, v1, v1, sp_wordsOfTerm (q := (x, z, w)) z1 z2 hx hzz ⟨v1, sp_partAll (fun lo2 up2 hl => ?_)⟩⟩) (fun c => by omega)
      have eT : RepT (upd on (nI S.2.2.1.length).toNatClampNeg (nI x)) (upd ze (nI S.2.2.1.length).toNatClampNeg (nI z)) (upd ou (nI S.2.2.1.length).toNatClampNeg (nI w)) (vp_updL wd (nI S.2.2.1.length).toNatClampNeg (tt S.1 (x, z, w))) S.1 (S.2.2.1 ++ [(x, z, w)]) := by
        intro s q hq
        rw [nI_clamp (by omega)]
        rcases get_app hq with ⟨c, g⟩ | ⟨rfl, rfl⟩
        · rw [pk_un (by omega), pk_un (by omega), pk_un (by omega), pk_uLn (by omega)]
          exact k5 s q g
        · rw [pk_us, pk_us, pk_us, pk_uLs]
          exact ⟨rfl, rfl, rfl, rfl⟩
      have elen : nI S.2.2.1.length + 1 = nI (S.2.2.1 ++ [(x, z, w)]).length := by rw [nI_1, tt_len]
      refine sp_termsChanged (S := (S.1, S.2.1, S.2.2.1 ++ [(x, z, w)], nof, nof)) elen eT (Fok.empty hz2) (fun c hc => (hl c hc).1) (fun ab2 tr2 rt2 hab hrow => ?_)
      unfold wp_X6_addTerm
      rw [hM.1, hM.2.1]
      refine isSet_y z2 hx (b1' (isSet_y z2 hzz (b1' (isSet_y (by omega) hw (b1' ⟨fun c => absurd e4 c, fun _ => ⟨fun _ => ?_, fun c => absurd c e5⟩⟩)))))
      rw [hM.2.2.1]
      refine ne_br (by omega) (by decide) (fun _ => ?_) (fun c => by omega)
      refine sp_save hH.2.2.1 hH.2.1 hM hF.len (fun ps2 hps => ⟨ixv (by omega) (by decide), ixv (by omega) (by decide), ixv (by omega) (by decide), sp_noFolds ⟨?_, (S.1, S.2.1, S.2.2.1 ++ [(x, z, w)], nof, nof), push5 L S, Fok.empty hz2, ⟨⟨rfl, rfl, elen, rfl, eT, hl⟩, hab, hrow⟩, ?_, ⟨hH2, hps, rfl, push_ok hH.2.2.2 hF⟩, Or.inl rfl, hd, hE⟩⟩)
      · rw [nI_1, nI_pred]
      · rw [ixc (by omega), ixc (by omega), ixc (by omega)]
        refine ⟨?_, ?_, ?_, fun s q hq => ?_, fun c hc => ?_⟩
        · show nf _ 0 = nI S.1
          unfold nf
          rw [if_neg (by omega), pk_un (by omega), pk_un (by omega), pk_un (by omega), pk_un (by omega)]
          exact hM.1
        · show nf _ 1 = nI S.2.1
          unfold nf
          rw [if_neg (by omega), pk_un (by omega), pk_un (by omega), pk_un (by omega), pk_un (by omega)]
          exact hM.2.1
        · show nf _ 2 = nI (S.2.2.1 ++ [(x, z, w)]).length
          unfold nf
          rw [if_neg (by omega), pk_us, pk_un (by omega), pk_un (by omega), pk_un (by omega), hM.2.2.1]
          exact elen
        · have hq : (S.2.2.1 ++ [(x, z, w)])[s]? = some q := hq
          have hs := lt_of_get hq
          rw [tt_len] at hs
          unfold nf
          rcases get_app hq with ⟨c, g⟩ | ⟨rfl, rfl⟩
          · obtain ⟨m1, m2, m3⟩ := hM.2.2.2.1 s q g
            refine ⟨?_, ?_, ?_⟩
            · rw [if_neg (by omega), pk_un (by omega), pk_un (by omega), pk_un (by omega), pk_un (by omega)]
              exact m1
            · rw [if_neg (by omega), pk_un (by omega), pk_un (by omega), pk_un (by omega), pk_un (by omega)]
              exact m2
            · rw [if_neg (by omega), pk_un (by omega), pk_un (by omega), pk_un (by omega), pk_un (by omega)]
              exact m3
          · refine ⟨?_, ?_, ?_⟩
            · rw [if_neg (by omega), pk_un (by omega), pk_un (by omega), pk_un (by omega), pk_us]
            · rw [if_neg (by omega), pk_un (by omega), pk_un (by omega), pk_us]
            · rw [if_neg (by omega), pk_un (by omega), pk_us]
        · unfold nf
          rw [if_pos (by omega), if_pos (by omega)]
          exact ⟨rfl, rfl⟩
    · refine sp_fail (by decide) er_5 ?_
      unfold wp_X6_addTerm
      rw [hM.1, hM.2.1]
      refine isSet_y z2 hx (b1' (isSet_y z2 hzz (b1' (isSet_y (by omega) hw (b1' ⟨fun c => absurd e4 c, fun _ => ⟨fun _ => ?_, fun c => absurd c e5⟩⟩)))))
      rw [hM.2.2.1]
      refine ne_br (by omega) (by decide) (fun c => by omega) (fun _ => sp_error (by decide) er_5 ⟨rfl, ?_⟩)
      rw [← k1, ← k2, ← k3]
      exact h0.err 3 (by decide)
  · rw [k1, k2]
    refine takes_n z1 z2 z3 z4 hno (b0 (sp_fail (by decide) er_2 ?_))
    have fin : ∀ {K : Int32 → (Nat → Int32) → Prop}, K (-2) (upd er2 0 (er2 0 + 1)) → wp_X6_error (-2 : Int32) er2 K := fun q => sp_error (by decide) er_2 q
    have fi2 : (-2 : Int32) = -2 ∧ Rel (upd er 0 (er 0 + 1)) (nI S.1) (nI S.2.1) tc fc on ze ou wd lo up hc sv ab tr rt kn ct bu bl d0 nw ps (upd er2 0 (er2 0 + 1)) st := ⟨rfl, by rw [← k1, ← k2]; exact h0.err 0 (by decide)⟩
    unfold wp_X6_addTerm
    rw [hM.1, hM.2.1]
    rcases Classical.em (∃ x, x < 2 ^ S.1 ∧ a1 = nI x) with ⟨x, hx, rfl⟩ | c1
    · refine isSet_y z2 hx (b1' ?_)
      rcases Classical.em (∃ x, x < 2 ^ S.1 ∧ a2 = nI x) with ⟨z, hzz, rfl⟩ | c2
      · refine isSet_y z2 hzz (b1' ?_)
        rcases Classical.em (∃ x, x < 2 ^ S.2.1 ∧ a3 = nI x) with ⟨w, hw, rfl⟩ | c3
        · refine isSet_y (by omega) hw (b1' ⟨fun _ => fin fi2, fun e4 => ⟨fun e5 => absurd ?_ hno, fun _ => fin fi2⟩⟩)
          have p1 := pow31 z2
          rw [nI_and] at e4
          have hlt : x &&& z < 2 ^ 31 := Nat.lt_of_le_of_lt Nat.and_le_left (by omega)
          refine ⟨x, z, w, hx, hzz, hw, (nI_eq (b := 0) hlt (by decide)).mp e4, fun e => e5 ?_, rfl, rfl, rfl⟩
          rw [e]
          rfl
        · exact isSet_n (by omega) c3 (b0' (fin fi2))
      · exact isSet_n z2 c2 (b0' (fin fi2))
    · exact isSet_n z2 c1 (b0' (fin fi2))
theorem m_removeTerm {a1 : Int32} {sa : Nat → Nat → Nat} (h : Rel er inp otp tc fc on ze ou wd lo up hc sv ab tr rt kn ct bu bl d0 nw ps er2 st) : wp_X5_removeTerm a1 er inp otp tc fc on ze ou wd lo up hc sa sv ab tr rt kn (fun r er' tc' fc' on' ze' ou' wd' lo' up' hc' _ sv' ab' tr' rt' kn' => wp_X6_removeTerm a1 nw ps er2 st (fun r2 nw' ps' er2' st' => r = r2 ∧ Rel er' inp otp tc' fc' on' ze' ou' wd' lo' up' hc' sv' ab' tr' rt' kn' ct bu bl d0 nw' ps' er2' st')) := by
  have h0 := h
  obtain ⟨S, L, hF, hC, hM, hH, hB, hd, hE⟩ := h
  unfold wp_X5_removeTerm
  rcases Classical.em (∃ k, k < S.2.2.1.length ∧ a1 = nI k) with ⟨t, ht, rfl⟩ | hno
  · refine hasTerm_y hC.1.2.2.1 hF.len ht (b1 (sp_push hH.1 hC.1 hF.len (fun hc2 sa2 sv2 hH2 => ?_)))
    refine sp_dropTerm hC.1.2.2.1 hC.1.T hF.len ht (fun on2 ze2 ou2 wd2 lo2 up2 hT hlu => ?_)
    have hF2 : Fok (S.1, S.2.1, S.2.2.1.eraseIdx t, nof, nof) := Fok.empty (size_erase hF.1)
    refine sp_termsChanged (S := (S.1, S.2.1, S.2.2.1.eraseIdx t, nof, nof)) rfl hT hF2 (fun c hc => (hlu c hc).1) (fun ab2 tr2 rt2 hab hrow => ?_)
    unfold wp_X6_removeTerm
    refine isTerm_y hM hF.len ht (b1 (sp_save hH.2.2.1 hH.2.1 hM hF.len (fun ps2 hps => sp_drop hM hF.len ht (fun nw2 hM2 => ⟨hM2.2.2.1.symm, _, push5 L S, hF2, ⟨⟨hC.1.1, hC.1.2.1, rfl, rfl, hT, hlu⟩, hab, hrow⟩, hM2, ⟨hH2, hps, rfl, push_ok hH.2.2.2 hF⟩, Or.inl rfl, hd, hE⟩))))
  · refine hasTerm_n hC.1.2.2.1 hF.len hno (b0 (sp_fail (by decide) er_2 ?_))
    unfold wp_X6_removeTerm
    exact isTerm_n hM hF.len hno (b0 (sp_error (by decide) er_2 ⟨rfl, h0.err 0 (by decide)⟩))
theorem m_terms (h : Rel er inp otp tc fc on ze ou wd lo up hc sv ab tr rt kn ct bu bl d0 nw ps er2 st) : wp_X5_terms tc (fun r => wp_X6_terms nw (fun r2 => r = r2 ∧ Rel er inp otp tc fc on ze ou wd lo up hc sv ab tr rt kn ct bu bl d0 nw ps er2 st)) := by
  have h0 := h
  obtain ⟨S, L, hF, hC, hM, hH, hB, hd, hE⟩ := h
  exact ⟨hC.1.2.2.1.trans hM.2.2.1.symm, h0⟩
theorem m_literals {a1 : Int32} (h : Rel er inp otp tc fc on ze ou wd lo up hc sv ab tr rt kn ct bu bl d0 nw ps er2 st) : wp_X5_literals a1 er tc on ze (fun r er' => wp_X6_literals a1 nw er2 (fun r2 er2' => r = r2 ∧ Rel er' inp otp tc fc on ze ou wd lo up hc sv ab tr rt kn ct bu bl d0 nw ps er2' st)) := by
  have h0 := h
  obtain ⟨S, L, hF, hC, hM, hH, hB, hd, hE⟩ := h
  have hl := hF.len
  unfold wp_X5_literals
  rcases Classical.em (∃ k, k < S.2.2.1.length ∧ a1 = nI k) with ⟨t, ht, rfl⟩ | hno
  · obtain ⟨q, hq, hm⟩ := get_of_lt ht
    obtain ⟨g1, g2, g3, g4⟩ := hC.1.T t q hq
    obtain ⟨m1, m2, m3⟩ := hM.2.2.2.1 t q hq
    obtain ⟨b1v, b2v, b3v⟩ := hF.1.2.2.2.2.2 q hm
    have hp6 : 2 ^ S.1 ≤ 2 ^ 6 := Nat.pow_le_pow_right (by decide) hF.1.2.1
    have hor : q.1 ||| q.2.1 < 2 ^ 6 := Nat.or_lt_two_pow (by omega) (by omega)
    refine hasTerm_y hC.1.2.2.1 hl ht (b1 ⟨vp_in_nI (by omega) (by decide), vp_in_nI (by omega) (by decide), ?_⟩)
    rw [nI_clamp (by omega), g1, g2, nI_or]
    refine sp_bitCount (by omega) ?_
    unfold wp_X6_literals
    refine isTerm_y hM hl ht (b1' ⟨ixv (by omega) (by decide), ixv (by omega) (by decide), ?_⟩)
    rw [ixc (by omega), ixc (by omega), m1, m2, nI_or]
    exact sp_many (by omega) ⟨rfl, h0⟩
  · refine hasTerm_n hC.1.2.2.1 hl hno (b0 (sp_fail (by decide) er_2 ?_))
    unfold wp_X6_literals
    exact isTerm_n hM hl hno (b0' (sp_error (by decide) er_2 ⟨rfl, h0.err 0 (by decide)⟩))
theorem m_evaluate {a1 : Int32} (h : Rel er inp otp tc fc on ze ou wd lo up hc sv ab tr rt kn ct bu bl d0 nw ps er2 st) : wp_X5_evaluate a1 er inp tc ou wd (fun r er' => wp_X6_evaluate a1 nw er2 (fun r2 er2' => r = r2 ∧ Rel er' inp otp tc fc on ze ou wd lo up hc sv ab tr rt kn ct bu bl d0 nw ps er2' st)) := by
  have h0 := h
  obtain ⟨S, L, hF, hC, hM, hH, hB, hd, hE⟩ := h
  have p1 := pow31 hF.1.2.1
  unfold wp_X5_evaluate
  rw [hC.1.1, jshl_1 (by have := hF.1.2.1; omega)]
  have bad : (¬ ∃ k, k < 2 ^ S.1 ∧ a1 = nI k) → wp_X5_fail (-2 : Int32) er (fun r er' => wp_X6_evaluate a1 nw er2 (fun r2 er2' => r = r2 ∧ Rel er' (nI S.1) otp tc fc on ze ou wd lo up hc sv ab tr rt kn ct bu bl d0 nw ps er2' st)) := by
    intro hno
    refine sp_fail (by decide) er_2 ?_
    unfold wp_X6_evaluate
    refine sp_words hM hF.1 (sp_in0_n p1 hno (b0' (sp_error (by decide) er_2 ⟨rfl, ?_⟩)))
    rw [← hC.1.1]
    exact h0.err 0 (by decide)
  refine ⟨fun c => bad ?_, fun c => ?_⟩
  · rintro ⟨k, hk, rfl⟩
    exact nI_pos (by omega) c
  · obtain ⟨x, hx, rfl⟩ := nI_of c
    refine lt_br hx (by omega) (fun hlt => ?_) (fun hge => bad ?_)
    · refine sp_outputWord hF.1 hC.1.2.2.1 hC.1.ow hlt ?_
      unfold wp_X6_evaluate
      refine sp_words hM hF.1 (sp_in0_y p1 hlt (b1' (sp_outputs (w := 100) hM hF.1 hx (fun k hk => w_none hk) ⟨rfl, ?_⟩)))
      rw [← hC.1.1]
      exact h0
    · rintro ⟨k, hk, e⟩
      have := (nI_eq hx (by omega)).mp e
      omega
theorem m_onCount {a1 : Int32} (h : Rel er inp otp tc fc on ze ou wd lo up hc sv ab tr rt kn ct bu bl d0 nw ps er2 st) : wp_X5_onCount a1 er otp tc ou wd (fun r er' => wp_X6_onCount a1 nw er2 (fun r2 er2' => r = r2 ∧ Rel er' inp otp tc fc on ze ou wd lo up hc sv ab tr rt kn ct bu bl d0 nw ps er2' st)) := by
  have h0 := h
  obtain ⟨S, L, hF, hC, hM, hH, hB, hd, hE⟩ := h
  have z4 := hF.1.2.2.2.1
  have bad : (¬ ∃ k, k < S.2.1 ∧ a1 = nI k) → wp_X5_fail (-2 : Int32) er (fun r er' => wp_X6_onCount a1 nw er2 (fun r2 er2' => r = r2 ∧ Rel er' inp otp tc fc on ze ou wd lo up hc sv ab tr rt kn ct bu bl d0 nw ps er2' st)) := by
    intro hno
    refine sp_fail (by decide) er_2 ?_
    unfold wp_X6_onCount
    rw [hM.2.1]
    exact sp_in0_n (by omega) hno (b0 (sp_error (by decide) er_2 ⟨rfl, h0.err 0 (by decide)⟩))
  unfold wp_X5_onCount
  refine ⟨fun c => bad ?_, fun c => ?_⟩
  · rintro ⟨k, hk, rfl⟩
    exact nI_pos (by omega) c
  · obtain ⟨x, hx, rfl⟩ := nI_of c
    have e2 := hC.1.2.1
    refine ⟨fun c2 => ?_, fun c2 => bad ?_⟩
    · rw [e2] at c2
      have hlt := (nI_ltI hx (by omega)).mp c2
      refine spC_on hF.1 hC.1.2.2.1 hC.1.ow (by omega) ?_
      unfold wp_X6_onCount
      rw [hM.2.1]
      exact sp_in0_y (by omega) hlt (b1 (spM_on (j := x) (er := er2) (K := fun r2 er2' => nI (onC S x) = r2 ∧ Rel er inp otp tc fc on ze ou wd lo up hc sv ab tr rt kn ct bu bl d0 nw ps er2' st) hM hF.1 (by omega) ⟨rfl, h0⟩))
    · rintro ⟨k, hk, e⟩
      rw [e2] at c2
      have := (nI_eq hx (by omega)).mp e
      exact c2 ((nI_ltI hx (by omega)).mpr (by omega))
theorem m_isRedundant {a1 : Int32} (h : Rel er inp otp tc fc on ze ou wd lo up hc sv ab tr rt kn ct bu bl d0 nw ps er2 st) : wp_X5_isRedundant a1 er otp tc ou wd (fun r er' => wp_X6_isRedundant a1 nw er2 (fun r2 er2' => r = r2 ∧ Rel er' inp otp tc fc on ze ou wd lo up hc sv ab tr rt kn ct bu bl d0 nw ps er2' st)) := by
  have h0 := h
  obtain ⟨S, L, hF, hC, hM, hH, hB, hd, hE⟩ := h
  unfold wp_X5_isRedundant
  rcases Classical.em (∃ k, k < S.2.2.1.length ∧ a1 = nI k) with ⟨t, ht, rfl⟩ | hno
  · refine hasTerm_y hC.1.2.2.1 hF.len ht (b1 (sp_isSpare hF.1 hC.1.2.1 hC.1.2.2.1 hC.1.ow ht (fun r => ?_) (fun r => ?_)))
    · unfold wp_X5_flag wp_X6_isRedundant
      exact b1' (isTerm_y hM hF.len ht (b1 (sp_redundant hM hF.1 ht (fun _ => b1' ⟨rfl, h0⟩) (fun c => absurd r c))))
    · unfold wp_X5_flag wp_X6_isRedundant
      exact b0' (isTerm_y hM hF.len ht (b1 (sp_redundant hM hF.1 ht (fun c => absurd c r) (fun _ => b0' ⟨rfl, h0⟩))))
  · refine hasTerm_n hC.1.2.2.1 hF.len hno (b0 (sp_fail (by decide) er_2 ?_))
    unfold wp_X6_isRedundant
    exact isTerm_n hM hF.len hno (b0 (sp_error (by decide) er_2 ⟨rfl, h0.err 0 (by decide)⟩))
theorem m_removeRedundant {sa : Nat → Nat → Nat} (h : Rel er inp otp tc fc on ze ou wd lo up hc sv ab tr rt kn ct bu bl d0 nw ps er2 st) : wp_X5_removeRedundant inp otp tc fc on ze ou wd lo up hc sa sv ab tr rt kn (fun r tc' fc' on' ze' ou' wd' lo' up' hc' _ sv' ab' tr' rt' kn' => wp_X6_removeRedundant nw ps st (fun r2 nw' ps' st' => r = r2 ∧ Rel er inp otp tc' fc' on' ze' ou' wd' lo' up' hc' sv' ab' tr' rt' kn' ct bu bl d0 nw' ps' er2 st')) := by
  obtain ⟨S, L, hF, hC, hM, hH, hB, hd, hE⟩ := h
  have hl := hF.len
  unfold wp_X5_removeRedundant
  refine sp_push hH.1 hC.1 hF.len (fun hc2 sa2 sv2 hH2 => ?_)
  refine spC_rr hC.1 hF.1 (fun tc2 fc2 on2 ze2 ou2 wd2 lo2 up2 Q hQ hQz hQr => ?_)
  have hlq := hQz.2.2.2.2.1
  have hQF : Fok Q := by
    rcases hQr.2.2.2 with ⟨-, e⟩ | ⟨-, e⟩
    · rw [e]
      exact hF
    · obtain ⟨a, b, c, d⟩ := Q
      dsimp only at e
      subst e
      exact Fok.empty hQz
  refine Jn4.to (fun ab2 tr2 rt2 kn2 => Clo ab2 (DR Q.2.2.1 Q.2.2.2.1) ∧ RowC tr2 rt2 Q.2.2.1.length (DR Q.2.2.1 Q.2.2.2.1) ∧ BK Q kn2 ct bu bl) ⟨fun c => ?_, fun c => ?_⟩ ?_
  · rw [hC.1.2.2.1, hQ.2.2.1] at c
    have c2 := (nI_leI (by omega) (by omega)).mp c
    have e : Q = S := by
      rcases hQr.2.2.2 with ⟨-, e⟩ | ⟨e, -⟩
      · exact e
      · rw [← hQr.2.2.1] at e
        omega
    rw [e]
    exact ⟨hC.2.1, hC.2.2, hB⟩
  · exact sp_termsChanged hQ.2.2.1 hQ.T hQF (fun c hc => (hQ.2.2.2.2.2 c hc).1) (fun ab2 tr2 rt2 hab hrow => ⟨hab, hrow, Or.inl rfl⟩)
  · rintro ab2 tr2 rt2 kn2 ⟨hab, hrow, hbk⟩
    unfold wp_X6_removeRedundant
    refine sp_save hH.2.2.1 hH.2.1 hM hF.len (fun ps2 hps => ?_)
    refine spM_rr hM hF.1 (fun nw2 P hP hPz hPr => ?_)
    have e := hQr.unique hPr
    subst e
    refine ⟨?_, Q, push5 L S, hQF, ⟨hQ, hab, hrow⟩, hP, ⟨hH2, hps, rfl, push_ok hH.2.2.2 hF⟩, hbk, hd, hE⟩
    rw [hC.1.2.2.1, hQ.2.2.1, hM.2.2.1, hP.2.2.1]
theorem m_uses {a1 : Int32} (h : Rel er inp otp tc fc on ze ou wd lo up hc sv ab tr rt kn ct bu bl d0 nw ps er2 st) : wp_X5_uses a1 er inp otp tc on ze ou (fun r er' => wp_X6_uses a1 nw er2 (fun r2 er2' => r = r2 ∧ Rel er' inp otp tc fc on ze ou wd lo up hc sv ab tr rt kn ct bu bl d0 nw ps er2' st)) := by
  have h0 := h
  obtain ⟨S, L, hF, hC, hM, hH, hB, hd, hE⟩ := h
  unfold wp_X5_uses
  rcases Classical.em (∃ k, colE S.1 S.2.1 k ∧ a1 = nI k) with ⟨t, ht, rfl⟩ | hno
  · have h10 := col10 hF.1.2.1 hF.1.2.2.2.1 ht
    refine hasCol_y hC.1.1 hC.1.2.1 hF.1 ht (b1 (sp_termsOfColumn hC.1.2.2.1 hC.1.T hF.1 h10 ?_))
    unfold wp_X6_uses
    exact isCol_y hM hF.1 ht (b1' (sp_usedBy hM hF.1 h10 ⟨rfl, h0⟩))
  · refine hasCol_n hC.1.1 hC.1.2.1 hF.1 hno (b0 (sp_fail (by decide) er_2 ?_))
    unfold wp_X6_uses
    exact isCol_n hM hF.1 hno (b0' (sp_error (by decide) er_2 ⟨rfl, h0.err 0 (by decide)⟩))
theorem m_canFold {a1 a2 : Int32} {us : Nat → Int32} (h : Rel er inp otp tc fc on ze ou wd lo up hc sv ab tr rt kn ct bu bl d0 nw ps er2 st) : wp_X5_canFold a1 a2 er inp otp tc on ze ou (fun r er' => wp_X6_canFold a1 a2 nw er2 us (fun r2 er2' _ => r = r2 ∧ Rel er' inp otp tc fc on ze ou wd lo up hc sv ab tr rt kn ct bu bl d0 nw ps er2' st)) := by
  have h0 := h
  obtain ⟨S, L, hF, hC, hM, hH, hB, hd, hE⟩ := h
  unfold wp_X5_canFold
  rcases Classical.em (∃ k, colE S.1 S.2.1 k ∧ a1 = nI k) with ⟨u, hu, rfl⟩ | hno
  · have u10 := col10 hF.1.2.1 hF.1.2.2.2.1 hu
    refine hasCol_y hC.1.1 hC.1.2.1 hF.1 hu (b1' ?_)
    rcases Classical.em (∃ k, colE S.1 S.2.1 k ∧ a2 = nI k) with ⟨v, hv, rfl⟩ | hno
    · have v10 := col10 hF.1.2.1 hF.1.2.2.2.1 hv
      refine hasCol_y hC.1.1 hC.1.2.1 hF.1 hv (b1 ?_)
      refine sp_isPair hC.1.2.2.1 hC.1.T hF.1 u10 v10 (fun p => ?_) (fun p => ?_)
      · unfold wp_X5_flag wp_X6_canFold
        exact b1' (isCol_y hM hF.1 hu (b1' (isCol_y hM hF.1 hv (b1 (sp_layUsed hM hF.1 (fun us2 hus => sp_fits hM hF.1 u10 v10 hus (fun _ => b1' ⟨rfl, h0⟩) (fun c => absurd (fit_pair.mpr ⟨hu, hv, p⟩) c)))))))
      · unfold wp_X5_flag wp_X6_canFold
        exact b0' (isCol_y hM hF.1 hu (b1' (isCol_y hM hF.1 hv (b1 (sp_layUsed hM hF.1 (fun us2 hus => sp_fits hM hF.1 u10 v10 hus (fun c => absurd (fit_pair.mp c).2.2 p) (fun _ => b0' ⟨rfl, h0⟩)))))))
    · refine hasCol_n hC.1.1 hC.1.2.1 hF.1 hno (b0 (sp_fail (by decide) er_2 ?_))
      unfold wp_X6_canFold
      exact isCol_y hM hF.1 hu (b1' (isCol_n hM hF.1 hno (b0 (sp_error (by decide) er_2 ⟨rfl, h0.err 0 (by decide)⟩))))
  · refine hasCol_n hC.1.1 hC.1.2.1 hF.1 hno (b0' (sp_fail (by decide) er_2 ?_))
    unfold wp_X6_canFold
    exact isCol_n hM hF.1 hno (b0' (sp_error (by decide) er_2 ⟨rfl, h0.err 0 (by decide)⟩))
end RR
