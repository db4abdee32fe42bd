def wp_X2_dropOldest (hc : Int32) (sa : Nat → Nat → Nat) (sv : Nat → SS) (K : Int32 → (Nat → Nat → Nat) → (Nat → SS) → Prop) : Prop :=
 K (nI 4) (rot sa) (rot sv)
abbrev rm_X2_dropOldest : Room := { frames := 0, cells := 0, slots := 0, locals := 0 }
set_option maxHeartbeats 4000000 in
set_option maxRecDepth 100000 in
theorem c_X2_dropOldest (l : Launch) (G : GG) (hd : Nat → Nat) (sz : Nat) (hc : Int32) (sa : Nat → Nat → Nat) (sv : Nat → SS) {K : Int32 → (Nat → Nat → Nat) → (Nat → SS) → Prop} (h : wp_X2_dropOldest hc sa sv K) : CV l yX2_dropOldest wsX2_dropOldest rm_X2_dropOldest G [.ref (hd 0)] (wH G hd hc sa sv) sz (fun u : Int32 × (Nat → Nat → Nat) × (Nat → SS) => wH G hd u.1 u.2.1 u.2.2) (fun u => K u.1 u.2.1 u.2.2) := by
  refine Met.ofW (cc := cX2_dropOldest) (maxL := 3) (ret := none) (by decide) rfl ?_
  intro p e s m args below meth c s₁ B hml hv
  obtain ⟨rfl, hsz, hP, hK, hD0, hZ⟩ := hv
  have hx := B.exec
  have hb := B.bytes
  have hr := B.returns
  have hts := atoms_spec (ws := wsX2_dropOldest) B.pre
  have hown : s.vm.findClass RX2 = some m.cls := findClass_of_methodNamed B.named
  have hlocks := B.notSynchronized
  subst hsz
  have hD := hD0.self (sz := s.heap.size)
  generalize hAe : va_A (wH G hd hc sa sv) s.heap.size = A at hD hZ ⊢
  have hA : ∀ q : Nat, s.heap.size ≤ q → A q := fun q h => by rw [← hAe]; exact Or.inr h
  have hS : va_S A s.heap s.heap [] := va_S.rf
  have hl := lv_entry ([.ref (hd 0)]) (n := 3) (Nat.le_of_ble_eq_true rfl)
  rw [lg_entry_eq]
  generalize (lg_sl ([.ref (hd 0)]) ++ List.replicate (3 - (lg_sl ([.ref (hd 0)])).length) Slot.unset).toArray = ls at hl ⊢
  have hl : lv_has ls 3 [(0, .ref (hd 0))] := hl
  unfold wp_X2_dropOldest at h
  have hinX2 : ∀ w ∈ wsX20, w ∈ wsX2_dropOldest := by decide +kernel
  refine lv_aload_n hx hb dX2_dropOldest_0 rfl (lv_at hl 0 rfl) ?_
  refine va_get (D := G.1) (ci := 2) (v := .ref (hd 1)) (C := RX2) (T := TX2) (N := 2) hx hb hts hinX2 hown hK.1 hP 0 rfl rfl 0 (by decide) (hts (.fieldLink RX2 11 "PlaFolder$History" "saved" "[LPlaFolder$State;") (by decide +kernel)) (fun _ h9 => h9) rfl dX2_dropOldest_1 ?_
  refine lv_iconst (v := (0 : Int32)) hx hb dX2_dropOldest_4 (by decide) ?_
  refine x_aldq hx hb hK hP 1 3 rfl rfl (vin_c (by decide)) (k := 0) (by decide) (a2 := sa 0 0) rfl dX2_dropOldest_5 ?_
  refine lv_astore_n (lv' := [(1, .ref (sa 0 0)), (0, .ref (hd 0))]) hx hb dX2_dropOldest_6 rfl hl (by decide) rfl (fun ls hl => ?_)
  refine lv_iconst (v := (1 : Int32)) hx hb dX2_dropOldest_7 (by decide) ?_
  refine lv_istore_n (lv' := [(2, .int (1 : Int32)), (1, .ref (sa 0 0)), (0, .ref (hd 0))]) hx hb dX2_dropOldest_8 rfl hl (by decide) rfl (fun ls hl => ?_)
  refine lv_iload_n hx hb dX2_dropOldest_9 rfl (lv_at hl 0 rfl) ?_
  refine lv_iconst (v := (nI 5)) hx hb dX2_dropOldest_10 (by decide) ?_
  refine lv_icmp_ge (tgt := 34) hx hb dX2_dropOldest_11 (by decide) (fun c_1 => absurd c_1 (by decide)) (fun _ => ?_)
  refine lv_aload_n hx hb dX2_dropOldest_14 rfl (lv_at hl 2 rfl) ?_
  refine va_get (D := G.1) (ci := 2) (v := .ref (hd 1)) (C := RX2) (T := TX2) (N := 2) hx hb hts hinX2 hown hK.1 hP 0 rfl rfl 0 (by decide) (hts (.fieldLink RX2 11 "PlaFolder$History" "saved" "[LPlaFolder$State;") (by decide +kernel)) (fun _ h9 => h9) rfl dX2_dropOldest_15 ?_
  refine lv_iload_n hx hb dX2_dropOldest_18 rfl (lv_at hl 0 rfl) ?_
  refine lv_iconst (v := (1 : Int32)) hx hb dX2_dropOldest_19 (by decide) ?_
  refine lv_isub hx hb dX2_dropOldest_20 ?_
  refine W.eq (g2 := F0 m 21 ls (.int (0 : Int32) :: .ref (hd 1) :: [])) rfl ?_
  refine lv_aload_n hx hb dX2_dropOldest_21 rfl (lv_at hl 2 rfl) ?_
  refine va_get (D := G.1) (ci := 2) (v := .ref (hd 1)) (C := RX2) (T := TX2) (N := 2) hx hb hts hinX2 hown hK.1 hP 0 rfl rfl 0 (by decide) (hts (.fieldLink RX2 11 "PlaFolder$History" "saved" "[LPlaFolder$State;") (by decide +kernel)) (fun _ h9 => h9) rfl dX2_dropOldest_22 ?_
  refine lv_iload_n hx hb dX2_dropOldest_25 rfl (lv_at hl 0 rfl) ?_
  refine x_aldq hx hb hK hP 1 3 rfl rfl (vin_c (by decide)) (k := 1) (by decide) (a2 := sa 1 0) rfl dX2_dropOldest_26 ?_
  refine x_astq hx hb hK hP hD hS 1 3 9 4 rfl rfl rfl rfl (vin_c (by decide)) (k := 0) (by decide) dX2_dropOldest_27 (fun H locs hP hD hS => ?_)
  refine lv_iinc (v := (nI 2)) (lv' := [(2, .int (nI 2)), (1, .ref (sa 0 0)), (0, .ref (hd 0))]) hx hb dX2_dropOldest_28 hl (k := 0) rfl (by decide) (by decide) rfl (fun ls hl => ?_)
  refine lv_goto (tgt := 9) hx hb dX2_dropOldest_31 (by decide) ?_
  refine lv_iload_n hx hb dX2_dropOldest_9 rfl (lv_at hl 0 rfl) ?_
  refine lv_iconst (v := (nI 5)) hx hb dX2_dropOldest_10 (by decide) ?_
  refine lv_icmp_ge (tgt := 34) hx hb dX2_dropOldest_11 (by decide) (fun c_2 => absurd c_2 (by decide)) (fun _ => ?_)
  refine lv_aload_n hx hb dX2_dropOldest_14 rfl (lv_at hl 2 rfl) ?_
  refine va_get (D := G.1) (ci := 2) (v := .ref (hd 1)) (C := RX2) (T := TX2) (N := 2) hx hb hts hinX2 hown hK.1 hP 0 rfl rfl 0 (by decide) (hts (.fieldLink RX2 11 "PlaFolder$History" "saved" "[LPlaFolder$State;") (by decide +kernel)) (fun _ h9 => h9) rfl dX2_dropOldest_15 ?_
  refine lv_iload_n hx hb dX2_dropOldest_18 rfl (lv_at hl 0 rfl) ?_
  refine lv_iconst (v := (1 : Int32)) hx hb dX2_dropOldest_19 (by decide) ?_
  refine lv_isub hx hb dX2_dropOldest_20 ?_
  refine W.eq (g2 := F0 m 21 ls (.int (1 : Int32) :: .ref (hd 1) :: [])) rfl ?_
  refine lv_aload_n hx hb dX2_dropOldest_21 rfl (lv_at hl 2 rfl) ?_
  refine va_get (D := G.1) (ci := 2) (v := .ref (hd 1)) (C := RX2) (T := TX2) (N := 2) hx hb hts hinX2 hown hK.1 hP 0 rfl rfl 0 (by decide) (hts (.fieldLink RX2 11 "PlaFolder$History" "saved" "[LPlaFolder$State;") (by decide +kernel)) (fun _ h9 => h9) rfl dX2_dropOldest_22 ?_
  refine lv_iload_n hx hb dX2_dropOldest_25 rfl (lv_at hl 0 rfl) ?_
  refine x_aldq hx hb hK hP 1 3 rfl rfl (vin_c (by decide)) (k := 2) (by decide) (a2 := sa 2 0) rfl dX2_dropOldest_26 ?_
  refine x_astq hx hb hK hP hD hS 1 3 16 4 rfl rfl rfl rfl (vin_c (by decide)) (k := 1) (by decide) dX2_dropOldest_27 (fun H locs hP hD hS => ?_)
  refine lv_iinc (v := (nI 3)) (lv' := [(2, .int (nI 3)), (1, .ref (sa 0 0)), (0, .ref (hd 0))]) hx hb dX2_dropOldest_28 hl (k := 0) rfl (by decide) (by decide) rfl (fun ls hl => ?_)
  refine lv_goto (tgt := 9) hx hb dX2_dropOldest_31 (by decide) ?_
  refine lv_iload_n hx hb dX2_dropOldest_9 rfl (lv_at hl 0 rfl) ?_
  refine lv_iconst (v := (nI 5)) hx hb dX2_dropOldest_10 (by decide) ?_
  refine lv_icmp_ge (tgt := 34) hx hb dX2_dropOldest_11 (by decide) (fun c_3 => absurd c_3 (by decide)) (fun _ => ?_)
  refine lv_aload_n hx hb dX2_dropOldest_14 rfl (lv_at hl 2 rfl) ?_
  refine va_get (D := G.1) (ci := 2) (v := .ref (hd 1)) (C := RX2) (T := TX2) (N := 2) hx hb hts hinX2 hown hK.1 hP 0 rfl rfl 0 (by decide) (hts (.fieldLink RX2 11 "PlaFolder$History" "saved" "[LPlaFolder$State;") (by decide +kernel)) (fun _ h9 => h9) rfl dX2_dropOldest_15 ?_
  refine lv_iload_n hx hb dX2_dropOldest_18 rfl (lv_at hl 0 rfl) ?_
  refine lv_iconst (v := (1 : Int32)) hx hb dX2_dropOldest_19 (by decide) ?_
  refine lv_isub hx hb dX2_dropOldest_20 ?_
  refine W.eq (g2 := F0 m 21 ls (.int (nI 2) :: .ref (hd 1) :: [])) rfl ?_
  refine lv_aload_n hx hb dX2_dropOldest_21 rfl (lv_at hl 2 rfl) ?_
  refine va_get (D := G.1) (ci := 2) (v := .ref (hd 1)) (C := RX2) (T := TX2) (N := 2) hx hb hts hinX2 hown hK.1 hP 0 rfl rfl 0 (by decide) (hts (.fieldLink RX2 11 "PlaFolder$History" "saved" "[LPlaFolder$State;") (by decide +kernel)) (fun _ h9 => h9) rfl dX2_dropOldest_22 ?_
  refine lv_iload_n hx hb dX2_dropOldest_25 rfl (lv_at hl 0 rfl) ?_
  refine x_aldq hx hb hK hP 1 3 rfl rfl (vin_c (by decide)) (k := 3) (by decide) (a2 := sa 3 0) rfl dX2_dropOldest_26 ?_
  refine x_astq hx hb hK hP hD hS 1 3 23 4 rfl rfl rfl rfl (vin_c (by decide)) (k := 2) (by decide) dX2_dropOldest_27 (fun H locs hP hD hS => ?_)
  refine lv_iinc (v := (nI 4)) (lv' := [(2, .int (nI 4)), (1, .ref (sa 0 0)), (0, .ref (hd 0))]) hx hb dX2_dropOldest_28 hl (k := 0) rfl (by decide) (by decide) rfl (fun ls hl => ?_)
  refine lv_goto (tgt := 9) hx hb dX2_dropOldest_31 (by decide) ?_
  refine lv_iload_n hx hb dX2_dropOldest_9 rfl (lv_at hl 0 rfl) ?_
  refine lv_iconst (v := (nI 5)) hx hb dX2_dropOldest_10 (by decide) ?_
  refine lv_icmp_ge (tgt := 34) hx hb dX2_dropOldest_11 (by decide) (fun c_4 => absurd c_4 (by decide)) (fun _ => ?_)
  refine lv_aload_n hx hb dX2_dropOldest_14 rfl (lv_at hl 2 rfl) ?_
  refine va_get (D := G.1) (ci := 2) (v := .ref (hd 1)) (C := RX2) (T := TX2) (N := 2) hx hb hts hinX2 hown hK.1 hP 0 rfl rfl 0 (by decide) (hts (.fieldLink RX2 11 "PlaFolder$History" "saved" "[LPlaFolder$State;") (by decide +kernel)) (fun _ h9 => h9) rfl dX2_dropOldest_15 ?_
  refine lv_iload_n hx hb dX2_dropOldest_18 rfl (lv_at hl 0 rfl) ?_
  refine lv_iconst (v := (1 : Int32)) hx hb dX2_dropOldest_19 (by decide) ?_
  refine lv_isub hx hb dX2_dropOldest_20 ?_
  refine W.eq (g2 := F0 m 21 ls (.int (nI 3) :: .ref (hd 1) :: [])) rfl ?_
  refine lv_aload_n hx hb dX2_dropOldest_21 rfl (lv_at hl 2 rfl) ?_
  refine va_get (D := G.1) (ci := 2) (v := .ref (hd 1)) (C := RX2) (T := TX2) (N := 2) hx hb hts hinX2 hown hK.1 hP 0 rfl rfl 0 (by decide) (hts (.fieldLink RX2 11 "PlaFolder$History" "saved" "[LPlaFolder$State;") (by decide +kernel)) (fun _ h9 => h9) rfl dX2_dropOldest_22 ?_
  refine lv_iload_n hx hb dX2_dropOldest_25 rfl (lv_at hl 0 rfl) ?_
  refine x_aldq hx hb hK hP 1 3 rfl rfl (vin_c (by decide)) (k := 4) (by decide) (a2 := sa 4 0) rfl dX2_dropOldest_26 ?_
  refine x_astq hx hb hK hP hD hS 1 3 30 4 rfl rfl rfl rfl (vin_c (by decide)) (k := 3) (by decide) dX2_dropOldest_27 (fun H locs hP hD hS => ?_)
  refine lv_iinc (v := (nI 5)) (lv' := [(2, .int (nI 5)), (1, .ref (sa 0 0)), (0, .ref (hd 0))]) hx hb dX2_dropOldest_28 hl (k := 0) rfl (by decide) (by decide) rfl (fun ls hl => ?_)
  refine lv_goto (tgt := 9) hx hb dX2_dropOldest_31 (by decide) ?_
  refine lv_iload_n hx hb dX2_dropOldest_9 rfl (lv_at hl 0 rfl) ?_
  refine lv_iconst (v := (nI 5)) hx hb dX2_dropOldest_10 (by decide) ?_
  refine lv_icmp_ge (tgt := 34) hx hb dX2_dropOldest_11 (by decide) (fun _ => ?_) (fun c_5 => absurd c_5 (by decide))
  refine lv_aload_n hx hb dX2_dropOldest_34 rfl (lv_at hl 2 rfl) ?_
  refine va_get (D := G.1) (ci := 2) (v := .ref (hd 1)) (C := RX2) (T := TX2) (N := 2) hx hb hts hinX2 hown hK.1 hP 0 rfl rfl 0 (by decide) (hts (.fieldLink RX2 11 "PlaFolder$History" "saved" "[LPlaFolder$State;") (by decide +kernel)) (fun _ h9 => h9) rfl dX2_dropOldest_35 ?_
  refine lv_iconst (v := (nI 4)) hx hb dX2_dropOldest_38 (by decide) ?_
  refine lv_aload_n hx hb dX2_dropOldest_39 rfl (lv_at hl 1 rfl) ?_
  refine x_astq hx hb hK hP hD hS 1 3 2 4 rfl rfl rfl rfl (vin_c (by decide)) (k := 4) (by decide) dX2_dropOldest_40 (fun H locs hP hD hS => ?_)
  have hP : va_P G.1 vwCl (wHr G hd hc sa sv (va_up (va_up (va_up (va_up (va_up (rf5 (sa 0 0) (sa 1 0) (sa 2 0) (sa 3 0) (sa 4 0)) 0 (some (sa 1 0))) 1 (some (sa 2 0))) 2 (some (sa 3 0))) 3 (some (sa 4 0))) 4 (some (sa 0 0)))) H := hP
  have hD : va_D A (wHr G hd hc sa sv (va_up (va_up (va_up (va_up (va_up (rf5 (sa 0 0) (sa 1 0) (sa 2 0) (sa 3 0) (sa 4 0)) 0 (some (sa 1 0))) 1 (some (sa 2 0))) 2 (some (sa 3 0))) 3 (some (sa 4 0))) 4 (some (sa 0 0)))) := hD
  rw [rf5_rot] at hP hD
  have hP : va_P G.1 vwCl (wH G hd hc (rot sa) (rot sv)) H := hP.sub [0, 1, 9, 10, 11, 12, 13, 14, 15, 16, 17, 18, 19, 20, 21, 22, 23, 24, 25, 26, 27, 28, 29, 30, 31, 32, 33, 34, 35, 36, 2, 3, 4, 5, 6, 7, 8] rfl
  have hD : va_D A (wH G hd hc (rot sa) (rot sv)) := hD.sub [0, 1, 9, 10, 11, 12, 13, 14, 15, 16, 17, 18, 19, 20, 21, 22, 23, 24, 25, 26, 27, 28, 29, 30, 31, 32, 33, 34, 35, 36, 2, 3, 4, 5, 6, 7, 8] (by decide) rfl
  refine lv_aload_n hx hb dX2_dropOldest_41 rfl (lv_at hl 2 rfl) ?_
  refine lv_iconst (v := (nI 4)) hx hb dX2_dropOldest_42 (by decide) ?_
  refine va_put (D := G.1) (ci := 2) (v := .int (nI 4)) (ty := .int) (C := RX2) (T := TX2) (N := 2) hx hb hts hinX2 tyX2 tyX2_ok nmX2 hown hK.1 hP hD hS 0 rfl rfl 1 (by decide) (hts (.fieldLink RX2 17 "PlaFolder$History" "count" "I") (by decide +kernel)) (fun _ h9 => h9) rfl (by decide +kernel) rfl rfl (Nat.le_of_ble_eq_true rfl) dX2_dropOldest_43 (fun H locs hP hD hS => ?_)
  have hP : va_P G.1 vwCl (wH G hd (nI 4) (rot sa) (rot sv)) H := hP
  have hD : va_D A (wH G hd (nI 4) (rot sa) (rot sv)) := hD
  exact W.vret hx hb hr (fun t ht hW => ⟨⟨((nI 4), (rot sa), (rot sv)), rfl, h, by rw [ht]; exact hP, hD⟩, hS.F ht⟩) hS.2.2 dX2_dropOldest_46
def wp_X2_push (hc : Int32) (sa : Nat → Nat → Nat) (sv : Nat → SS) (inp : Int32) (otp : Int32) (tc : Int32) (fc : Int32) (on : Nat → Int32) (ze : Nat → Int32) (ou : Nat → Int32) (wd : Nat → Int64) (lo : Nat → Int32) (up : Nat → Int32) (K : Int32 → (Nat → Nat → Nat) → (Nat → SS) → Prop) : Prop :=
 (Jn3 (fun (z2 : Int32) (z3 : Nat → Nat → Nat) (z4 : Nat → SS) => (vp_in z2 5 ∧ (z2 = (0 : Int32) → wp_X4_copyFrom ((z4 0).1) ((z4 0).2.1) ((z4 0).2.2.1) ((z4 0).2.2.2.1) ((z4 0).2.2.2.2.1) ((z4 0).2.2.2.2.2.1) ((z4 0).2.2.2.2.2.2.1) ((z4 0).2.2.2.2.2.2.2.1) ((z4 0).2.2.2.2.2.2.2.2.1) ((z4 0).2.2.2.2.2.2.2.2.2) inp otp tc fc on ze ou wd lo up (fun (u10 : Int32) (u11 : Int32) (u12 : Int32) (u13 : Int32) (u14 : Nat → Int32) (u15 : Nat → Int32) (u16 : Nat → Int32) (u17 : Nat → Int64) (u18 : Nat → Int32) (u19 : Nat → Int32) => K (z2 + (1 : Int32)) z3 (va_up z4 0 (u10, u11, u12, u13, u14, u15, u16, u17, u18, u19)))) ∧ (z2 = (1 : Int32) → wp_X4_copyFrom ((z4 1).1) ((z4 1).2.1) ((z4 1).2.2.1) ((z4 1).2.2.2.1) ((z4 1).2.2.2.2.1) ((z4 1).2.2.2.2.2.1) ((z4 1).2.2.2.2.2.2.1) ((z4 1).2.2.2.2.2.2.2.1) ((z4 1).2.2.2.2.2.2.2.2.1) ((z4 1).2.2.2.2.2.2.2.2.2) inp otp tc fc on ze ou wd lo up (fun (u22 : Int32) (u23 : Int32) (u24 : Int32) (u25 : Int32) (u26 : Nat → Int32) (u27 : Nat → Int32) (u28 : Nat → Int32) (u29 : Nat → Int64) (u30 : Nat → Int32) (u31 : Nat → Int32) => K (z2 + (1 : Int32)) z3 (va_up z4 1 (u22, u23, u24, u25, u26, u27, u28, u29, u30, u31)))) ∧ (z2 = (2 : Int32) → wp_X4_copyFrom ((z4 2).1) ((z4 2).2.1) ((z4 2).2.2.1) ((z4 2).2.2.2.1) ((z4 2).2.2.2.2.1) ((z4 2).2.2.2.2.2.1) ((z4 2).2.2.2.2.2.2.1) ((z4 2).2.2.2.2.2.2.2.1) ((z4 2).2.2.2.2.2.2.2.2.1) ((z4 2).2.2.2.2.2.2.2.2.2) inp otp tc fc on ze ou wd lo up (fun (u34 : Int32) (u35 : Int32) (u36 : Int32) (u37 : Int32) (u38 : Nat → Int32) (u39 : Nat → Int32) (u40 : Nat → Int32) (u41 : Nat → Int64) (u42 : Nat → Int32) (u43 : Nat → Int32) => K (z2 + (1 : Int32)) z3 (va_up z4 2 (u34, u35, u36, u37, u38, u39, u40, u41, u42, u43)))) ∧ (z2 = (3 : Int32) → wp_X4_copyFrom ((z4 3).1) ((z4 3).2.1) ((z4 3).2.2.1) ((z4 3).2.2.2.1) ((z4 3).2.2.2.2.1) ((z4 3).2.2.2.2.2.1) ((z4 3).2.2.2.2.2.2.1) ((z4 3).2.2.2.2.2.2.2.1) ((z4 3).2.2.2.2.2.2.2.2.1) ((z4 3).2.2.2.2.2.2.2.2.2) inp otp tc fc on ze ou wd lo up (fun (u46 : Int32) (u47 : Int32) (u48 : Int32) (u49 : Int32) (u50 : Nat → Int32) (u51 : Nat → Int32) (u52 : Nat → Int32) (u53 : Nat → Int64) (u54 : Nat → Int32) (u55 : Nat → Int32) => K (z2 + (1 : Int32)) z3 (va_up z4 3 (u46, u47, u48, u49, u50, u51, u52, u53, u54, u55)))) ∧ (z2 = (4 : Int32) → wp_X4_copyFrom ((z4 4).1) ((z4 4).2.1) ((z4 4).2.2.1) ((z4 4).2.2.2.1) ((z4 4).2.2.2.2.1) ((z4 4).2.2.2.2.2.1) ((z4 4).2.2.2.2.2.2.1) ((z4 4).2.2.2.2.2.2.2.1) ((z4 4).2.2.2.2.2.2.2.2.1) ((z4 4).2.2.2.2.2.2.2.2.2) inp otp tc fc on ze ou wd lo up (fun (u58 : Int32) (u59 : Int32) (u60 : Int32) (u61 : Int32) (u62 : Nat → Int32) (u63 : Nat → Int32) (u64 : Nat → Int32) (u65 : Nat → Int64) (u66 : Nat → Int32) (u67 : Nat → Int32) => K (z2 + (1 : Int32)) z3 (va_up z4 4 (u58, u59, u60, u61, u62, u63, u64, u65, u66, u67))))))
 (fun (J5 : Int32 → (Nat → Nat → Nat) → (Nat → SS) → Prop) => ((hc < (nI 5) → J5 hc sa sv) ∧
 (¬ (hc < (nI 5)) → wp_X2_dropOldest hc sa sv (fun (u70 : Int32) (u71 : Nat → Nat → Nat) (u72 : Nat → SS) => J5 u70 u71 u72)))))
abbrev rm_X2_push : Room := { frames := 2, cells := 0, slots := 0, locals := 81 }
set_option maxHeartbeats 4000000 in
set_option maxRecDepth 100000 in
theorem c_X2_push (l : Launch) (G : GG) (hd : Nat → Nat) (sd : Nat → Nat) (sz : Nat) (hc : Int32) (sa : Nat → Nat → Nat) (sv : Nat → SS) (inp : Int32) (otp : Int32) (tc : Int32) (fc : Int32) (on : Nat → Int32) (ze : Nat → Int32) (ou : Nat → Int32) (wd : Nat → Int64) (lo : Nat → Int32) (up : Nat → Int32) {K : Int32 → (Nat → Nat → Nat) → (Nat → SS) → Prop} (h : wp_X2_push hc sa sv inp otp tc fc on ze ou wd lo up K) : CV l yX2_push wsX2_push rm_X2_push G [.ref (hd 0), .ref (sd 0)] (wH G hd hc sa sv ++ (wS G sd inp otp tc fc on ze ou wd lo up)) sz (fun u : Int32 × (Nat → Nat → Nat) × (Nat → SS) => wH G hd u.1 u.2.1 u.2.2 ++ (wS G sd inp otp tc fc on ze ou wd lo up)) (fun u => K u.1 u.2.1 u.2.2) := by
  refine Met.ofW (cc := cX2_push) (maxL := 2) (ret := none) (by decide) rfl ?_
  intro p e s m args below meth c s₁ B hml hv
  obtain ⟨rfl, hsz, hP, hK, hD0, hZ⟩ := hv
  have hx := B.exec
  have hb := B.bytes
  have hr := B.returns
  have hts := atoms_spec (ws := wsX2_push) B.pre
  have hown : s.vm.findClass RX2 = some m.cls := findClass_of_methodNamed B.named
  have hlocks := B.notSynchronized
  subst hsz
  have hD := hD0.self (sz := s.heap.size)
  generalize hAe : va_A (wH G hd hc sa sv ++ (wS G sd inp otp tc fc on ze ou wd lo up)) s.heap.size = A at hD hZ ⊢
  have hA : ∀ q : Nat, s.heap.size ≤ q → A q := fun q h => by rw [← hAe]; exact Or.inr h
  have hS : va_S A s.heap s.heap [] := va_S.rf
  have hl := lv_entry ([.ref (hd 0), .ref (sd 0)]) (n := 2) (Nat.le_of_ble_eq_true rfl)
  rw [lg_entry_eq]
  generalize (lg_sl ([.ref (hd 0), .ref (sd 0)]) ++ List.replicate (2 - (lg_sl ([.ref (hd 0), .ref (sd 0)])).length) Slot.unset).toArray = ls at hl ⊢
  have hl : lv_has ls 2 [(0, .ref (hd 0)), (1, .ref (sd 0))] := hl
  unfold wp_X2_push at h
  have hinX2 : ∀ w ∈ wsX20, w ∈ wsX2_push := by decide +kernel
  refine lv_aload_n hx hb dX2_push_0 rfl (lv_at hl 0 rfl) ?_
  refine va_get (D := G.1) (ci := 2) (v := .int hc) (C := RX2) (T := TX2) (N := 2) hx hb hts hinX2 hown hK.1 hP.l 0 rfl rfl 1 (by decide) (hts (.fieldLink RX2 17 "PlaFolder$History" "count" "I") (by decide +kernel)) (fun _ h9 => h9) rfl dX2_push_1 ?_
  refine lv_iconst (v := (nI 5)) hx hb dX2_push_4 (by decide) ?_
  obtain ⟨J5, hJ74, h⟩ := h
  refine joinW (σ := Int32 × (Nat → Nat → Nat) × (Nat → SS)) (J := fun q => J5 q.1 q.2.1 q.2.2) (pc := 12) (st := fun q => []) (P := fun q H locs ls => va_P G.1 vwCl (wH G hd q.1 q.2.1 q.2.2 ++ (wS G sd inp otp tc fc on ze ou wd lo up)) H ∧ va_D A (wH G hd q.1 q.2.1 q.2.2 ++ (wS G sd inp otp tc fc on ze ou wd lo up)) ∧ va_S A s.heap H locs ∧ lv_has ls 2 [(0, .ref (hd 0)), (1, .ref (sd 0))]) ?_ (fun join6 => ?_)
  · rintro ⟨z2, z3, z4⟩ h H locs ls ⟨hP, hD, hS, hl⟩
    have hP : va_P G.1 vwCl (wH G hd z2 z3 z4 ++ (wS G sd inp otp tc fc on ze ou wd lo up)) H := hP
    have hD : va_D A (wH G hd z2 z3 z4 ++ (wS G sd inp otp tc fc on ze ou wd lo up)) := hD
    have hl : lv_has ls 2 [(0, .ref (hd 0)), (1, .ref (sd 0))] := hl
    have h := hJ74 z2 z3 z4 h
    refine W.eq (g2 := F0 m 12 ls ([])) rfl ?_
    refine lv_aload_n hx hb dX2_push_12 rfl (lv_at hl 0 rfl) ?_
    refine va_get (D := G.1) (ci := 2) (v := .ref (hd 1)) (C := RX2) (T := TX2) (N := 2) hx hb hts hinX2 hown hK.1 hP.l 0 rfl rfl 0 (by decide) (hts (.fieldLink RX2 11 "PlaFolder$History" "saved" "[LPlaFolder$State;") (by decide +kernel)) (fun _ h9 => h9) rfl dX2_push_13 ?_
    refine lv_aload_n hx hb dX2_push_16 rfl (lv_at hl 0 rfl) ?_
    refine va_get (D := G.1) (ci := 2) (v := .int z2) (C := RX2) (T := TX2) (N := 2) hx hb hts hinX2 hown hK.1 hP.l 0 rfl rfl 1 (by decide) (hts (.fieldLink RX2 17 "PlaFolder$History" "count" "I") (by decide +kernel)) (fun _ h9 => h9) rfl dX2_push_17 ?_
    obtain ⟨hi7, h⟩ := h
    obtain e8 | e8 | e8 | e8 | e8 := vin5 hi7
    · have h := h.1 e8
      refine x_aldq hx hb hK hP.l 1 3 rfl rfl hi7 (k := 0) (by rw [e8]; decide) (a2 := z3 0 0) rfl dX2_push_20 ?_
      refine lv_aload_n hx hb dX2_push_21 rfl (lv_at hl 1 rfl) ?_
      refine kp_v (wr := wH0 G hd z2 z3 ++ (wSS G (z3 1) (z4 1) ++ (wSS G (z3 2) (z4 2) ++ (wSS G (z3 3) (z4 3) ++ (wSS G (z3 4) (z4 4)))))) (va_runVN (As := [.ref (sd 0)]) (rest := []) ⟨hx, hb, hml, hown, hts⟩ (c_X4_copyFrom l G (z3 0) sd _ ((z4 0).1) ((z4 0).2.1) ((z4 0).2.2.1) ((z4 0).2.2.2.1) ((z4 0).2.2.2.2.1) ((z4 0).2.2.2.2.2.1) ((z4 0).2.2.2.2.2.2.1) ((z4 0).2.2.2.2.2.2.2.1) ((z4 0).2.2.2.2.2.2.2.2.1) ((z4 0).2.2.2.2.2.2.2.2.2) inp otp tc fc on ze ou wd lo up  h) ⟨va_cnB 1 hts gX2_push_X4_copyFrom_n25 rfl rfl rfl (hK.2.M 8 (q := ("PlaFolder$History", 25, ⟨"PlaFolder$State", "copyFrom", "(LPlaFolder$State;)V"⟩, "PlaFolder")) rfl) (hts (.initialized RX4) (by decide +kernel)) (by decide +kernel) ⟨Nat.le_of_ble_eq_true rfl, Nat.le_of_ble_eq_true rfl⟩, hts (.instanceMethod yX4_copyFrom) (by decide +kernel), hts (.selects RX4 yX4_copyFrom yX4_copyFrom) (by decide +kernel)⟩ (kpVp hK hP hD hZ hS hA (pm7_02345_16 (wH0 G hd z2 z3) (wSS G (z3 0) (z4 0)) (wSS G (z3 1) (z4 1)) (wSS G (z3 2) (z4 2)) (wSS G (z3 3) (z4 3)) (wSS G (z3 4) (z4 4)) (wS G sd inp otp tc fc on ze ou wd lo up)) (q0 := 0) (ci := 4) rfl rfl) rfl rfl hl.1 rfl (lv_room (Nat.le_of_ble_eq_true rfl)) dX2_push_22 ⟨Nat.zero_le _, Nat.zero_le _⟩) hP hD hS hA (pm7_02345_16 (wH0 G hd z2 z3) (wSS G (z3 0) (z4 0)) (wSS G (z3 1) (z4 1)) (wSS G (z3 2) (z4 2)) (wSS G (z3 3) (z4 3)) (wSS G (z3 4) (z4 4)) (wS G sd inp otp tc fc on ze ou wd lo up)) (fun w20 H locs h hP hD hS => ?_)
      obtain ⟨u10, u11, u12, u13, u14, u15, u16, u17, u18, u19⟩ := w20
      have hP : va_P G.1 vwCl (wH G hd z2 z3 (va_up z4 0 (u10, u11, u12, u13, u14, u15, u16, u17, u18, u19)) ++ (wS G sd inp otp tc fc on ze ou wd lo up)) H := hP.perm (pm7_02345_16 (wH0 G hd z2 z3) (wSS G (z3 0) ((va_up z4 0 (u10, u11, u12, u13, u14, u15, u16, u17, u18, u19)) 0)) (wSS G (z3 1) ((va_up z4 0 (u10, u11, u12, u13, u14, u15, u16, u17, u18, u19)) 1)) (wSS G (z3 2) ((va_up z4 0 (u10, u11, u12, u13, u14, u15, u16, u17, u18, u19)) 2)) (wSS G (z3 3) ((va_up z4 0 (u10, u11, u12, u13, u14, u15, u16, u17, u18, u19)) 3)) (wSS G (z3 4) ((va_up z4 0 (u10, u11, u12, u13, u14, u15, u16, u17, u18, u19)) 4)) (wS G sd inp otp tc fc on ze ou wd lo up)).symm
      have hD : va_D A (wH G hd z2 z3 (va_up z4 0 (u10, u11, u12, u13, u14, u15, u16, u17, u18, u19)) ++ (wS G sd inp otp tc fc on ze ou wd lo up)) := hD.perm (pm7_02345_16 (wH0 G hd z2 z3) (wSS G (z3 0) ((va_up z4 0 (u10, u11, u12, u13, u14, u15, u16, u17, u18, u19)) 0)) (wSS G (z3 1) ((va_up z4 0 (u10, u11, u12, u13, u14, u15, u16, u17, u18, u19)) 1)) (wSS G (z3 2) ((va_up z4 0 (u10, u11, u12, u13, u14, u15, u16, u17, u18, u19)) 2)) (wSS G (z3 3) ((va_up z4 0 (u10, u11, u12, u13, u14, u15, u16, u17, u18, u19)) 3)) (wSS G (z3 4) ((va_up z4 0 (u10, u11, u12, u13, u14, u15, u16, u17, u18, u19)) 4)) (wS G sd inp otp tc fc on ze ou wd lo up)).symm
      try dsimp only at h
      refine lv_aload_n hx hb dX2_push_25 rfl (lv_at hl 0 rfl) ?_
      refine lv_dup hx hb dX2_push_26 rfl ?_
      refine va_get (D := G.1) (ci := 2) (v := .int z2) (C := RX2) (T := TX2) (N := 2) hx hb hts hinX2 hown hK.1 hP.l 0 rfl rfl 1 (by decide) (hts (.fieldLink RX2 17 "PlaFolder$History" "count" "I") (by decide +kernel)) (fun _ h9 => h9) rfl dX2_push_27 ?_
      refine lv_iconst (v := (1 : Int32)) hx hb dX2_push_30 (by decide) ?_
      refine lv_iadd hx hb dX2_push_31 ?_
      refine va_put (D := G.1) (ci := 2) (v := .int (z2 + (1 : Int32))) (ty := .int) (C := RX2) (T := TX2) (N := 2) hx hb hts hinX2 tyX2 tyX2_ok nmX2 hown hK.1 hP hD hS 0 rfl rfl 1 (by decide) (hts (.fieldLink RX2 17 "PlaFolder$History" "count" "I") (by decide +kernel)) (fun _ h9 => h9) rfl (by decide +kernel) rfl rfl (Nat.le_of_ble_eq_true rfl) dX2_push_32 (fun H locs hP hD hS => ?_)
      have hP : va_P G.1 vwCl (wH G hd (z2 + (1 : Int32)) z3 (va_up z4 0 (u10, u11, u12, u13, u14, u15, u16, u17, u18, u19)) ++ (wS G sd inp otp tc fc on ze ou wd lo up)) H := hP
      have hD : va_D A (wH G hd (z2 + (1 : Int32)) z3 (va_up z4 0 (u10, u11, u12, u13, u14, u15, u16, u17, u18, u19)) ++ (wS G sd inp otp tc fc on ze ou wd lo up)) := hD
      exact W.vret hx hb hr (fun t ht hW => ⟨⟨((z2 + (1 : Int32)), z3, (va_up z4 0 (u10, u11, u12, u13, u14, u15, u16, u17, u18, u19))), rfl, h, by rw [ht]; exact hP, hD⟩, hS.F ht⟩) hS.2.2 dX2_push_35
    · have h := h.2.1 e8
      refine x_aldq hx hb hK hP.l 1 3 rfl rfl hi7 (k := 1) (by rw [e8]; decide) (a2 := z3 1 0) rfl dX2_push_20 ?_
      refine lv_aload_n hx hb dX2_push_21 rfl (lv_at hl 1 rfl) ?_
      refine kp_v (wr := wH0 G hd z2 z3 ++ (wSS G (z3 0) (z4 0) ++ (wSS G (z3 2) (z4 2) ++ (wSS G (z3 3) (z4 3) ++ (wSS G (z3 4) (z4 4)))))) (va_runVN (As := [.ref (sd 0)]) (rest := []) ⟨hx, hb, hml, hown, hts⟩ (c_X4_copyFrom l G (z3 1) sd _ ((z4 1).1) ((z4 1).2.1) ((z4 1).2.2.1) ((z4 1).2.2.2.1) ((z4 1).2.2.2.2.1) ((z4 1).2.2.2.2.2.1) ((z4 1).2.2.2.2.2.2.1) ((z4 1).2.2.2.2.2.2.2.1) ((z4 1).2.2.2.2.2.2.2.2.1) ((z4 1).2.2.2.2.2.2.2.2.2) inp otp tc fc on ze ou wd lo up  h) ⟨va_cnB 1 hts gX2_push_X4_copyFrom_n25 rfl rfl rfl (hK.2.M 8 (q := ("PlaFolder$History", 25, ⟨"PlaFolder$State", "copyFrom", "(LPlaFolder$State;)V"⟩, "PlaFolder")) rfl) (hts (.initialized RX4) (by decide +kernel)) (by decide +kernel) ⟨Nat.le_of_ble_eq_true rfl, Nat.le_of_ble_eq_true rfl⟩, hts (.instanceMethod yX4_copyFrom) (by decide +kernel), hts (.selects RX4 yX4_copyFrom yX4_copyFrom) (by decide +kernel)⟩ (kpVp hK hP hD hZ hS hA (pm7_01345_26 (wH0 G hd z2 z3) (wSS G (z3 0) (z4 0)) (wSS G (z3 1) (z4 1)) (wSS G (z3 2) (z4 2)) (wSS G (z3 3) (z4 3)) (wSS G (z3 4) (z4 4)) (wS G sd inp otp tc fc on ze ou wd lo up)) (q0 := 0) (ci := 4) rfl rfl) rfl rfl hl.1 rfl (lv_room (Nat.le_of_ble_eq_true rfl)) dX2_push_22 ⟨Nat.zero_le _, Nat.zero_le _⟩) hP hD hS hA (pm7_01345_26 (wH0 G hd z2 z3) (wSS G (z3 0) (z4 0)) (wSS G (z3 1) (z4 1)) (wSS G (z3 2) (z4 2)) (wSS G (z3 3) (z4 3)) (wSS G (z3 4) (z4 4)) (wS G sd inp otp tc fc on ze ou wd lo up)) (fun w32 H locs h hP hD hS => ?_)
      obtain ⟨u22, u23, u24, u25, u26, u27, u28, u29, u30, u31⟩ := w32
      have hP : va_P G.1 vwCl (wH G hd z2 z3 (va_up z4 1 (u22, u23, u24, u25, u26, u27, u28, u29, u30, u31)) ++ (wS G sd inp otp tc fc on ze ou wd lo up)) H := hP.perm (pm7_01345_26 (wH0 G hd z2 z3) (wSS G (z3 0) ((va_up z4 1 (u22, u23, u24, u25, u26, u27, u28, u29, u30, u31)) 0)) (wSS G (z3 1) ((va_up z4 1 (u22, u23, u24, u25, u26, u27, u28, u29, u30, u31)) 1)) (wSS G (z3 2) ((va_up z4 1 (u22, u23, u24, u25, u26, u27, u28, u29, u30, u31)) 2)) (wSS G (z3 3) ((va_up z4 1 (u22, u23, u24, u25, u26, u27, u28, u29, u30, u31)) 3)) (wSS G (z3 4) ((va_up z4 1 (u22, u23, u24, u25, u26, u27, u28, u29, u30, u31)) 4)) (wS G sd inp otp tc fc on ze ou wd lo up)).symm
      have hD : va_D A (wH G hd z2 z3 (va_up z4 1 (u22, u23, u24, u25, u26, u27, u28, u29, u30, u31)) ++ (wS G sd inp otp tc fc on ze ou wd lo up)) := hD.perm (pm7_01345_26 (wH0 G hd z2 z3) (wSS G (z3 0) ((va_up z4 1 (u22, u23, u24, u25, u26, u27, u28, u29, u30, u31)) 0)) (wSS G (z3 1) ((va_up z4 1 (u22, u23, u24, u25, u26, u27, u28, u29, u30, u31)) 1)) (wSS G (z3 2) ((va_up z4 1 (u22, u23, u24, u25, u26, u27, u28, u29, u30, u31)) 2)) (wSS G (z3 3) ((va_up z4 1 (u22, u23, u24, u25, u26, u27, u28, u29, u30, u31)) 3)) (wSS G (z3 4) ((va_up z4 1 (u22, u23, u24, u25, u26, u27, u28, u29, u30, u31)) 4)) (wS G sd inp otp tc fc on ze ou wd lo up)).symm
      try dsimp only at h
      refine lv_aload_n hx hb dX2_push_25 rfl (lv_at hl 0 rfl) ?_
      refine lv_dup hx hb dX2_push_26 rfl ?_
      refine va_get (D := G.1) (ci := 2) (v := .int z2) (C := RX2) (T := TX2) (N := 2) hx hb hts hinX2 hown hK.1 hP.l 0 rfl rfl 1 (by decide) (hts (.fieldLink RX2 17 "PlaFolder$History" "count" "I") (by decide +kernel)) (fun _ h9 => h9) rfl dX2_push_27 ?_
      refine lv_iconst (v := (1 : Int32)) hx hb dX2_push_30 (by decide) ?_
      refine lv_iadd hx hb dX2_push_31 ?_
      refine va_put (D := G.1) (ci := 2) (v := .int (z2 + (1 : Int32))) (ty := .int) (C := RX2) (T := TX2) (N := 2) hx hb hts hinX2 tyX2 tyX2_ok nmX2 hown hK.1 hP hD hS 0 rfl rfl 1 (by decide) (hts (.fieldLink RX2 17 "PlaFolder$History" "count" "I") (by decide +kernel)) (fun _ h9 => h9) rfl (by decide +kernel) rfl rfl (Nat.le_of_ble_eq_true rfl) dX2_push_32 (fun H locs hP hD hS => ?_)
      have hP : va_P G.1 vwCl (wH G hd (z2 + (1 : Int32)) z3 (va_up z4 1 (u22, u23, u24, u25, u26, u27, u28, u29, u30, u31)) ++ (wS G sd inp otp tc fc on ze ou wd lo up)) H := hP
      have hD : va_D A (wH G hd (z2 + (1 : Int32)) z3 (va_up z4 1 (u22, u23, u24, u25, u26, u27, u28, u29, u30, u31)) ++ (wS G sd inp otp tc fc on ze ou wd lo up)) := hD
      exact W.vret hx hb hr (fun t ht hW => ⟨⟨((z2 + (1 : Int32)), z3, (va_up z4 1 (u22, u23, u24, u25, u26, u27, u28, u29, u30, u31))), rfl, h, by rw [ht]; exact hP, hD⟩, hS.F ht⟩) hS.2.2 dX2_push_35
    · have h := h.2.2.1 e8
      refine x_aldq hx hb hK hP.l 1 3 rfl rfl hi7 (k := 2) (by rw [e8]; decide) (a2 := z3 2 0) rfl dX2_push_20 ?_
      refine lv_aload_n hx hb dX2_push_21 rfl (lv_at hl 1 rfl) ?_
      refine kp_v (wr := wH0 G hd z2 z3 ++ (wSS G (z3 0) (z4 0) ++ (wSS G (z3 1) (z4 1) ++ (wSS G (z3 3) (z4 3) ++ (wSS G (z3 4) (z4 4)))))) (va_runVN (As := [.ref (sd 0)]) (rest := []) ⟨hx, hb, hml, hown, hts⟩ (c_X4_copyFrom l G (z3 2) sd _ ((z4 2).1) ((z4 2).2.1) ((z4 2).2.2.1) ((z4 2).2.2.2.1) ((z4 2).2.2.2.2.1) ((z4 2).2.2.2.2.2.1) ((z4 2).2.2.2.2.2.2.1) ((z4 2).2.2.2.2.2.2.2.1) ((z4 2).2.2.2.2.2.2.2.2.1) ((z4 2).2.2.2.2.2.2.2.2.2) inp otp tc fc on ze ou wd lo up  h) ⟨va_cnB 1 hts gX2_push_X4_copyFrom_n25 rfl rfl rfl (hK.2.M 8 (q := ("PlaFolder$History", 25, ⟨"PlaFolder$State", "copyFrom", "(LPlaFolder$State;)V"⟩, "PlaFolder")) rfl) (hts (.initialized RX4) (by decide +kernel)) (by decide +kernel) ⟨Nat.le_of_ble_eq_true rfl, Nat.le_of_ble_eq_true rfl⟩, hts (.instanceMethod yX4_copyFrom) (by decide +kernel), hts (.selects RX4 yX4_copyFrom yX4_copyFrom) (by decide +kernel)⟩ (kpVp hK hP hD hZ hS hA (pm7_01245_36 (wH0 G hd z2 z3) (wSS G (z3 0) (z4 0)) (wSS G (z3 1) (z4 1)) (wSS G (z3 2) (z4 2)) (wSS G (z3 3) (z4 3)) (wSS G (z3 4) (z4 4)) (wS G sd inp otp tc fc on ze ou wd lo up)) (q0 := 0) (ci := 4) rfl rfl) rfl rfl hl.1 rfl (lv_room (Nat.le_of_ble_eq_true rfl)) dX2_push_22 ⟨Nat.zero_le _, Nat.zero_le _⟩) hP hD hS hA (pm7_01245_36 (wH0 G hd z2 z3) (wSS G (z3 0) (z4 0)) (wSS G (z3 1) (z4 1)) (wSS G (z3 2) (z4 2)) (wSS G (z3 3) (z4 3)) (wSS G (z3 4) (z4 4)) (wS G sd inp otp tc fc on ze ou wd lo up)) (fun w44 H locs h hP hD hS => ?_)
      obtain ⟨u34, u35, u36, u37, u38, u39, u40, u41, u42, u43⟩ := w44
      have hP : va_P G.1 vwCl (wH G hd z2 z3 (va_up z4 2 (u34, u35, u36, u37, u38, u39, u40, u41, u42, u43)) ++ (wS G sd inp otp tc fc on ze ou wd lo up)) H := hP.perm (pm7_01245_36 (wH0 G hd z2 z3) (wSS G (z3 0) ((va_up z4 2 (u34, u35, u36, u37, u38, u39, u40, u41, u42, u43)) 0)) (wSS G (z3 1) ((va_up z4 2 (u34, u35, u36, u37, u38, u39, u40, u41, u42, u43)) 1)) (wSS G (z3 2) ((va_up z4 2 (u34, u35, u36, u37, u38, u39, u40, u41, u42, u43)) 2)) (wSS G (z3 3) ((va_up z4 2 (u34, u35, u36, u37, u38, u39, u40, u41, u42, u43)) 3)) (wSS G (z3 4) ((va_up z4 2 (u34, u35, u36, u37, u38, u39, u40, u41, u42, u43)) 4)) (wS G sd inp otp tc fc on ze ou wd lo up)).symm
      have hD : va_D A (wH G hd z2 z3 (va_up z4 2 (u34, u35, u36, u37, u38, u39, u40, u41, u42, u43)) ++ (wS G sd inp otp tc fc on ze ou wd lo up)) := hD.perm (pm7_01245_36 (wH0 G hd z2 z3) (wSS G (z3 0) ((va_up z4 2 (u34, u35, u36, u37, u38, u39, u40, u41, u42, u43)) 0)) (wSS G (z3 1) ((va_up z4 2 (u34, u35, u36, u37, u38, u39, u40, u41, u42, u43)) 1)) (wSS G (z3 2) ((va_up z4 2 (u34, u35, u36, u37, u38, u39, u40, u41, u42, u43)) 2)) (wSS G (z3 3) ((va_up z4 2 (u34, u35, u36, u37, u38, u39, u40, u41, u42, u43)) 3)) (wSS G (z3 4) ((va_up z4 2 (u34, u35, u36, u37, u38, u39, u40, u41, u42, u43)) 4)) (wS G sd inp otp tc fc on ze ou wd lo up)).symm
      try dsimp only at h
      refine lv_aload_n hx hb dX2_push_25 rfl (lv_at hl 0 rfl) ?_
      refine lv_dup hx hb dX2_push_26 rfl ?_
      refine va_get (D := G.1) (ci := 2) (v := .int z2) (C := RX2) (T := TX2) (N := 2) hx hb hts hinX2 hown hK.1 hP.l 0 rfl rfl 1 (by decide) (hts (.fieldLink RX2 17 "PlaFolder$History" "count" "I") (by decide +kernel)) (fun _ h9 => h9) rfl dX2_push_27 ?_
      refine lv_iconst (v := (1 : Int32)) hx hb dX2_push_30 (by decide) ?_
      refine lv_iadd hx hb dX2_push_31 ?_
      refine va_put (D := G.1) (ci := 2) (v := .int (z2 + (1 : Int32))) (ty := .int) (C := RX2) (T := TX2) (N := 2) hx hb hts hinX2 tyX2 tyX2_ok nmX2 hown hK.1 hP hD hS 0 rfl rfl 1 (by decide) (hts (.fieldLink RX2 17 "PlaFolder$History" "count" "I") (by decide +kernel)) (fun _ h9 => h9) rfl (by decide +kernel) rfl rfl (Nat.le_of_ble_eq_true rfl) dX2_push_32 (fun H locs hP hD hS => ?_)
      have hP : va_P G.1 vwCl (wH G hd (z2 + (1 : Int32)) z3 (va_up z4 2 (u34, u35, u36, u37, u38, u39, u40, u41, u42, u43)) ++ (wS G sd inp otp tc fc on ze ou wd lo up)) H := hP
      have hD : va_D A (wH G hd (z2 + (1 : Int32)) z3 (va_up z4 2 (u34, u35, u36, u37, u38, u39, u40, u41, u42, u43)) ++ (wS G sd inp otp tc fc on ze ou wd lo up)) := hD
      exact W.vret hx hb hr (fun t ht hW => ⟨⟨((z2 + (1 : Int32)), z3, (va_up z4 2 (u34, u35, u36, u37, u38, u39, u40, u41, u42, u43))), rfl, h, by rw [ht]; exact hP, hD⟩, hS.F ht⟩) hS.2.2 dX2_push_35
    · have h := h.2.2.2.1 e8
      refine x_aldq hx hb hK hP.l 1 3 rfl rfl hi7 (k := 3) (by rw [e8]; decide) (a2 := z3 3 0) rfl dX2_push_20 ?_
      refine lv_aload_n hx hb dX2_push_21 rfl (lv_at hl 1 rfl) ?_
      refine kp_v (wr := wH0 G hd z2 z3 ++ (wSS G (z3 0) (z4 0) ++ (wSS G (z3 1) (z4 1) ++ (wSS G (z3 2) (z4 2) ++ (wSS G (z3 4) (z4 4)))))) (va_runVN (As := [.ref (sd 0)]) (rest := []) ⟨hx, hb, hml, hown, hts⟩ (c_X4_copyFrom l G (z3 3) sd _ ((z4 3).1) ((z4 3).2.1) ((z4 3).2.2.1) ((z4 3).2.2.2.1) ((z4 3).2.2.2.2.1) ((z4 3).2.2.2.2.2.1) ((z4 3).2.2.2.2.2.2.1) ((z4 3).2.2.2.2.2.2.2.1) ((z4 3).2.2.2.2.2.2.2.2.1) ((z4 3).2.2.2.2.2.2.2.2.2) inp otp tc fc on ze ou wd lo up  h) ⟨va_cnB 1 hts gX2_push_X4_copyFrom_n25 rfl rfl rfl (hK.2.M 8 (q := ("PlaFolder$History", 25, ⟨"PlaFolder$State", "copyFrom", "(LPlaFolder$State;)V"⟩, "PlaFolder")) rfl) (hts (.initialized RX4) (by decide +kernel)) (by decide +kernel) ⟨Nat.le_of_ble_eq_true rfl, Nat.le_of_ble_eq_true rfl⟩, hts (.instanceMethod yX4_copyFrom) (by decide +kernel), hts (.selects RX4 yX4_copyFrom yX4_copyFrom) (by decide +kernel)⟩ (kpVp hK hP hD hZ hS hA (pm7_01235_46 (wH0 G hd z2 z3) (wSS G (z3 0) (z4 0)) (wSS G (z3 1) (z4 1)) (wSS G (z3 2) (z4 2)) (wSS G (z3 3) (z4 3)) (wSS G (z3 4) (z4 4)) (wS G sd inp otp tc fc on ze ou wd lo up)) (q0 := 0) (ci := 4) rfl rfl) rfl rfl hl.1 rfl (lv_room (Nat.le_of_ble_eq_true rfl)) dX2_push_22 ⟨Nat.zero_le _, Nat.zero_le _⟩) hP hD hS hA (pm7_01235_46 (wH0 G hd z2 z3) (wSS G (z3 0) (z4 0)) (wSS G (z3 1) (z4 1)) (wSS G (z3 2) (z4 2)) (wSS G (z3 3) (z4 3)) (wSS G (z3 4) (z4 4)) (wS G sd inp otp tc fc on ze ou wd lo up)) (fun w56 H locs h hP hD hS => ?_)
      obtain ⟨u46, u47, u48, u49, u50, u51, u52, u53, u54, u55⟩ := w56
      have hP : va_P G.1 vwCl (wH G hd z2 z3 (va_up z4 3 (u46, u47, u48, u49, u50, u51, u52, u53, u54, u55)) ++ (wS G sd inp otp tc fc on ze ou wd lo up)) H := hP.perm (pm7_01235_46 (wH0 G hd z2 z3) (wSS G (z3 0) ((va_up z4 3 (u46, u47, u48, u49, u50, u51, u52, u53, u54, u55)) 0)) (wSS G (z3 1) ((va_up z4 3 (u46, u47, u48, u49, u50, u51, u52, u53, u54, u55)) 1)) (wSS G (z3 2) ((va_up z4 3 (u46, u47, u48, u49, u50, u51, u52, u53, u54, u55)) 2)) (wSS G (z3 3) ((va_up z4 3 (u46, u47, u48, u49, u50, u51, u52, u53, u54, u55)) 3)) (wSS G (z3 4) ((va_up z4 3 (u46, u47, u48, u49, u50, u51, u52, u53, u54, u55)) 4)) (wS G sd inp otp tc fc on ze ou wd lo up)).symm
      have hD : va_D A (wH G hd z2 z3 (va_up z4 3 (u46, u47, u48, u49, u50, u51, u52, u53, u54, u55)) ++ (wS G sd inp otp tc fc on ze ou wd lo up)) := hD.perm (pm7_01235_46 (wH0 G hd z2 z3) (wSS G (z3 0) ((va_up z4 3 (u46, u47, u48, u49, u50, u51, u52, u53, u54, u55)) 0)) (wSS G (z3 1) ((va_up z4 3 (u46, u47, u48, u49, u50, u51, u52, u53, u54, u55)) 1)) (wSS G (z3 2) ((va_up z4 3 (u46, u47, u48, u49, u50, u51, u52, u53, u54, u55)) 2)) (wSS G (z3 3) ((va_up z4 3 (u46, u47, u48, u49, u50, u51, u52, u53, u54, u55)) 3)) (wSS G (z3 4) ((va_up z4 3 (u46, u47, u48, u49, u50, u51, u52, u53, u54, u55)) 4)) (wS G sd inp otp tc fc on ze ou wd lo up)).symm
      try dsimp only at h
      refine lv_aload_n hx hb dX2_push_25 rfl (lv_at hl 0 rfl) ?_
      refine lv_dup hx hb dX2_push_26 rfl ?_
      refine va_get (D := G.1) (ci := 2) (v := .int z2) (C := RX2) (T := TX2) (N := 2) hx hb hts hinX2 hown hK.1 hP.l 0 rfl rfl 1 (by decide) (hts (.fieldLink RX2 17 "PlaFolder$History" "count" "I") (by decide +kernel)) (fun _ h9 => h9) rfl dX2_push_27 ?_
      refine lv_iconst (v := (1 : Int32)) hx hb dX2_push_30 (by decide) ?_
      refine lv_iadd hx hb dX2_push_31 ?_
      refine va_put (D := G.1) (ci := 2) (v := .int (z2 + (1 : Int32))) (ty := .int) (C := RX2) (T := TX2) (N := 2) hx hb hts hinX2 tyX2 tyX2_ok nmX2 hown hK.1 hP hD hS 0 rfl rfl 1 (by decide) (hts (.fieldLink RX2 17 "PlaFolder$History" "count" "I") (by decide +kernel)) (fun _ h9 => h9) rfl (by decide +kernel) rfl rfl (Nat.le_of_ble_eq_true rfl) dX2_push_32 (fun H locs hP hD hS => ?_)
      have hP : va_P G.1 vwCl (wH G hd (z2 + (1 : Int32)) z3 (va_up z4 3 (u46, u47, u48, u49, u50, u51, u52, u53, u54, u55)) ++ (wS G sd inp otp tc fc on ze ou wd lo up)) H := hP
      have hD : va_D A (wH G hd (z2 + (1 : Int32)) z3 (va_up z4 3 (u46, u47, u48, u49, u50, u51, u52, u53, u54, u55)) ++ (wS G sd inp otp tc fc on ze ou wd lo up)) := hD
      exact W.vret hx hb hr (fun t ht hW => ⟨⟨((z2 + (1 : Int32)), z3, (va_up z4 3 (u46, u47, u48, u49, u50, u51, u52, u53, u54, u55))), rfl, h, by rw [ht]; exact hP, hD⟩, hS.F ht⟩) hS.2.2 dX2_push_35
    · have h := h.2.2.2.2 e8
      refine x_aldq hx hb hK hP.l 1 3 rfl rfl hi7 (k := 4) (by rw [e8]; decide) (a2 := z3 4 0) rfl dX2_push_20 ?_
      refine lv_aload_n hx hb dX2_push_21 rfl (lv_at hl 1 rfl) ?_
      refine kp_v (wr := wH0 G hd z2 z3 ++ (wSS G (z3 0) (z4 0) ++ (wSS G (z3 1) (z4 1) ++ (wSS G (z3 2) (z4 2) ++ (wSS G (z3 3) (z4 3)))))) (va_runVN (As := [.ref (sd 0)]) (rest := []) ⟨hx, hb, hml, hown, hts⟩ (c_X4_copyFrom l G (z3 4) sd _ ((z4 4).1) ((z4 4).2.1) ((z4 4).2.2.1) ((z4 4).2.2.2.1) ((z4 4).2.2.2.2.1) ((z4 4).2.2.2.2.2.1) ((z4 4).2.2.2.2.2.2.1) ((z4 4).2.2.2.2.2.2.2.1) ((z4 4).2.2.2.2.2.2.2.2.1) ((z4 4).2.2.2.2.2.2.2.2.2) inp otp tc fc on ze ou wd lo up  h) ⟨va_cnB 1 hts gX2_push_X4_copyFrom_n25 rfl rfl rfl (hK.2.M 8 (q := ("PlaFolder$History", 25, ⟨"PlaFolder$State", "copyFrom", "(LPlaFolder$State;)V"⟩, "PlaFolder")) rfl) (hts (.initialized RX4) (by decide +kernel)) (by decide +kernel) ⟨Nat.le_of_ble_eq_true rfl, Nat.le_of_ble_eq_true rfl⟩, hts (.instanceMethod yX4_copyFrom) (by decide +kernel), hts (.selects RX4 yX4_copyFrom yX4_copyFrom) (by decide +kernel)⟩ (kpVp hK hP hD hZ hS hA (pm7_01234_56 (wH0 G hd z2 z3) (wSS G (z3 0) (z4 0)) (wSS G (z3 1) (z4 1)) (wSS G (z3 2) (z4 2)) (wSS G (z3 3) (z4 3)) (wSS G (z3 4) (z4 4)) (wS G sd inp otp tc fc on ze ou wd lo up)) (q0 := 0) (ci := 4) rfl rfl) rfl rfl hl.1 rfl (lv_room (Nat.le_of_ble_eq_true rfl)) dX2_push_22 ⟨Nat.zero_le _, Nat.zero_le _⟩) hP hD hS hA (pm7_01234_56 (wH0 G hd z2 z3) (wSS G (z3 0) (z4 0)) (wSS G (z3 1) (z4 1)) (wSS G (z3 2) (z4 2)) (wSS G (z3 3) (z4 3)) (wSS G (z3 4) (z4 4)) (wS G sd inp otp tc fc on ze ou wd lo up)) (fun w68 H locs h hP hD hS => ?_)
      obtain ⟨u58, u59, u60, u61, u62, u63, u64, u65, u66, u67⟩ := w68
      have hP : va_P G.1 vwCl (wH G hd z2 z3 (va_up z4 4 (u58, u59, u60, u61, u62, u63, u64, u65, u66, u67)) ++ (wS G sd inp otp tc fc on ze ou wd lo up)) H := hP.perm (pm7_01234_56 (wH0 G hd z2 z3) (wSS G (z3 0) ((va_up z4 4 (u58, u59, u60, u61, u62, u63, u64, u65, u66, u67)) 0)) (wSS G (z3 1) ((va_up z4 4 (u58, u59, u60, u61, u62, u63, u64, u65, u66, u67)) 1)) (wSS G (z3 2) ((va_up z4 4 (u58, u59, u60, u61, u62, u63, u64, u65, u66, u67)) 2)) (wSS G (z3 3) ((va_up z4 4 (u58, u59, u60, u61, u62, u63, u64, u65, u66, u67)) 3)) (wSS G (z3 4) ((va_up z4 4 (u58, u59, u60, u61, u62, u63, u64, u65, u66, u67)) 4)) (wS G sd inp otp tc fc on ze ou wd lo up)).symm
      have hD : va_D A (wH G hd z2 z3 (va_up z4 4 (u58, u59, u60, u61, u62, u63, u64, u65, u66, u67)) ++ (wS G sd inp otp tc fc on ze ou wd lo up)) := hD.perm (pm7_01234_56 (wH0 G hd z2 z3) (wSS G (z3 0) ((va_up z4 4 (u58, u59, u60, u61, u62, u63, u64, u65, u66, u67)) 0)) (wSS G (z3 1) ((va_up z4 4 (u58, u59, u60, u61, u62, u63, u64, u65, u66, u67)) 1)) (wSS G (z3 2) ((va_up z4 4 (u58, u59, u60, u61, u62, u63, u64, u65, u66, u67)) 2)) (wSS G (z3 3) ((va_up z4 4 (u58, u59, u60, u61, u62, u63, u64, u65, u66, u67)) 3)) (wSS G (z3 4) ((va_up z4 4 (u58, u59, u60, u61, u62, u63, u64, u65, u66, u67)) 4)) (wS G sd inp otp tc fc on ze ou wd lo up)).symm
      try dsimp only at h
      refine lv_aload_n hx hb dX2_push_25 rfl (lv_at hl 0 rfl) ?_
      refine lv_dup hx hb dX2_push_26 rfl ?_
      refine va_get (D := G.1) (ci := 2) (v := .int z2) (C := RX2) (T := TX2) (N := 2) hx hb hts hinX2 hown hK.1 hP.l 0 rfl rfl 1 (by decide) (hts (.fieldLink RX2 17 "PlaFolder$History" "count" "I") (by decide +kernel)) (fun _ h9 => h9) rfl dX2_push_27 ?_
      refine lv_iconst (v := (1 : Int32)) hx hb dX2_push_30 (by decide) ?_
      refine lv_iadd hx hb dX2_push_31 ?_
      refine va_put (D := G.1) (ci := 2) (v := .int (z2 + (1 : Int32))) (ty := .int) (C := RX2) (T := TX2) (N := 2) hx hb hts hinX2 tyX2 tyX2_ok nmX2 hown hK.1 hP hD hS 0 rfl rfl 1 (by decide) (hts (.fieldLink RX2 17 "PlaFolder$History" "count" "I") (by decide +kernel)) (fun _ h9 => h9) rfl (by decide +kernel) rfl rfl (Nat.le_of_ble_eq_true rfl) dX2_push_32 (fun H locs hP hD hS => ?_)
      have hP : va_P G.1 vwCl (wH G hd (z2 + (1 : Int32)) z3 (va_up z4 4 (u58, u59, u60, u61, u62, u63, u64, u65, u66, u67)) ++ (wS G sd inp otp tc fc on ze ou wd lo up)) H := hP
      have hD : va_D A (wH G hd (z2 + (1 : Int32)) z3 (va_up z4 4 (u58, u59, u60, u61, u62, u63, u64, u65, u66, u67)) ++ (wS G sd inp otp tc fc on ze ou wd lo up)) := hD
      exact W.vret hx hb hr (fun t ht hW => ⟨⟨((z2 + (1 : Int32)), z3, (va_up z4 4 (u58, u59, u60, u61, u62, u63, u64, u65, u66, u67))), rfl, h, by rw [ht]; exact hP, hD⟩, hS.F ht⟩) hS.2.2 dX2_push_35
  · refine lv_icmp_lt (tgt := 12) hx hb dX2_push_5 (by decide) (fun c_1 => ?_) (fun c_1 => ?_)
    · have h := h.1 c_1
      exact join6 (hc, sa, sv) h _ _ _ ⟨hP, hD, hS, lv_sub hl [0, 1] rfl⟩
    · have h := h.2 c_1
      refine lv_aload_n hx hb dX2_push_8 rfl (lv_at hl 0 rfl) ?_
      refine kp_v (wr := wS G sd inp otp tc fc on ze ou wd lo up) (va_runV (As := []) (rest := []) ⟨hx, hb, hml, hown, hts⟩ (c_X2_dropOldest l G hd _ hc sa sv  h) (cwV 0 hts gX2_push_X2_dropOldest rfl rfl rfl (by decide +kernel) ⟨Nat.le_of_ble_eq_true rfl, Nat.le_of_ble_eq_true rfl⟩) (kpVp hK hP hD hZ hS hA (pm2_1_0 (wH G hd hc sa sv) (wS G sd inp otp tc fc on ze ou wd lo up)) (q0 := 0) (ci := 2) rfl rfl) rfl rfl hl.1 rfl (lv_room (Nat.le_of_ble_eq_true rfl)) dX2_push_9 ⟨Nat.zero_le _, Nat.zero_le _⟩) hP hD hS hA (pm2_1_0 (wH G hd hc sa sv) (wS G sd inp otp tc fc on ze ou wd lo up)) (fun w73 H locs h hP hD hS => ?_)
      obtain ⟨u70, u71, u72⟩ := w73
      have hP : va_P G.1 vwCl (wH G hd u70 u71 u72 ++ (wS G sd inp otp tc fc on ze ou wd lo up)) H := hP.perm (pm2_1_0 (wH G hd u70 u71 u72) (wS G sd inp otp tc fc on ze ou wd lo up)).symm
      have hD : va_D A (wH G hd u70 u71 u72 ++ (wS G sd inp otp tc fc on ze ou wd lo up)) := hD.perm (pm2_1_0 (wH G hd u70 u71 u72) (wS G sd inp otp tc fc on ze ou wd lo up)).symm
      try dsimp only at h
      exact join6 (u70, u71, u72) h _ _ _ ⟨hP, hD, hS, lv_sub hl [0, 1] rfl⟩
def wp_X2_pop (hc : Int32) (sv : Nat → SS) (inp : Int32) (otp : Int32) (tc : Int32) (fc : Int32) (on : Nat → Int32) (ze : Nat → Int32) (ou : Nat → Int32) (wd : Nat → Int64) (lo : Nat → Int32) (up : Nat → Int32) (K : Int32 → Int32 → Int32 → Int32 → Int32 → (Nat → Int32) → (Nat → Int32) → (Nat → Int32) → (Nat → Int64) → (Nat → Int32) → (Nat → Int32) → Prop) : Prop :=
 ((0 < hc → (vp_in (hc - (1 : Int32)) 5 ∧ ((hc - (1 : Int32)) = (0 : Int32) → wp_X4_copyFrom inp otp tc fc on ze ou wd lo up ((sv 0).1) ((sv 0).2.1) ((sv 0).2.2.1) ((sv 0).2.2.2.1) ((sv 0).2.2.2.2.1) ((sv 0).2.2.2.2.2.1) ((sv 0).2.2.2.2.2.2.1) ((sv 0).2.2.2.2.2.2.2.1) ((sv 0).2.2.2.2.2.2.2.2.1) ((sv 0).2.2.2.2.2.2.2.2.2) (fun (u5 : Int32) (u6 : Int32) (u7 : Int32) (u8 : Int32) (u9 : Nat → Int32) (u10 : Nat → Int32) (u11 : Nat → Int32) (u12 : Nat → Int64) (u13 : Nat → Int32) (u14 : Nat → Int32) => K (hc - (1 : Int32)) u5 u6 u7 u8 u9 u10 u11 u12 u13 u14)) ∧ ((hc - (1 : Int32)) = (1 : Int32) → wp_X4_copyFrom inp otp tc fc on ze ou wd lo up ((sv 1).1) ((sv 1).2.1) ((sv 1).2.2.1) ((sv 1).2.2.2.1) ((sv 1).2.2.2.2.1) ((sv 1).2.2.2.2.2.1) ((sv 1).2.2.2.2.2.2.1) ((sv 1).2.2.2.2.2.2.2.1) ((sv 1).2.2.2.2.2.2.2.2.1) ((sv 1).2.2.2.2.2.2.2.2.2) (fun (u17 : Int32) (u18 : Int32) (u19 : Int32) (u20 : Int32) (u21 : Nat → Int32) (u22 : Nat → Int32) (u23 : Nat → Int32) (u24 : Nat → Int64) (u25 : Nat → Int32) (u26 : Nat → Int32) => K (hc - (1 : Int32)) u17 u18 u19 u20 u21 u22 u23 u24 u25 u26)) ∧ ((hc - (1 : Int32)) = (2 : Int32) → wp_X4_copyFrom inp otp tc fc on ze ou wd lo up ((sv 2).1) ((sv 2).2.1) ((sv 2).2.2.1) ((sv 2).2.2.2.1) ((sv 2).2.2.2.2.1) ((sv 2).2.2.2.2.2.1) ((sv 2).2.2.2.2.2.2.1) ((sv 2).2.2.2.2.2.2.2.1) ((sv 2).2.2.2.2.2.2.2.2.1) ((sv 2).2.2.2.2.2.2.2.2.2) (fun (u29 : Int32) (u30 : Int32) (u31 : Int32) (u32 : Int32) (u33 : Nat → Int32) (u34 : Nat → Int32) (u35 : Nat → Int32) (u36 : Nat → Int64) (u37 : Nat → Int32) (u38 : Nat → Int32) => K (hc - (1 : Int32)) u29 u30 u31 u32 u33 u34 u35 u36 u37 u38)) ∧ ((hc - (1 : Int32)) = (3 : Int32) → wp_X4_copyFrom inp otp tc fc on ze ou wd lo up ((sv 3).1) ((sv 3).2.1) ((sv 3).2.2.1) ((sv 3).2.2.2.1) ((sv 3).2.2.2.2.1) ((sv 3).2.2.2.2.2.1) ((sv 3).2.2.2.2.2.2.1) ((sv 3).2.2.2.2.2.2.2.1) ((sv 3).2.2.2.2.2.2.2.2.1) ((sv 3).2.2.2.2.2.2.2.2.2) (fun (u41 : Int32) (u42 : Int32) (u43 : Int32) (u44 : Int32) (u45 : Nat → Int32) (u46 : Nat → Int32) (u47 : Nat → Int32) (u48 : Nat → Int64) (u49 : Nat → Int32) (u50 : Nat → Int32) => K (hc - (1 : Int32)) u41 u42 u43 u44 u45 u46 u47 u48 u49 u50)) ∧ ((hc - (1 : Int32)) = (4 : Int32) → wp_X4_copyFrom inp otp tc fc on ze ou wd lo up ((sv 4).1) ((sv 4).2.1) ((sv 4).2.2.1) ((sv 4).2.2.2.1) ((sv 4).2.2.2.2.1) ((sv 4).2.2.2.2.2.1) ((sv 4).2.2.2.2.2.2.1) ((sv 4).2.2.2.2.2.2.2.1) ((sv 4).2.2.2.2.2.2.2.2.1) ((sv 4).2.2.2.2.2.2.2.2.2) (fun (u53 : Int32) (u54 : Int32) (u55 : Int32) (u56 : Int32) (u57 : Nat → Int32) (u58 : Nat → Int32) (u59 : Nat → Int32) (u60 : Nat → Int64) (u61 : Nat → Int32) (u62 : Nat → Int32) => K (hc - (1 : Int32)) u53 u54 u55 u56 u57 u58 u59 u60 u61 u62)))) ∧
 (¬ (0 < hc) → K hc inp otp tc fc on ze ou wd lo up))
abbrev rm_X2_pop : Room := { frames := 2, cells := 0, slots := 0, locals := 81 }
set_option maxHeartbeats 4000000 in
set_option maxRecDepth 100000 in
theorem c_X2_pop (l : Launch) (G : GG) (hd : Nat → Nat) (sd : Nat → Nat) (sz : Nat) (hc : Int32) (sa : Nat → Nat → Nat) (sv : Nat → SS) (inp : Int32) (otp : Int32) (tc : Int32) (fc : Int32) (on : Nat → Int32) (ze : Nat → Int32) (ou : Nat → Int32) (wd : Nat → Int64) (lo : Nat → Int32) (up : Nat → Int32) {K : Int32 → Int32 → Int32 → Int32 → Int32 → (Nat → Int32) → (Nat → Int32) → (Nat → Int32) → (Nat → Int64) → (Nat → Int32) → (Nat → Int32) → Prop} (h : wp_X2_pop hc sv inp otp tc fc on ze ou wd lo up K) : CV l yX2_pop wsX2_pop rm_X2_pop G [.ref (hd 0), .ref (sd 0)] (wH G hd hc sa sv ++ (wS G sd inp otp tc fc on ze ou wd lo up)) sz (fun u : Int32 × Int32 × Int32 × Int32 × Int32 × (Nat → Int32) × (Nat → Int32) × (Nat → Int32) × (Nat → Int64) × (Nat → Int32) × (Nat → Int32) => wH G hd u.1 sa sv ++ (wS G sd u.2.1 u.2.2.1 u.2.2.2.1 u.2.2.2.2.1 u.2.2.2.2.2.1 u.2.2.2.2.2.2.1 u.2.2.2.2.2.2.2.1 u.2.2.2.2.2.2.2.2.1 u.2.2.2.2.2.2.2.2.2.1 u.2.2.2.2.2.2.2.2.2.2)) (fun u => K u.1 u.2.1 u.2.2.1 u.2.2.2.1 u.2.2.2.2.1 u.2.2.2.2.2.1 u.2.2.2.2.2.2.1 u.2.2.2.2.2.2.2.1 u.2.2.2.2.2.2.2.2.1 u.2.2.2.2.2.2.2.2.2.1 u.2.2.2.2.2.2.2.2.2.2) := by
  refine Met.ofW (cc := cX2_pop) (maxL := 2) (ret := none) (by decide) rfl ?_
  intro p e s m args below meth c s₁ B hml hv
  obtain ⟨rfl, hsz, hP, hK, hD0, hZ⟩ := hv
  have hx := B.exec
  have hb := B.bytes
  have hr := B.returns
  have hts := atoms_spec (ws := wsX2_pop) B.pre
  have hown : s.vm.findClass RX2 = some m.cls := findClass_of_methodNamed B.named
  have hlocks := B.notSynchronized
  subst hsz
  have hD := hD0.self (sz := s.heap.size)
  generalize hAe : va_A (wH G hd hc sa sv ++ (wS G sd inp otp tc fc on ze ou wd lo up)) s.heap.size = A at hD hZ ⊢
  have hA : ∀ q : Nat, s.heap.size ≤ q → A q := fun q h => by rw [← hAe]; exact Or.inr h
  have hS : va_S A s.heap s.heap [] := va_S.rf
  have hl := lv_entry ([.ref (hd 0), .ref (sd 0)]) (n := 2) (Nat.le_of_ble_eq_true rfl)
  rw [lg_entry_eq]
  generalize (lg_sl ([.ref (hd 0), .ref (sd 0)]) ++ List.replicate (2 - (lg_sl ([.ref (hd 0), .ref (sd 0)])).length) Slot.unset).toArray = ls at hl ⊢
  have hl : lv_has ls 2 [(0, .ref (hd 0)), (1, .ref (sd 0))] := hl
  unfold wp_X2_pop at h
  have hinX2 : ∀ w ∈ wsX20, w ∈ wsX2_pop := by decide +kernel
  refine lv_aload_n hx hb dX2_pop_0 rfl (lv_at hl 0 rfl) ?_
  refine va_get (D := G.1) (ci := 2) (v := .int hc) (C := RX2) (T := TX2) (N := 2) hx hb hts hinX2 hown hK.1 hP.l 0 rfl rfl 1 (by decide) (hts (.fieldLink RX2 17 "PlaFolder$History" "count" "I") (by decide +kernel)) (fun _ h9 => h9) rfl dX2_pop_1 ?_
  refine lv_if_gt (tgt := 8) hx hb dX2_pop_4 (by decide) (fun c_1 => ?_) (fun c_1 => ?_)
  · have h := h.1 c_1
    refine lv_aload_n hx hb dX2_pop_8 rfl (lv_at hl 0 rfl) ?_
    refine lv_dup hx hb dX2_pop_9 rfl ?_
    refine va_get (D := G.1) (ci := 2) (v := .int hc) (C := RX2) (T := TX2) (N := 2) hx hb hts hinX2 hown hK.1 hP.l 0 rfl rfl 1 (by decide) (hts (.fieldLink RX2 17 "PlaFolder$History" "count" "I") (by decide +kernel)) (fun _ h9 => h9) rfl dX2_pop_10 ?_
    refine lv_iconst (v := (1 : Int32)) hx hb dX2_pop_13 (by decide) ?_
    refine lv_isub hx hb dX2_pop_14 ?_
    refine va_put (D := G.1) (ci := 2) (v := .int (hc - (1 : Int32))) (ty := .int) (C := RX2) (T := TX2) (N := 2) hx hb hts hinX2 tyX2 tyX2_ok nmX2 hown hK.1 hP hD hS 0 rfl rfl 1 (by decide) (hts (.fieldLink RX2 17 "PlaFolder$History" "count" "I") (by decide +kernel)) (fun _ h9 => h9) rfl (by decide +kernel) rfl rfl (Nat.le_of_ble_eq_true rfl) dX2_pop_15 (fun H locs hP hD hS => ?_)
    have hP : va_P G.1 vwCl (wH G hd (hc - (1 : Int32)) sa sv ++ (wS G sd inp otp tc fc on ze ou wd lo up)) H := hP
    have hD : va_D A (wH G hd (hc - (1 : Int32)) sa sv ++ (wS G sd inp otp tc fc on ze ou wd lo up)) := hD
    refine lv_aload_n hx hb dX2_pop_18 rfl (lv_at hl 1 rfl) ?_
    refine lv_aload_n hx hb dX2_pop_19 rfl (lv_at hl 0 rfl) ?_
    refine va_get (D := G.1) (ci := 2) (v := .ref (hd 1)) (C := RX2) (T := TX2) (N := 2) hx hb hts hinX2 hown hK.1 hP.l 0 rfl rfl 0 (by decide) (hts (.fieldLink RX2 11 "PlaFolder$History" "saved" "[LPlaFolder$State;") (by decide +kernel)) (fun _ h9 => h9) rfl dX2_pop_20 ?_
    refine lv_aload_n hx hb dX2_pop_23 rfl (lv_at hl 0 rfl) ?_
    refine va_get (D := G.1) (ci := 2) (v := .int (hc - (1 : Int32))) (C := RX2) (T := TX2) (N := 2) hx hb hts hinX2 hown hK.1 hP.l 0 rfl rfl 1 (by decide) (hts (.fieldLink RX2 17 "PlaFolder$History" "count" "I") (by decide +kernel)) (fun _ h9 => h9) rfl dX2_pop_24 ?_
    obtain ⟨hi2, h⟩ := h
    obtain e3 | e3 | e3 | e3 | e3 := vin5 hi2
    · have h := h.1 e3
      refine x_aldq hx hb hK hP.l 1 3 rfl rfl hi2 (k := 0) (by rw [e3]; decide) (a2 := sa 0 0) rfl dX2_pop_27 ?_
      refine kp_v (wr := wH0 G hd (hc - (1 : Int32)) sa ++ (wSS G (sa 1) (sv 1) ++ (wSS G (sa 2) (sv 2) ++ (wSS G (sa 3) (sv 3) ++ (wSS G (sa 4) (sv 4)))))) (va_runVN (As := [.ref (sa 0 0)]) (rest := []) ⟨hx, hb, hml, hown, hts⟩ (c_X4_copyFrom l G sd (sa 0) _ inp otp tc fc on ze ou wd lo up ((sv 0).1) ((sv 0).2.1) ((sv 0).2.2.1) ((sv 0).2.2.2.1) ((sv 0).2.2.2.2.1) ((sv 0).2.2.2.2.2.1) ((sv 0).2.2.2.2.2.2.1) ((sv 0).2.2.2.2.2.2.2.1) ((sv 0).2.2.2.2.2.2.2.2.1) ((sv 0).2.2.2.2.2.2.2.2.2)  h) ⟨va_cnB 1 hts gX2_pop_X4_copyFrom_n25 rfl rfl rfl (hK.2.M 8 (q := ("PlaFolder$History", 25, ⟨"PlaFolder$State", "copyFrom", "(LPlaFolder$State;)V"⟩, "PlaFolder")) rfl) (hts (.initialized RX4) (by decide +kernel)) (by decide +kernel) ⟨Nat.le_of_ble_eq_true rfl, Nat.le_of_ble_eq_true rfl⟩, hts (.instanceMethod yX4_copyFrom) (by decide +kernel), hts (.selects RX4 yX4_copyFrom yX4_copyFrom) (by decide +kernel)⟩ (kpVp hK hP hD hZ hS hA (pm7_02345_61 (wH0 G hd (hc - (1 : Int32)) sa) (wSS G (sa 0) (sv 0)) (wSS G (sa 1) (sv 1)) (wSS G (sa 2) (sv 2)) (wSS G (sa 3) (sv 3)) (wSS G (sa 4) (sv 4)) (wS G sd inp otp tc fc on ze ou wd lo up)) (q0 := 0) (ci := 4) rfl rfl) rfl rfl hl.1 rfl (lv_room (Nat.le_of_ble_eq_true rfl)) dX2_pop_28 ⟨Nat.zero_le _, Nat.zero_le _⟩) hP hD hS hA (pm7_02345_61 (wH0 G hd (hc - (1 : Int32)) sa) (wSS G (sa 0) (sv 0)) (wSS G (sa 1) (sv 1)) (wSS G (sa 2) (sv 2)) (wSS G (sa 3) (sv 3)) (wSS G (sa 4) (sv 4)) (wS G sd inp otp tc fc on ze ou wd lo up)) (fun w15 H locs h hP hD hS => ?_)
      obtain ⟨u5, u6, u7, u8, u9, u10, u11, u12, u13, u14⟩ := w15
      have hP : va_P G.1 vwCl (wH G hd (hc - (1 : Int32)) sa sv ++ (wS G sd u5 u6 u7 u8 u9 u10 u11 u12 u13 u14)) H := hP.perm (pm7_02345_61 (wH0 G hd (hc - (1 : Int32)) sa) (wSS G (sa 0) (sv 0)) (wSS G (sa 1) (sv 1)) (wSS G (sa 2) (sv 2)) (wSS G (sa 3) (sv 3)) (wSS G (sa 4) (sv 4)) (wS G sd u5 u6 u7 u8 u9 u10 u11 u12 u13 u14)).symm
      have hD : va_D A (wH G hd (hc - (1 : Int32)) sa sv ++ (wS G sd u5 u6 u7 u8 u9 u10 u11 u12 u13 u14)) := hD.perm (pm7_02345_61 (wH0 G hd (hc - (1 : Int32)) sa) (wSS G (sa 0) (sv 0)) (wSS G (sa 1) (sv 1)) (wSS G (sa 2) (sv 2)) (wSS G (sa 3) (sv 3)) (wSS G (sa 4) (sv 4)) (wS G sd u5 u6 u7 u8 u9 u10 u11 u12 u13 u14)).symm
      try dsimp only at h
      exact W.vret hx hb hr (fun t ht hW => ⟨⟨((hc - (1 : Int32)), u5, u6, u7, u8, u9, u10, u11, u12, u13, u14), rfl, h, by rw [ht]; exact hP, hD⟩, hS.F ht⟩) hS.2.2 dX2_pop_31
    · have h := h.2.1 e3
      refine x_aldq hx hb hK hP.l 1 3 rfl rfl hi2 (k := 1) (by rw [e3]; decide) (a2 := sa 1 0) rfl dX2_pop_27 ?_
      refine kp_v (wr := wH0 G hd (hc - (1 : Int32)) sa ++ (wSS G (sa 0) (sv 0) ++ (wSS G (sa 2) (sv 2) ++ (wSS G (sa 3) (sv 3) ++ (wSS G (sa 4) (sv 4)))))) (va_runVN (As := [.ref (sa 1 0)]) (rest := []) ⟨hx, hb, hml, hown, hts⟩ (c_X4_copyFrom l G sd (sa 1) _ inp otp tc fc on ze ou wd lo up ((sv 1).1) ((sv 1).2.1) ((sv 1).2.2.1) ((sv 1).2.2.2.1) ((sv 1).2.2.2.2.1) ((sv 1).2.2.2.2.2.1) ((sv 1).2.2.2.2.2.2.1) ((sv 1).2.2.2.2.2.2.2.1) ((sv 1).2.2.2.2.2.2.2.2.1) ((sv 1).2.2.2.2.2.2.2.2.2)  h) ⟨va_cnB 1 hts gX2_pop_X4_copyFrom_n25 rfl rfl rfl (hK.2.M 8 (q := ("PlaFolder$History", 25, ⟨"PlaFolder$State", "copyFrom", "(LPlaFolder$State;)V"⟩, "PlaFolder")) rfl) (hts (.initialized RX4) (by decide +kernel)) (by decide +kernel) ⟨Nat.le_of_ble_eq_true rfl, Nat.le_of_ble_eq_true rfl⟩, hts (.instanceMethod yX4_copyFrom) (by decide +kernel), hts (.selects RX4 yX4_copyFrom yX4_copyFrom) (by decide +kernel)⟩ (kpVp hK hP hD hZ hS hA (pm7_01345_62 (wH0 G hd (hc - (1 : Int32)) sa) (wSS G (sa 0) (sv 0)) (wSS G (sa 1) (sv 1)) (wSS G (sa 2) (sv 2)) (wSS G (sa 3) (sv 3)) (wSS G (sa 4) (sv 4)) (wS G sd inp otp tc fc on ze ou wd lo up)) (q0 := 0) (ci := 4) rfl rfl) rfl rfl hl.1 rfl (lv_room (Nat.le_of_ble_eq_true rfl)) dX2_pop_28 ⟨Nat.zero_le _, Nat.zero_le _⟩) hP hD hS hA (pm7_01345_62 (wH0 G hd (hc - (1 : Int32)) sa) (wSS G (sa 0) (sv 0)) (wSS G (sa 1) (sv 1)) (wSS G (sa 2) (sv 2)) (wSS G (sa 3) (sv 3)) (wSS G (sa 4) (sv 4)) (wS G sd inp otp tc fc on ze ou wd lo up)) (fun w27 H locs h hP hD hS => ?_)
      obtain ⟨u17, u18, u19, u20, u21, u22, u23, u24, u25, u26⟩ := w27
      have hP : va_P G.1 vwCl (wH G hd (hc - (1 : Int32)) sa sv ++ (wS G sd u17 u18 u19 u20 u21 u22 u23 u24 u25 u26)) H := hP.perm (pm7_01345_62 (wH0 G hd (hc - (1 : Int32)) sa) (wSS G (sa 0) (sv 0)) (wSS G (sa 1) (sv 1)) (wSS G (sa 2) (sv 2)) (wSS G (sa 3) (sv 3)) (wSS G (sa 4) (sv 4)) (wS G sd u17 u18 u19 u20 u21 u22 u23 u24 u25 u26)).symm
      have hD : va_D A (wH G hd (hc - (1 : Int32)) sa sv ++ (wS G sd u17 u18 u19 u20 u21 u22 u23 u24 u25 u26)) := hD.perm (pm7_01345_62 (wH0 G hd (hc - (1 : Int32)) sa) (wSS G (sa 0) (sv 0)) (wSS G (sa 1) (sv 1)) (wSS G (sa 2) (sv 2)) (wSS G (sa 3) (sv 3)) (wSS G (sa 4) (sv 4)) (wS G sd u17 u18 u19 u20 u21 u22 u23 u24 u25 u26)).symm
      try dsimp only at h
      exact W.vret hx hb hr (fun t ht hW => ⟨⟨((hc - (1 : Int32)), u17, u18, u19, u20, u21, u22, u23, u24, u25, u26), rfl, h, by rw [ht]; exact hP, hD⟩, hS.F ht⟩) hS.2.2 dX2_pop_31
    · have h := h.2.2.1 e3
      refine x_aldq hx hb hK hP.l 1 3 rfl rfl hi2 (k := 2) (by rw [e3]; decide) (a2 := sa 2 0) rfl dX2_pop_27 ?_
      refine kp_v (wr := wH0 G hd (hc - (1 : Int32)) sa ++ (wSS G (sa 0) (sv 0) ++ (wSS G (sa 1) (sv 1) ++ (wSS G (sa 3) (sv 3) ++ (wSS G (sa 4) (sv 4)))))) (va_runVN (As := [.ref (sa 2 0)]) (rest := []) ⟨hx, hb, hml, hown, hts⟩ (c_X4_copyFrom l G sd (sa 2) _ inp otp tc fc on ze ou wd lo up ((sv 2).1) ((sv 2).2.1) ((sv 2).2.2.1) ((sv 2).2.2.2.1) ((sv 2).2.2.2.2.1) ((sv 2).2.2.2.2.2.1) ((sv 2).2.2.2.2.2.2.1) ((sv 2).2.2.2.2.2.2.2.1) ((sv 2).2.2.2.2.2.2.2.2.1) ((sv 2).2.2.2.2.2.2.2.2.2)  h) ⟨va_cnB 1 hts gX2_pop_X4_copyFrom_n25 rfl rfl rfl (hK.2.M 8 (q := ("PlaFolder$History", 25, ⟨"PlaFolder$State", "copyFrom", "(LPlaFolder$State;)V"⟩, "PlaFolder")) rfl) (hts (.initialized RX4) (by decide +kernel)) (by decide +kernel) ⟨Nat.le_of_ble_eq_true rfl, Nat.le_of_ble_eq_true rfl⟩, hts (.instanceMethod yX4_copyFrom) (by decide +kernel), hts (.selects RX4 yX4_copyFrom yX4_copyFrom) (by decide +kernel)⟩ (kpVp hK hP hD hZ hS hA (pm7_01245_63 (wH0 G hd (hc - (1 : Int32)) sa) (wSS G (sa 0) (sv 0)) (wSS G (sa 1) (sv 1)) (wSS G (sa 2) (sv 2)) (wSS G (sa 3) (sv 3)) (wSS G (sa 4) (sv 4)) (wS G sd inp otp tc fc on ze ou wd lo up)) (q0 := 0) (ci := 4) rfl rfl) rfl rfl hl.1 rfl (lv_room (Nat.le_of_ble_eq_true rfl)) dX2_pop_28 ⟨Nat.zero_le _, Nat.zero_le _⟩) hP hD hS hA (pm7_01245_63 (wH0 G hd (hc - (1 : Int32)) sa) (wSS G (sa 0) (sv 0)) (wSS G (sa 1) (sv 1)) (wSS G (sa 2) (sv 2)) (wSS G (sa 3) (sv 3)) (wSS G (sa 4) (sv 4)) (wS G sd inp otp tc fc on ze ou wd lo up)) (fun w39 H locs h hP hD hS => ?_)
      obtain ⟨u29, u30, u31, u32, u33, u34, u35, u36, u37, u38⟩ := w39
      have hP : va_P G.1 vwCl (wH G hd (hc - (1 : Int32)) sa sv ++ (wS G sd u29 u30 u31 u32 u33 u34 u35 u36 u37 u38)) H := hP.perm (pm7_01245_63 (wH0 G hd (hc - (1 : Int32)) sa) (wSS G (sa 0) (sv 0)) (wSS G (sa 1) (sv 1)) (wSS G (sa 2) (sv 2)) (wSS G (sa 3) (sv 3)) (wSS G (sa 4) (sv 4)) (wS G sd u29 u30 u31 u32 u33 u34 u35 u36 u37 u38)).symm
      have hD : va_D A (wH G hd (hc - (1 : Int32)) sa sv ++ (wS G sd u29 u30 u31 u32 u33 u34 u35 u36 u37 u38)) := hD.perm (pm7_01245_63 (wH0 G hd (hc - (1 : Int32)) sa) (wSS G (sa 0) (sv 0)) (wSS G (sa 1) (sv 1)) (wSS G (sa 2) (sv 2)) (wSS G (sa 3) (sv 3)) (wSS G (sa 4) (sv 4)) (wS G sd u29 u30 u31 u32 u33 u34 u35 u36 u37 u38)).symm
      try dsimp only at h
      exact W.vret hx hb hr (fun t ht hW => ⟨⟨((hc - (1 : Int32)), u29, u30, u31, u32, u33, u34, u35, u36, u37, u38), rfl, h, by rw [ht]; exact hP, hD⟩, hS.F ht⟩) hS.2.2 dX2_pop_31
    · have h := h.2.2.2.1 e3
      refine x_aldq hx hb hK hP.l 1 3 rfl rfl hi2 (k := 3) (by rw [e3]; decide) (a2 := sa 3 0) rfl dX2_pop_27 ?_
      refine kp_v (wr := wH0 G hd (hc - (1 : Int32)) sa ++ (wSS G (sa 0) (sv 0) ++ (wSS G (sa 1) (sv 1) ++ (wSS G (sa 2) (sv 2) ++ (wSS G (sa 4) (sv 4)))))) (va_runVN (As := [.ref (sa 3 0)]) (rest := []) ⟨hx, hb, hml, hown, hts⟩ (c_X4_copyFrom l G sd (sa 3) _ inp otp tc fc on ze ou wd lo up ((sv 3).1) ((sv 3).2.1) ((sv 3).2.2.1) ((sv 3).2.2.2.1) ((sv 3).2.2.2.2.1) ((sv 3).2.2.2.2.2.1) ((sv 3).2.2.2.2.2.2.1) ((sv 3).2.2.2.2.2.2.2.1) ((sv 3).2.2.2.2.2.2.2.2.1) ((sv 3).2.2.2.2.2.2.2.2.2)  h) ⟨va_cnB 1 hts gX2_pop_X4_copyFrom_n25 rfl rfl rfl (hK.2.M 8 (q := ("PlaFolder$History", 25, ⟨"PlaFolder$State", "copyFrom", "(LPlaFolder$State;)V"⟩, "PlaFolder")) rfl) (hts (.initialized RX4) (by decide +kernel)) (by decide +kernel) ⟨Nat.le_of_ble_eq_true rfl, Nat.le_of_ble_eq_true rfl⟩, hts (.instanceMethod yX4_copyFrom) (by decide +kernel), hts (.selects RX4 yX4_copyFrom yX4_copyFrom) (by decide +kernel)⟩ (kpVp hK hP hD hZ hS hA (pm7_01235_64 (wH0 G hd (hc - (1 : Int32)) sa) (wSS G (sa 0) (sv 0)) (wSS G (sa 1) (sv 1)) (wSS G (sa 2) (sv 2)) (wSS G (sa 3) (sv 3)) (wSS G (sa 4) (sv 4)) (wS G sd inp otp tc fc on ze ou wd lo up)) (q0 := 0) (ci := 4) rfl rfl) rfl rfl hl.1 rfl (lv_room (Nat.le_of_ble_eq_true rfl)) dX2_pop_28 ⟨Nat.zero_le _, Nat.zero_le _⟩) hP hD hS hA (pm7_01235_64 (wH0 G hd (hc - (1 : Int32)) sa) (wSS G (sa 0) (sv 0)) (wSS G (sa 1) (sv 1)) (wSS G (sa 2) (sv 2)) (wSS G (sa 3) (sv 3)) (wSS G (sa 4) (sv 4)) (wS G sd inp otp tc fc on ze ou wd lo up)) (fun w51 H locs h hP hD hS => ?_)
      obtain ⟨u41, u42, u43, u44, u45, u46, u47, u48, u49, u50⟩ := w51
      have hP : va_P G.1 vwCl (wH G hd (hc - (1 : Int32)) sa sv ++ (wS G sd u41 u42 u43 u44 u45 u46 u47 u48 u49 u50)) H := hP.perm (pm7_01235_64 (wH0 G hd (hc - (1 : Int32)) sa) (wSS G (sa 0) (sv 0)) (wSS G (sa 1) (sv 1)) (wSS G (sa 2) (sv 2)) (wSS G (sa 3) (sv 3)) (wSS G (sa 4) (sv 4)) (wS G sd u41 u42 u43 u44 u45 u46 u47 u48 u49 u50)).symm
      have hD : va_D A (wH G hd (hc - (1 : Int32)) sa sv ++ (wS G sd u41 u42 u43 u44 u45 u46 u47 u48 u49 u50)) := hD.perm (pm7_01235_64 (wH0 G hd (hc - (1 : Int32)) sa) (wSS G (sa 0) (sv 0)) (wSS G (sa 1) (sv 1)) (wSS G (sa 2) (sv 2)) (wSS G (sa 3) (sv 3)) (wSS G (sa 4) (sv 4)) (wS G sd u41 u42 u43 u44 u45 u46 u47 u48 u49 u50)).symm
      try dsimp only at h
      exact W.vret hx hb hr (fun t ht hW => ⟨⟨((hc - (1 : Int32)), u41, u42, u43, u44, u45, u46, u47, u48, u49, u50), rfl, h, by rw [ht]; exact hP, hD⟩, hS.F ht⟩) hS.2.2 dX2_pop_31
    · have h := h.2.2.2.2 e3
      refine x_aldq hx hb hK hP.l 1 3 rfl rfl hi2 (k := 4) (by rw [e3]; decide) (a2 := sa 4 0) rfl dX2_pop_27 ?_
      refine kp_v (wr := wH0 G hd (hc - (1 : Int32)) sa ++ (wSS G (sa 0) (sv 0) ++ (wSS G (sa 1) (sv 1) ++ (wSS G (sa 2) (sv 2) ++ (wSS G (sa 3) (sv 3)))))) (va_runVN (As := [.ref (sa 4 0)]) (rest := []) ⟨hx, hb, hml, hown, hts⟩ (c_X4_copyFrom l G sd (sa 4) _ inp otp tc fc on ze ou wd lo up ((sv 4).1) ((sv 4).2.1) ((sv 4).2.2.1) ((sv 4).2.2.2.1) ((sv 4).2.2.2.2.1) ((sv 4).2.2.2.2.2.1) ((sv 4).2.2.2.2.2.2.1) ((sv 4).2.2.2.2.2.2.2.1) ((sv 4).2.2.2.2.2.2.2.2.1) ((sv 4).2.2.2.2.2.2.2.2.2)  h) ⟨va_cnB 1 hts gX2_pop_X4_copyFrom_n25 rfl rfl rfl (hK.2.M 8 (q := ("PlaFolder$History", 25, ⟨"PlaFolder$State", "copyFrom", "(LPlaFolder$State;)V"⟩, "PlaFolder")) rfl) (hts (.initialized RX4) (by decide +kernel)) (by decide +kernel) ⟨Nat.le_of_ble_eq_true rfl, Nat.le_of_ble_eq_true rfl⟩, hts (.instanceMethod yX4_copyFrom) (by decide +kernel), hts (.selects RX4 yX4_copyFrom yX4_copyFrom) (by decide +kernel)⟩ (kpVp hK hP hD hZ hS hA (pm7_01234_65 (wH0 G hd (hc - (1 : Int32)) sa) (wSS G (sa 0) (sv 0)) (wSS G (sa 1) (sv 1)) (wSS G (sa 2) (sv 2)) (wSS G (sa 3) (sv 3)) (wSS G (sa 4) (sv 4)) (wS G sd inp otp tc fc on ze ou wd lo up)) (q0 := 0) (ci := 4) rfl rfl) rfl rfl hl.1 rfl (lv_room (Nat.le_of_ble_eq_true rfl)) dX2_pop_28 ⟨Nat.zero_le _, Nat.zero_le _⟩) hP hD hS hA (pm7_01234_65 (wH0 G hd (hc - (1 : Int32)) sa) (wSS G (sa 0) (sv 0)) (wSS G (sa 1) (sv 1)) (wSS G (sa 2) (sv 2)) (wSS G (sa 3) (sv 3)) (wSS G (sa 4) (sv 4)) (wS G sd inp otp tc fc on ze ou wd lo up)) (fun w63 H locs h hP hD hS => ?_)
      obtain ⟨u53, u54, u55, u56, u57, u58, u59, u60, u61, u62⟩ := w63
      have hP : va_P G.1 vwCl (wH G hd (hc - (1 : Int32)) sa sv ++ (wS G sd u53 u54 u55 u56 u57 u58 u59 u60 u61 u62)) H := hP.perm (pm7_01234_65 (wH0 G hd (hc - (1 : Int32)) sa) (wSS G (sa 0) (sv 0)) (wSS G (sa 1) (sv 1)) (wSS G (sa 2) (sv 2)) (wSS G (sa 3) (sv 3)) (wSS G (sa 4) (sv 4)) (wS G sd u53 u54 u55 u56 u57 u58 u59 u60 u61 u62)).symm
      have hD : va_D A (wH G hd (hc - (1 : Int32)) sa sv ++ (wS G sd u53 u54 u55 u56 u57 u58 u59 u60 u61 u62)) := hD.perm (pm7_01234_65 (wH0 G hd (hc - (1 : Int32)) sa) (wSS G (sa 0) (sv 0)) (wSS G (sa 1) (sv 1)) (wSS G (sa 2) (sv 2)) (wSS G (sa 3) (sv 3)) (wSS G (sa 4) (sv 4)) (wS G sd u53 u54 u55 u56 u57 u58 u59 u60 u61 u62)).symm
      try dsimp only at h
      exact W.vret hx hb hr (fun t ht hW => ⟨⟨((hc - (1 : Int32)), u53, u54, u55, u56, u57, u58, u59, u60, u61, u62), rfl, h, by rw [ht]; exact hP, hD⟩, hS.F ht⟩) hS.2.2 dX2_pop_31
  · have h := h.2 c_1
    exact W.vret hx hb hr (fun t ht hW => ⟨⟨(hc, inp, otp, tc, fc, on, ze, ou, wd, lo, up), rfl, h, by rw [ht]; exact hP, hD⟩, hS.F ht⟩) hS.2.2 dX2_pop_7
