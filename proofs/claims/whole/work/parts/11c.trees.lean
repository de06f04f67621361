/-! ===== trees (written by wip/whole/gen/emit.py) ===== -/
abbrev K_X4_leftOf_5 (l : Launch) (G : zG) (d : Nat) (P : Int64 → zIM → zLM → Prop) (I : zIM) (L : zLM) (x1 : Int32) (x2 : Int64) (x4 : Int32) : Prop := zWp (zXl2 l G d P) mX4_leftOf (0, 0) 5 [some (.ref 14), some (.int x1), some (.long x2), none, some (.int x4)] [] (zs I L)
abbrev K_X4_solve_19 (l : Launch) (G : zG) (d : Nat) (P : zIM → zLM → Prop) (I : zIM) (L : zLM) (x1 : Int32) : Prop := zWp (zXv l G d P) mX4_solve (0, 0) 19 [some (.ref 14), some (.int x1), none, none] [] (zs I L)
abbrev K_X4_solve_25 (l : Launch) (G : zG) (d : Nat) (P : zIM → zLM → Prop) (I : zIM) (L : zLM) (x1 : Int32) (x2 : Int32) : Prop := zWp (zXv l G d P) mX4_solve (0, 0) 25 [some (.ref 14), some (.int x1), some (.int x2), none] [] (zs I L)
abbrev K_X4_solve_38 (l : Launch) (G : zG) (d : Nat) (P : zIM → zLM → Prop) (I : zIM) (L : zLM) (x1 : Int32) (x2 : Int32) (x3 : Int32) : Prop := zWp (zXv l G d P) mX4_solve (0, 0) 38 [some (.ref 14), some (.int x1), some (.int x2), some (.int x3)] [] (zs I L)
abbrev K_X4_spread_2 (l : Launch) (G : zG) (d : Nat) (P : zIM → zLM → Prop) (I : zIM) (L : zLM) (x1 : Int32) : Prop := zWp (zXv l G d P) mX4_spread (0, 0) 2 [some (.ref 14), some (.int x1), none, none] [] (zs I L)
abbrev K_X4_spread_24 (l : Launch) (G : zG) (d : Nat) (P : zIM → zLM → Prop) (I : zIM) (L : zLM) (x1 : Int32) : Prop := zWp (zXv l G d P) mX4_spread (0, 0) 24 [some (.ref 14), some (.int x1), none, none] [] (zs I L)
abbrev K_X4_spread_81 (l : Launch) (G : zG) (d : Nat) (P : zIM → zLM → Prop) (I : zIM) (L : zLM) (x1 : Int32) : Prop := zWp (zXv l G d P) mX4_spread (0, 0) 81 [some (.ref 14), some (.int x1), none, none] [] (zs I L)
abbrev K_X4_spread_94 (l : Launch) (G : zG) (d : Nat) (P : zIM → zLM → Prop) (I : zIM) (L : zLM) (x1 : Int32) (x2 : Int32) : Prop := zWp (zXv l G d P) mX4_spread (0, 0) 94 [some (.ref 14), some (.int x1), some (.int x2), none] [] (zs I L)
abbrev K_X4_spread_101 (l : Launch) (G : zG) (d : Nat) (P : zIM → zLM → Prop) (I : zIM) (L : zLM) (x1 : Int32) (x2 : Int32) (x3 : Int32) : Prop := zWp (zXv l G d P) mX4_spread (0, 0) 101 [some (.ref 14), some (.int x1), some (.int x2), some (.int x3)] [] (zs I L)
abbrev K_X4_findNumbers_2 (l : Launch) (G : zG) (d : Nat) (P : zIM → zLM → Prop) (I : zIM) (L : zLM) (x1 : Int32) : Prop := zWp (zXv l G d P) mX4_findNumbers (0, 0) 2 [some (.ref 14), some (.int x1), none, none, none, none] [] (zs I L)
abbrev K_X4_findNumbers_10 (l : Launch) (G : zG) (d : Nat) (P : zIM → zLM → Prop) (I : zIM) (L : zLM) (x1 : Int32) (x2 : Int32) : Prop := zWp (zXv l G d P) mX4_findNumbers (0, 0) 10 [some (.ref 14), some (.int x1), some (.int x2), none, none, none] [] (zs I L)
abbrev K_X4_findNumbers_23 (l : Launch) (G : zG) (d : Nat) (P : zIM → zLM → Prop) (I : zIM) (L : zLM) (x1 : Int32) (x2 : Int32) (x3 : Int32) : Prop := zWp (zXv l G d P) mX4_findNumbers (0, 0) 23 [some (.ref 14), some (.int x1), some (.int x2), some (.int x3), none, none] [] (zs I L)
abbrev K_X4_findNumbers_48 (l : Launch) (G : zG) (d : Nat) (P : zIM → zLM → Prop) (I : zIM) (L : zLM) (x1 : Int32) (x2 : Int32) (x3 : Int32) (x4 : Int32) (x5 : Int32) : Prop := zWp (zXv l G d P) mX4_findNumbers (0, 0) 48 [some (.ref 14), some (.int x1), some (.int x2), some (.int x3), some (.int x4), some (.int x5)] [] (zs I L)
abbrev K_X4_solveAt_187 (l : Launch) (G : zG) (d : Nat) (P : zIM → zLM → Prop) (I : zIM) (L : zLM) (x4 : Int32) (x6 : Int32) (x7 : Int32) (x8 : Int32) (x9 : Int32) : Prop := zWp (zXv l G d P) mX4_solveAt (0, 0) 187 [some (.ref 14), none, none, none, some (.int x4), none, some (.int x6), some (.int x7), some (.int x8), some (.int x9)] [] (zs I L)
abbrev K_X4_solveAt_61 (l : Launch) (G : zG) (d : Nat) (P : zIM → zLM → Prop) (I : zIM) (L : zLM) (x3 : Int32) (x4 : Int32) (x5 : Int64) (x7 : Int32) : Prop := zWp (zXv l G d P) mX4_solveAt (0, 0) 61 [some (.ref 14), none, none, some (.int x3), some (.int x4), some (.long x5), none, some (.int x7), none, none] [] (zs I L)
abbrev K_X4_bestAim_28 (l : Launch) (G : zG) (d : Nat) (P : Int32 → zIM → zLM → Prop) (I : zIM) (L : zLM) (x1 : Int32) (x2 : Int32) (x3 : Int32) (x4 : Int32) (x5 : Int32) (x6 : Int64) (x8 : Int32) : Prop := zWp (zXi l G d P) mX4_bestAim (0, 0) 28 [some (.ref 14), some (.int x1), some (.int x2), some (.int x3), some (.int x4), some (.int x5), some (.long x6), none, some (.int x8), none, none, none] [] (zs I L)
set_option maxHeartbeats 4000000 in
set_option maxRecDepth 100000 in
theorem t_X4_forgetNumbers {l : Launch} {G : zG} {d : Nat} {P : zIM → zLM → Prop} {I : zIM} {L : zLM}   (h : P (xI I 14 8 (0 : Int32)) L) : zCv l G d mX4_forgetNumbers [.ref 14] I L P := by
  refine zCn.of (ls := [some (.ref 14)]) (by decide) (Nat.le_of_ble_eq_true rfl) rfl ?_
  refine z_aload_n (pc' := 1) (x := 14) dX4_forgetNumbers_0 rfl rfl ?_
  refine z_iconst (pc' := 2) (v := 0) dX4_forgetNumbers_1 rfl (by decide) ?_
  refine z_puti (pc' := 5) (w' := zs (xI I 14 8 (0 : Int32)) L) dX4_forgetNumbers_2 rfl fl_X4_28 rfl rfl rfl rfl rfl rfl ?_
  exact z_vret dX4_forgetNumbers_5 rfl ⟨Nat.le_refl _, Nat.le_refl _⟩ ⟨_, _, rfl, rfl, h⟩
set_option maxHeartbeats 4000000 in
set_option maxRecDepth 100000 in
theorem t_X4_whole {l : Launch} {G : zG} {d : Nat} {P : Int64 → zIM → zLM → Prop} {I : zIM} {L : zLM}   (h : ∃ j1 : Nat, (I 1 7) = nI j1 ∧ j1 < 10 ∧ (P (zPOW j1) I L)) : zCl l G d mX4_whole [.ref 14] I L P := by
  refine zCn.of (ls := [some (.ref 14)]) (by decide) (Nat.le_of_ble_eq_true rfl) rfl ?_
  refine z_gpow (pc' := 3) dX4_whole_0 rfl gs_X4_40 ?_
  refine z_aload_n (pc' := 4) (x := 14) dX4_whole_3 rfl rfl ?_
  refine z_getr (pc' := 7) (x := 1) dX4_whole_4 rfl fl_X4_32 rfl rfl rfl ?_
  refine z_geti (pc' := 10) (x := (I 1 7)) dX4_whole_7 rfl fl_X4_43 rfl rfl rfl ?_
  obtain ⟨j1, ha1, hb1, h⟩ := h
  refine z_tpow (pc' := 11) (j := j1) dX4_whole_10 rfl ha1 hb1 ?_
  exact z_lret dX4_whole_11 rfl ⟨Nat.le_refl _, Nat.le_refl _⟩ ⟨_, _, _, rfl, rfl, h⟩
set_option maxHeartbeats 4000000 in
set_option maxRecDepth 100000 in
theorem t_X4_worthAtFirst {l : Launch} {G : zG} {d : Nat} {P : Int64 → zIM → zLM → Prop} {I : zIM} {L : zLM} {x1 : Int32} {x2 : Int32} {x3 : Int32}  (h : ∃ (d1 : Nat) (P1 : Int32 → zIM → zLM → Prop), d1 + 1 ≤ d ∧ zCi l G d1 mX4_situation [.int (0 : Int32), .int x1, .int x2] I L P1 ∧ ∀ (y1 : Int32) (I1 : zIM) (L1 : zLM), P1 y1 I1 L1 → (∃ j2 : Nat, ((y1 * (4 : Int32)) + x3) = nI j2 ∧ j2 < 2560 ∧ (P (L1 16 j2) I1 L1))) : zCl l G d mX4_worthAtFirst [.ref 14, .int x1, .int x2, .int x3] I L P := by
  refine zCn.of (ls := [some (.ref 14), some (.int x1), some (.int x2), some (.int x3)]) (by decide) (Nat.le_of_ble_eq_true rfl) rfl ?_
  refine z_aload_n (pc' := 1) (x := 14) dX4_worthAtFirst_0 rfl rfl ?_
  refine z_getr (pc' := 4) (x := 16) dX4_worthAtFirst_1 rfl fl_X4_15 rfl rfl rfl ?_
  refine z_iconst (pc' := 5) (v := 0) dX4_worthAtFirst_4 rfl (by decide) ?_
  refine z_iload_n (pc' := 6) (x := x1) dX4_worthAtFirst_5 rfl rfl ?_
  refine z_iload_n (pc' := 7) (x := x2) dX4_worthAtFirst_6 rfl rfl ?_
  obtain ⟨d1, P1, hd1, hC1, h⟩ := h
  refine z_callS (pc' := 10) (M' := mX4_situation) (As := [.int (0 : Int32), .int x1, .int x2]) dX4_worthAtFirst_7 rfl ml_X4_49 me_X4_situation hC1 rfl hd1 (Nat.le_of_ble_eq_true rfl) ⟨Nat.le_refl _, Nat.le_refl _⟩ rfl ?_
  rintro _ _ ⟨y1, I1, L1, rfl, rfl, hP1⟩
  replace h := h y1 I1 L1 hP1
  refine z_iconst (pc' := 11) (v := 4) dX4_worthAtFirst_10 rfl (by decide) ?_
  refine z_imul (pc' := 12) dX4_worthAtFirst_11 rfl ?_
  refine z_iload_n (pc' := 13) (x := x3) dX4_worthAtFirst_12 rfl rfl ?_
  refine z_iadd (pc' := 14) dX4_worthAtFirst_13 rfl ?_
  obtain ⟨j2, ha2, hb2, h⟩ := h
  refine z_lald (pc' := 15) (x := (L1 16 j2)) (j := j2) dX4_worthAtFirst_14 rfl rfl (by decide) ha2 hb2 rfl ?_
  exact z_lret dX4_worthAtFirst_15 rfl ⟨Nat.le_refl _, Nat.le_refl _⟩ ⟨_, _, _, rfl, rfl, h⟩
set_option maxHeartbeats 4000000 in
set_option maxRecDepth 100000 in
theorem t_X4_aimAt {l : Launch} {G : zG} {d : Nat} {P : Int32 → zIM → zLM → Prop} {I : zIM} {L : zLM} {x1 : Int32} {x2 : Int32} {x3 : Int32}  (h : ∃ (d1 : Nat) (P1 : Int32 → zIM → zLM → Prop), d1 + 1 ≤ d ∧ zCi l G d1 mX4_situation [.int x1, .int x2, .int x3] I L P1 ∧ ∀ (y1 : Int32) (I1 : zIM) (L1 : zLM), P1 y1 I1 L1 → (∃ j2 : Nat, y1 = nI j2 ∧ j2 < 640 ∧ (P (I1 17 j2) I1 L1))) : zCi l G d mX4_aimAt [.ref 14, .int x1, .int x2, .int x3] I L P := by
  refine zCn.of (ls := [some (.ref 14), some (.int x1), some (.int x2), some (.int x3)]) (by decide) (Nat.le_of_ble_eq_true rfl) rfl ?_
  refine z_aload_n (pc' := 1) (x := 14) dX4_aimAt_0 rfl rfl ?_
  refine z_getr (pc' := 4) (x := 17) dX4_aimAt_1 rfl fl_X4_18 rfl rfl rfl ?_
  refine z_iload_n (pc' := 5) (x := x1) dX4_aimAt_4 rfl rfl ?_
  refine z_iload_n (pc' := 6) (x := x2) dX4_aimAt_5 rfl rfl ?_
  refine z_iload_n (pc' := 7) (x := x3) dX4_aimAt_6 rfl rfl ?_
  obtain ⟨d1, P1, hd1, hC1, h⟩ := h
  refine z_callS (pc' := 10) (M' := mX4_situation) (As := [.int x1, .int x2, .int x3]) dX4_aimAt_7 rfl ml_X4_49 me_X4_situation hC1 rfl hd1 (Nat.le_of_ble_eq_true rfl) ⟨Nat.le_refl _, Nat.le_refl _⟩ rfl ?_
  rintro _ _ ⟨y1, I1, L1, rfl, rfl, hP1⟩
  replace h := h y1 I1 L1 hP1
  obtain ⟨j2, ha2, hb2, h⟩ := h
  refine z_iald (pc' := 11) (x := (I1 17 j2)) (j := j2) dX4_aimAt_10 rfl rfl (by decide) ha2 hb2 rfl ?_
  exact z_iret dX4_aimAt_11 rfl rfl ⟨Nat.le_refl _, Nat.le_refl _⟩ ⟨_, _, _, rfl, rfl, h⟩
set_option maxHeartbeats 4000000 in
set_option maxRecDepth 100000 in
theorem t_X4_numberAt {l : Launch} {G : zG} {d : Nat} {P : Int32 → zIM → zLM → Prop} {I : zIM} {L : zLM} {x1 : Int32} {x2 : Int32} {x3 : Int32} {x4 : Int32}  (h : ((¬ x3 = (-2 : Int32) → (∃ (d2 : Nat) (P2 : Int32 → zIM → zLM → Prop), d2 + 1 ≤ d ∧ zCi l G d2 mJ6_bitCount_0f7a4 [.int x4] I L P2 ∧ ∀ (y2 : Int32) (I2 : zIM) (L2 : zLM), P2 y2 I2 L2 → (∃ (d3 : Nat) (P3 : Int32 → zIM → zLM → Prop), d3 + 1 ≤ d ∧ zCi l G d3 mX4_numberPlace [.int x1, .int y2, .int x2, .int x3] I2 L2 P3 ∧ ∀ (y3 : Int32) (I3 : zIM) (L3 : zLM), P3 y3 I3 L3 → (∃ j4 : Nat, y3 = nI j4 ∧ j4 < 800 ∧ (P (I3 19 j4) I3 L3))))) ∧ (x3 = (-2 : Int32) → (P (0 : Int32) I L)))) : zCi l G d mX4_numberAt [.ref 14, .int x1, .int x2, .int x3, .int x4] I L P := by
  refine zCn.of (ls := [some (.ref 14), some (.int x1), some (.int x2), some (.int x3), some (.int x4)]) (by decide) (Nat.le_of_ble_eq_true rfl) rfl ?_
  refine z_iload_n (pc' := 1) (x := x3) dX4_numberAt_0 rfl rfl ?_
  refine z_bipush (pc' := 3) (v := -2) dX4_numberAt_1 rfl (by decide) ?_
  refine z_icmp_ne (pc' := 6) (tgt := 10) dX4_numberAt_3 rfl (by decide) (fun c1 => ?_) (fun c1 => ?_)
  · replace h := h.1 c1
    refine z_aload_n (pc' := 11) (x := 14) dX4_numberAt_10 rfl rfl ?_
    refine z_getr (pc' := 14) (x := 19) dX4_numberAt_11 rfl fl_X4_25 rfl rfl rfl ?_
    refine z_iload_n (pc' := 15) (x := x1) dX4_numberAt_14 rfl rfl ?_
    refine z_iload (pc' := 17) (x := x4) dX4_numberAt_15 rfl rfl ?_
    obtain ⟨d2, P2, hd2, hC2, h⟩ := h
    refine z_callS (pc' := 20) (M' := mJ6_bitCount_0f7a4) (As := [.int x4]) dX4_numberAt_17 rfl ml_X4_53 me_J6_bitCount_0f7a4 hC2 rfl hd2 (Nat.le_of_ble_eq_true rfl) ⟨Nat.le_refl _, Nat.le_refl _⟩ rfl ?_
    rintro _ _ ⟨y2, I2, L2, rfl, rfl, hP2⟩
    replace h := h y2 I2 L2 hP2
    refine z_iload_n (pc' := 21) (x := x2) dX4_numberAt_20 rfl rfl ?_
    refine z_iload_n (pc' := 22) (x := x3) dX4_numberAt_21 rfl rfl ?_
    obtain ⟨d3, P3, hd3, hC3, h⟩ := h
    refine z_callS (pc' := 25) (M' := mX4_numberPlace) (As := [.int x1, .int y2, .int x2, .int x3]) dX4_numberAt_22 rfl ml_X4_59 me_X4_numberPlace hC3 rfl hd3 (Nat.le_of_ble_eq_true rfl) ⟨Nat.le_refl _, Nat.le_refl _⟩ rfl ?_
    rintro _ _ ⟨y3, I3, L3, rfl, rfl, hP3⟩
    replace h := h y3 I3 L3 hP3
    obtain ⟨j4, ha4, hb4, h⟩ := h
    refine z_iald (pc' := 26) (x := (I3 19 j4)) (j := j4) dX4_numberAt_25 rfl rfl (by decide) ha4 hb4 rfl ?_
    exact z_iret dX4_numberAt_26 rfl rfl ⟨Nat.le_refl _, Nat.le_refl _⟩ ⟨_, _, _, rfl, rfl, h⟩
  · replace h := h.2 c1
    refine z_iconst (pc' := 7) (v := 0) dX4_numberAt_6 rfl (by decide) ?_
    refine z_goto (pc' := 26) dX4_numberAt_7 (by decide) ?_
    exact z_iret dX4_numberAt_26 rfl rfl ⟨Nat.le_refl _, Nat.le_refl _⟩ ⟨_, _, _, rfl, rfl, h⟩
set_option maxHeartbeats 4000000 in
set_option maxRecDepth 100000 in
theorem t_X4_leftOf {l : Launch} {G : zG} {d : Nat} {P : Int64 → zIM → zLM → Prop} {I : zIM} {L : zLM} {x1 : Int32}  (h : K_X4_leftOf_5 l G d P I L x1 (0 : Int64) (0 : Int32)) : zCl l G d mX4_leftOf [.ref 14, .int x1] I L P := by
  refine zCn.of (ls := [some (.ref 14), some (.int x1), none, none, none]) (by decide) (Nat.le_of_ble_eq_true rfl) rfl ?_
  refine z_lconst (pc' := 1) (v := 0) dX4_leftOf_0 rfl (by decide) ?_
  refine z_lstore_n (pc' := 2) (ls' := [some (.ref 14), some (.int x1), some (.long (0 : Int64)), none, none]) dX4_leftOf_1 rfl (by decide) rfl ?_
  refine z_iconst (pc' := 3) (v := 0) dX4_leftOf_2 rfl (by decide) ?_
  refine z_istore (pc' := 5) (ls' := [some (.ref 14), some (.int x1), some (.long (0 : Int64)), none, some (.int (0 : Int32))]) dX4_leftOf_3 rfl (by decide) rfl ?_
  exact h
set_option maxHeartbeats 4000000 in
set_option maxRecDepth 100000 in
theorem t_X4_leftOf_5 {l : Launch} {G : zG} {d : Nat} {P : Int64 → zIM → zLM → Prop} {I : zIM} {L : zLM} {x1 : Int32} {x2 : Int64} {x4 : Int32}   (h : (((16 : Int32) ≤ x4 → (P x2 I L)) ∧ (¬ (16 : Int32) ≤ x4 → (((((x4 >>> (x1 &&& 31)) &&& (1 : Int32)) = 0 → (K_X4_leftOf_5 l G d P I L x1 x2 (x4 + (1 : Int32)))) ∧ (¬ ((x4 >>> (x1 &&& 31)) &&& (1 : Int32)) = 0 → (∃ j3 : Nat, x4 = nI j3 ∧ j3 < 16 ∧ (K_X4_leftOf_5 l G d P I L x1 (x2 + (L 15 j3)) (x4 + (1 : Int32)))))))))) : K_X4_leftOf_5 l G d P I L x1 x2 x4  := by
  refine z_iload (pc' := 7) (x := x4) dX4_leftOf_5 rfl rfl ?_
  refine z_bipush (pc' := 9) (v := 16) dX4_leftOf_7 rfl (by decide) ?_
  refine z_icmp_ge (pc' := 12) (tgt := 37) dX4_leftOf_9 rfl (by decide) (fun c1 => ?_) (fun c1 => ?_)
  · replace h := h.1 c1
    refine z_lload_n (pc' := 38) (x := x2) dX4_leftOf_37 rfl rfl ?_
    exact z_lret dX4_leftOf_38 rfl ⟨Nat.le_refl _, Nat.le_refl _⟩ ⟨_, _, _, rfl, rfl, h⟩
  · replace h := h.2 c1
    refine z_iload (pc' := 14) (x := x4) dX4_leftOf_12 rfl rfl ?_
    refine z_iload_n (pc' := 15) (x := x1) dX4_leftOf_14 rfl rfl ?_
    refine z_ishr (pc' := 16) dX4_leftOf_15 rfl ?_
    refine z_iconst (pc' := 17) (v := 1) dX4_leftOf_16 rfl (by decide) ?_
    refine z_iand (pc' := 18) dX4_leftOf_17 rfl ?_
    refine z_if_eq (pc' := 21) (tgt := 31) dX4_leftOf_18 rfl (by decide) (fun c2 => ?_) (fun c2 => ?_)
    · replace h := h.1 c2
      refine z_iinc (pc' := 34) (x := x4) (v := (x4 + (1 : Int32))) (ls' := [some (.ref 14), some (.int x1), some (.long x2), none, some (.int (x4 + (1 : Int32)))]) dX4_leftOf_31 rfl rfl (by rfl) (by decide) rfl ?_
      refine z_goto (pc' := 5) dX4_leftOf_34 (by decide) ?_
      exact h
    · replace h := h.2 c2
      refine z_lload_n (pc' := 22) (x := x2) dX4_leftOf_21 rfl rfl ?_
      refine z_aload_n (pc' := 23) (x := 14) dX4_leftOf_22 rfl rfl ?_
      refine z_getr (pc' := 26) (x := 15) dX4_leftOf_23 rfl fl_X4_9 rfl rfl rfl ?_
      refine z_iload (pc' := 28) (x := x4) dX4_leftOf_26 rfl rfl ?_
      obtain ⟨j3, ha3, hb3, h⟩ := h
      refine z_lald (pc' := 29) (x := (L 15 j3)) (j := j3) dX4_leftOf_28 rfl rfl (by decide) ha3 hb3 rfl ?_
      refine z_ladd (pc' := 30) dX4_leftOf_29 rfl ?_
      refine z_lstore_n (pc' := 31) (ls' := [some (.ref 14), some (.int x1), some (.long (x2 + (L 15 j3))), none, some (.int x4)]) dX4_leftOf_30 rfl (by decide) rfl ?_
      refine z_iinc (pc' := 34) (x := x4) (v := (x4 + (1 : Int32))) (ls' := [some (.ref 14), some (.int x1), some (.long (x2 + (L 15 j3))), none, some (.int (x4 + (1 : Int32)))]) dX4_leftOf_31 rfl rfl (by rfl) (by decide) rfl ?_
      refine z_goto (pc' := 5) dX4_leftOf_34 (by decide) ?_
      exact h
set_option maxHeartbeats 4000000 in
set_option maxRecDepth 100000 in
theorem t_X4_solve {l : Launch} {G : zG} {d : Nat} {P : zIM → zLM → Prop} {I : zIM} {L : zLM}   (h : ((¬ (I 14 8) = 0 → (K_X4_solve_19 l G d P I L (I 1 7))) ∧ ((I 14 8) = 0 → (∃ (d2 : Nat) (P2 : zIM → zLM → Prop), d2 + 1 ≤ d ∧ zCv l G d2 mX4_findNumbers [.ref 14] I L P2 ∧ ∀ (I2 : zIM) (L2 : zLM), P2 I2 L2 → (K_X4_solve_19 l G d P I2 L2 (I2 1 7)))))) : zCv l G d mX4_solve [.ref 14] I L P := by
  refine zCn.of (ls := [some (.ref 14), none, none, none]) (by decide) (Nat.le_of_ble_eq_true rfl) rfl ?_
  refine z_aload_n (pc' := 1) (x := 14) dX4_solve_0 rfl rfl ?_
  refine z_geti (pc' := 4) (x := (I 14 8)) dX4_solve_1 rfl fl_X4_28 rfl rfl rfl ?_
  refine z_if_ne (pc' := 7) (tgt := 11) dX4_solve_4 rfl (by decide) (fun c1 => ?_) (fun c1 => ?_)
  · replace h := h.1 c1
    refine z_aload_n (pc' := 12) (x := 14) dX4_solve_11 rfl rfl ?_
    refine z_getr (pc' := 15) (x := 1) dX4_solve_12 rfl fl_X4_32 rfl rfl rfl ?_
    refine z_geti (pc' := 18) (x := (I 1 7)) dX4_solve_15 rfl fl_X4_43 rfl rfl rfl ?_
    refine z_istore_n (pc' := 19) (ls' := [some (.ref 14), some (.int (I 1 7)), none, none]) dX4_solve_18 rfl (by decide) rfl ?_
    exact h
  · replace h := h.2 c1
    refine z_aload_n (pc' := 8) (x := 14) dX4_solve_7 rfl rfl ?_
    obtain ⟨d2, P2, hd2, hC2, h⟩ := h
    refine z_callV (pc' := 11) (M' := mX4_findNumbers) (As := []) dX4_solve_8 rfl ml_X4_63 me_X4_findNumbers hC2 rfl (by decide) rfl rfl hd2 (Nat.le_of_ble_eq_true rfl) ⟨Nat.le_refl _, Nat.le_refl _⟩ rfl ?_
    rintro _ _ ⟨I2, L2, rfl, rfl, hP2⟩
    replace h := h I2 L2 hP2
    refine z_aload_n (pc' := 12) (x := 14) dX4_solve_11 rfl rfl ?_
    refine z_getr (pc' := 15) (x := 1) dX4_solve_12 rfl fl_X4_32 rfl rfl rfl ?_
    refine z_geti (pc' := 18) (x := (I2 1 7)) dX4_solve_15 rfl fl_X4_43 rfl rfl rfl ?_
    refine z_istore_n (pc' := 19) (ls' := [some (.ref 14), some (.int (I2 1 7)), none, none]) dX4_solve_18 rfl (by decide) rfl ?_
    exact h
set_option maxHeartbeats 4000000 in
set_option maxRecDepth 100000 in
theorem t_X4_solve_19 {l : Launch} {G : zG} {d : Nat} {P : zIM → zLM → Prop} {I : zIM} {L : zLM} {x1 : Int32}   (h : ((x1 < 0 → (P I L)) ∧ (¬ x1 < 0 → (K_X4_solve_25 l G d P I L x1 (1 : Int32))))) : K_X4_solve_19 l G d P I L x1  := by
  refine z_iload_n (pc' := 20) (x := x1) dX4_solve_19 rfl rfl ?_
  refine z_if_lt (pc' := 23) (tgt := 82) dX4_solve_20 rfl (by decide) (fun c1 => ?_) (fun c1 => ?_)
  · replace h := h.1 c1
    exact z_vret dX4_solve_82 rfl ⟨Nat.le_refl _, Nat.le_refl _⟩ ⟨_, _, rfl, rfl, h⟩
  · replace h := h.2 c1
    refine z_iconst (pc' := 24) (v := 1) dX4_solve_23 rfl (by decide) ?_
    refine z_istore_n (pc' := 25) (ls' := [some (.ref 14), some (.int x1), some (.int (1 : Int32)), none]) dX4_solve_24 rfl (by decide) rfl ?_
    exact h
set_option maxHeartbeats 4000000 in
set_option maxRecDepth 100000 in
theorem t_X4_solve_25 {l : Launch} {G : zG} {d : Nat} {P : zIM → zLM → Prop} {I : zIM} {L : zLM} {x1 : Int32} {x2 : Int32}   (h : ∃ (d1 : Nat) (P1 : Int32 → zIM → zLM → Prop), d1 + 1 ≤ d ∧ zCi l G d1 mX2_all [.ref 1] I L P1 ∧ ∀ (y1 : Int32) (I1 : zIM) (L1 : zLM), P1 y1 I1 L1 → (((y1 < x2 → (K_X4_solve_19 l G d P I1 L1 (x1 + (-1 : Int32)))) ∧ (¬ y1 < x2 → (K_X4_solve_38 l G d P I1 L1 x1 x2 (0 : Int32)))))) : K_X4_solve_25 l G d P I L x1 x2  := by
  refine z_iload_n (pc' := 26) (x := x2) dX4_solve_25 rfl rfl ?_
  refine z_aload_n (pc' := 27) (x := 14) dX4_solve_26 rfl rfl ?_
  refine z_getr (pc' := 30) (x := 1) dX4_solve_27 rfl fl_X4_32 rfl rfl rfl ?_
  obtain ⟨d1, P1, hd1, hC1, h⟩ := h
  refine z_callV (pc' := 33) (M' := mX2_all) (As := []) dX4_solve_30 rfl ml_X4_66 me_X2_all hC1 rfl (by decide) rfl rfl hd1 (Nat.le_of_ble_eq_true rfl) ⟨Nat.le_refl _, Nat.le_refl _⟩ rfl ?_
  rintro _ _ ⟨y1, I1, L1, rfl, rfl, hP1⟩
  replace h := h y1 I1 L1 hP1
  refine z_icmp_gt (pc' := 36) (tgt := 76) dX4_solve_33 rfl (by decide) (fun c2 => ?_) (fun c2 => ?_)
  · replace h := h.1 c2
    refine z_iinc (pc' := 79) (x := x1) (v := (x1 + (-1 : Int32))) (ls' := [some (.ref 14), some (.int (x1 + (-1 : Int32))), some (.int x2), none]) dX4_solve_76 rfl rfl (by rfl) (by decide) rfl ?_
    refine z_goto (pc' := 19) dX4_solve_79 (by decide) ?_
    refine z_sub (pc' := 0) [some (.ref 14), some (.int (x1 + (-1 : Int32))), none, none] (zsub_s (zsub_s (zsub_n (zsub_n zsub_nil)))) ?_
    exact h
  · replace h := h.2 c2
    refine z_iconst (pc' := 37) (v := 0) dX4_solve_36 rfl (by decide) ?_
    refine z_istore_n (pc' := 38) (ls' := [some (.ref 14), some (.int x1), some (.int x2), some (.int (0 : Int32))]) dX4_solve_37 rfl (by decide) rfl ?_
    exact h
set_option maxHeartbeats 4000000 in
set_option maxRecDepth 100000 in
theorem t_X4_solve_38 {l : Launch} {G : zG} {d : Nat} {P : zIM → zLM → Prop} {I : zIM} {L : zLM} {x1 : Int32} {x2 : Int32} {x3 : Int32}   (h : (((I 1 6) ≤ x3 → (K_X4_solve_25 l G d P I L x1 (x2 + (1 : Int32)))) ∧ (¬ (I 1 6) ≤ x3 → (((((x2 >>> (x3 &&& 31)) &&& (1 : Int32)) = 0 → (K_X4_solve_38 l G d P I L x1 x2 (x3 + (1 : Int32)))) ∧ (¬ ((x2 >>> (x3 &&& 31)) &&& (1 : Int32)) = 0 → (∃ (d3 : Nat) (P3 : zIM → zLM → Prop), d3 + 1 ≤ d ∧ zCv l G d3 mX4_solveAt [.ref 14, .int x1, .int x3, .int x2] I L P3 ∧ ∀ (I3 : zIM) (L3 : zLM), P3 I3 L3 → (K_X4_solve_38 l G d P I3 L3 x1 x2 (x3 + (1 : Int32)))))))))) : K_X4_solve_38 l G d P I L x1 x2 x3  := by
  refine z_iload_n (pc' := 39) (x := x3) dX4_solve_38 rfl rfl ?_
  refine z_aload_n (pc' := 40) (x := 14) dX4_solve_39 rfl rfl ?_
  refine z_getr (pc' := 43) (x := 1) dX4_solve_40 rfl fl_X4_32 rfl rfl rfl ?_
  refine z_geti (pc' := 46) (x := (I 1 6)) dX4_solve_43 rfl fl_X4_70 rfl rfl rfl ?_
  refine z_icmp_ge (pc' := 49) (tgt := 70) dX4_solve_46 rfl (by decide) (fun c1 => ?_) (fun c1 => ?_)
  · replace h := h.1 c1
    refine z_iinc (pc' := 73) (x := x2) (v := (x2 + (1 : Int32))) (ls' := [some (.ref 14), some (.int x1), some (.int (x2 + (1 : Int32))), some (.int x3)]) dX4_solve_70 rfl rfl (by rfl) (by decide) rfl ?_
    refine z_goto (pc' := 25) dX4_solve_73 (by decide) ?_
    refine z_sub (pc' := 0) [some (.ref 14), some (.int x1), some (.int (x2 + (1 : Int32))), none] (zsub_s (zsub_s (zsub_s (zsub_n zsub_nil)))) ?_
    exact h
  · replace h := h.2 c1
    refine z_iload_n (pc' := 50) (x := x2) dX4_solve_49 rfl rfl ?_
    refine z_iload_n (pc' := 51) (x := x3) dX4_solve_50 rfl rfl ?_
    refine z_ishr (pc' := 52) dX4_solve_51 rfl ?_
    refine z_iconst (pc' := 53) (v := 1) dX4_solve_52 rfl (by decide) ?_
    refine z_iand (pc' := 54) dX4_solve_53 rfl ?_
    refine z_if_eq (pc' := 57) (tgt := 64) dX4_solve_54 rfl (by decide) (fun c2 => ?_) (fun c2 => ?_)
    · replace h := h.1 c2
      refine z_iinc (pc' := 67) (x := x3) (v := (x3 + (1 : Int32))) (ls' := [some (.ref 14), some (.int x1), some (.int x2), some (.int (x3 + (1 : Int32)))]) dX4_solve_64 rfl rfl (by rfl) (by decide) rfl ?_
      refine z_goto (pc' := 38) dX4_solve_67 (by decide) ?_
      exact h
    · replace h := h.2 c2
      refine z_aload_n (pc' := 58) (x := 14) dX4_solve_57 rfl rfl ?_
      refine z_iload_n (pc' := 59) (x := x1) dX4_solve_58 rfl rfl ?_
      refine z_iload_n (pc' := 60) (x := x3) dX4_solve_59 rfl rfl ?_
      refine z_iload_n (pc' := 61) (x := x2) dX4_solve_60 rfl rfl ?_
      obtain ⟨d3, P3, hd3, hC3, h⟩ := h
      refine z_callV (pc' := 64) (M' := mX4_solveAt) (As := [.int x1, .int x3, .int x2]) dX4_solve_61 rfl ml_X4_73 me_X4_solveAt hC3 rfl (by decide) rfl rfl hd3 (Nat.le_of_ble_eq_true rfl) ⟨Nat.le_refl _, Nat.le_refl _⟩ rfl ?_
      rintro _ _ ⟨I3, L3, rfl, rfl, hP3⟩
      replace h := h I3 L3 hP3
      refine z_iinc (pc' := 67) (x := x3) (v := (x3 + (1 : Int32))) (ls' := [some (.ref 14), some (.int x1), some (.int x2), some (.int (x3 + (1 : Int32)))]) dX4_solve_64 rfl rfl (by rfl) (by decide) rfl ?_
      refine z_goto (pc' := 38) dX4_solve_67 (by decide) ?_
      exact h
set_option maxHeartbeats 4000000 in
set_option maxRecDepth 100000 in
theorem t_X4_spread {l : Launch} {G : zG} {d : Nat} {P : zIM → zLM → Prop} {I : zIM} {L : zLM}   (h : K_X4_spread_2 l G d P I L (0 : Int32)) : zCv l G d mX4_spread [.ref 14] I L P := by
  refine zCn.of (ls := [some (.ref 14), none, none, none]) (by decide) (Nat.le_of_ble_eq_true rfl) rfl ?_
  refine z_iconst (pc' := 1) (v := 0) dX4_spread_0 rfl (by decide) ?_
  refine z_istore_n (pc' := 2) (ls' := [some (.ref 14), some (.int (0 : Int32)), none, none]) dX4_spread_1 rfl (by decide) rfl ?_
  exact h
set_option maxHeartbeats 4000000 in
set_option maxRecDepth 100000 in
theorem t_X4_spread_2 {l : Launch} {G : zG} {d : Nat} {P : zIM → zLM → Prop} {I : zIM} {L : zLM} {x1 : Int32}   (h : (((640 : Int32) ≤ x1 → (K_X4_spread_24 l G d P I L (0 : Int32))) ∧ (¬ (640 : Int32) ≤ x1 → (∃ j2 : Nat, x1 = nI j2 ∧ j2 < 640 ∧ (K_X4_spread_2 l G d P I (xL L 18 j2 (0 : Int64)) (x1 + (1 : Int32))))))) : K_X4_spread_2 l G d P I L x1  := by
  refine z_iload_n (pc' := 3) (x := x1) dX4_spread_2 rfl rfl ?_
  refine z_sipush (pc' := 6) (v := 640) dX4_spread_3 rfl (by decide) ?_
  refine z_icmp_ge (pc' := 9) (tgt := 22) dX4_spread_6 rfl (by decide) (fun c1 => ?_) (fun c1 => ?_)
  · replace h := h.1 c1
    refine z_iconst (pc' := 23) (v := 0) dX4_spread_22 rfl (by decide) ?_
    refine z_istore_n (pc' := 24) (ls' := [some (.ref 14), some (.int (0 : Int32)), none, none]) dX4_spread_23 rfl (by decide) rfl ?_
    exact h
  · replace h := h.2 c1
    refine z_aload_n (pc' := 10) (x := 14) dX4_spread_9 rfl rfl ?_
    refine z_getr (pc' := 13) (x := 18) dX4_spread_10 rfl fl_X4_22 rfl rfl rfl ?_
    refine z_iload_n (pc' := 14) (x := x1) dX4_spread_13 rfl rfl ?_
    refine z_lconst (pc' := 15) (v := 0) dX4_spread_14 rfl (by decide) ?_
    obtain ⟨j2, ha2, hb2, h⟩ := h
    refine z_last (pc' := 16) (j := j2) (w' := zs I (xL L 18 j2 (0 : Int64))) dX4_spread_15 rfl rfl (by decide) ha2 hb2 rfl ?_
    refine z_iinc (pc' := 19) (x := x1) (v := (x1 + (1 : Int32))) (ls' := [some (.ref 14), some (.int (x1 + (1 : Int32))), none, none]) dX4_spread_16 rfl rfl (by rfl) (by decide) rfl ?_
    refine z_goto (pc' := 2) dX4_spread_19 (by decide) ?_
    exact h
set_option maxHeartbeats 4000000 in
set_option maxRecDepth 100000 in
theorem t_X4_spread_24 {l : Launch} {G : zG} {d : Nat} {P : zIM → zLM → Prop} {I : zIM} {L : zLM} {x1 : Int32}   (h : (((16 : Int32) ≤ x1 → (∃ (d2 : Nat) (P2 : Int32 → zIM → zLM → Prop), d2 + 1 ≤ d ∧ zCi l G d2 mX2_all [.ref 1] I (xL L 14 1 (0 : Int64)) P2 ∧ ∀ (y2 : Int32) (I2 : zIM) (L2 : zLM), P2 y2 I2 L2 → (∃ (d3 : Nat) (P3 : Int32 → zIM → zLM → Prop), d3 + 1 ≤ d ∧ zCi l G d3 mX2_first [.ref 1, .int y2] I2 L2 P3 ∧ ∀ (y3 : Int32) (I3 : zIM) (L3 : zLM), P3 y3 I3 L3 → (∃ (d4 : Nat) (P4 : Int32 → zIM → zLM → Prop), d4 + 1 ≤ d ∧ zCi l G d4 mX2_all [.ref 1] I3 L3 P4 ∧ ∀ (y4 : Int32) (I4 : zIM) (L4 : zLM), P4 y4 I4 L4 → (∃ (d5 : Nat) (P5 : Int32 → zIM → zLM → Prop), d5 + 1 ≤ d ∧ zCi l G d5 mX4_situation [.int (0 : Int32), .int y3, .int y4] I4 L4 P5 ∧ ∀ (y5 : Int32) (I5 : zIM) (L5 : zLM), P5 y5 I5 L5 → (∃ j6 : Nat, y5 = nI j6 ∧ j6 < 640 ∧ (K_X4_spread_81 l G d P I5 (xL L5 18 j6 (1 : Int64)) (0 : Int32)))))))) ∧ (¬ (16 : Int32) ≤ x1 → (∃ j7 : Nat, x1 = nI j7 ∧ j7 < 16 ∧ (K_X4_spread_24 l G d P I (xL L 15 j7 (0 : Int64)) (x1 + (1 : Int32))))))) : K_X4_spread_24 l G d P I L x1  := by
  refine z_iload_n (pc' := 25) (x := x1) dX4_spread_24 rfl rfl ?_
  refine z_bipush (pc' := 27) (v := 16) dX4_spread_25 rfl (by decide) ?_
  refine z_icmp_ge (pc' := 30) (tgt := 43) dX4_spread_27 rfl (by decide) (fun c1 => ?_) (fun c1 => ?_)
  · replace h := h.1 c1
    refine z_aload_n (pc' := 44) (x := 14) dX4_spread_43 rfl rfl ?_
    refine z_lconst (pc' := 45) (v := 0) dX4_spread_44 rfl (by decide) ?_
    refine z_putl (pc' := 48) (w' := zs I (xL L 14 1 (0 : Int64))) dX4_spread_45 rfl fl_X4_77 rfl rfl rfl rfl ?_
    refine z_aload_n (pc' := 49) (x := 14) dX4_spread_48 rfl rfl ?_
    refine z_getr (pc' := 52) (x := 18) dX4_spread_49 rfl fl_X4_22 rfl rfl rfl ?_
    refine z_iconst (pc' := 53) (v := 0) dX4_spread_52 rfl (by decide) ?_
    refine z_aload_n (pc' := 54) (x := 14) dX4_spread_53 rfl rfl ?_
    refine z_getr (pc' := 57) (x := 1) dX4_spread_54 rfl fl_X4_32 rfl rfl rfl ?_
    refine z_aload_n (pc' := 58) (x := 14) dX4_spread_57 rfl rfl ?_
    refine z_getr (pc' := 61) (x := 1) dX4_spread_58 rfl fl_X4_32 rfl rfl rfl ?_
    obtain ⟨d2, P2, hd2, hC2, h⟩ := h
    refine z_callV (pc' := 64) (M' := mX2_all) (As := []) dX4_spread_61 rfl ml_X4_66 me_X2_all hC2 rfl (by decide) rfl rfl hd2 (Nat.le_of_ble_eq_true rfl) ⟨Nat.le_refl _, Nat.le_refl _⟩ rfl ?_
    rintro _ _ ⟨y2, I2, L2, rfl, rfl, hP2⟩
    replace h := h y2 I2 L2 hP2
    obtain ⟨d3, P3, hd3, hC3, h⟩ := h
    refine z_callV (pc' := 67) (M' := mX2_first) (As := [.int y2]) dX4_spread_64 rfl ml_X4_81 me_X2_first hC3 rfl (by decide) rfl rfl hd3 (Nat.le_of_ble_eq_true rfl) ⟨Nat.le_refl _, Nat.le_refl _⟩ rfl ?_
    rintro _ _ ⟨y3, I3, L3, rfl, rfl, hP3⟩
    replace h := h y3 I3 L3 hP3
    refine z_aload_n (pc' := 68) (x := 14) dX4_spread_67 rfl rfl ?_
    refine z_getr (pc' := 71) (x := 1) dX4_spread_68 rfl fl_X4_32 rfl rfl rfl ?_
    obtain ⟨d4, P4, hd4, hC4, h⟩ := h
    refine z_callV (pc' := 74) (M' := mX2_all) (As := []) dX4_spread_71 rfl ml_X4_66 me_X2_all hC4 rfl (by decide) rfl rfl hd4 (Nat.le_of_ble_eq_true rfl) ⟨Nat.le_refl _, Nat.le_refl _⟩ rfl ?_
    rintro _ _ ⟨y4, I4, L4, rfl, rfl, hP4⟩
    replace h := h y4 I4 L4 hP4
    obtain ⟨d5, P5, hd5, hC5, h⟩ := h
    refine z_callS (pc' := 77) (M' := mX4_situation) (As := [.int (0 : Int32), .int y3, .int y4]) dX4_spread_74 rfl ml_X4_49 me_X4_situation hC5 rfl hd5 (Nat.le_of_ble_eq_true rfl) ⟨Nat.le_refl _, Nat.le_refl _⟩ rfl ?_
    rintro _ _ ⟨y5, I5, L5, rfl, rfl, hP5⟩
    replace h := h y5 I5 L5 hP5
    refine z_lconst (pc' := 78) (v := 1) dX4_spread_77 rfl (by decide) ?_
    obtain ⟨j6, ha6, hb6, h⟩ := h
    refine z_last (pc' := 79) (j := j6) (w' := zs I5 (xL L5 18 j6 (1 : Int64))) dX4_spread_78 rfl rfl (by decide) ha6 hb6 rfl ?_
    refine z_iconst (pc' := 80) (v := 0) dX4_spread_79 rfl (by decide) ?_
    refine z_istore_n (pc' := 81) (ls' := [some (.ref 14), some (.int (0 : Int32)), none, none]) dX4_spread_80 rfl (by decide) rfl ?_
    exact h
  · replace h := h.2 c1
    refine z_aload_n (pc' := 31) (x := 14) dX4_spread_30 rfl rfl ?_
    refine z_getr (pc' := 34) (x := 15) dX4_spread_31 rfl fl_X4_9 rfl rfl rfl ?_
    refine z_iload_n (pc' := 35) (x := x1) dX4_spread_34 rfl rfl ?_
    refine z_lconst (pc' := 36) (v := 0) dX4_spread_35 rfl (by decide) ?_
    obtain ⟨j7, ha7, hb7, h⟩ := h
    refine z_last (pc' := 37) (j := j7) (w' := zs I (xL L 15 j7 (0 : Int64))) dX4_spread_36 rfl rfl (by decide) ha7 hb7 rfl ?_
    refine z_iinc (pc' := 40) (x := x1) (v := (x1 + (1 : Int32))) (ls' := [some (.ref 14), some (.int (x1 + (1 : Int32))), none, none]) dX4_spread_37 rfl rfl (by rfl) (by decide) rfl ?_
    refine z_goto (pc' := 24) dX4_spread_40 (by decide) ?_
    exact h
set_option maxHeartbeats 4000000 in
set_option maxRecDepth 100000 in
theorem t_X4_spread_81 {l : Launch} {G : zG} {d : Nat} {P : zIM → zLM → Prop} {I : zIM} {L : zLM} {x1 : Int32}   (h : (((I 1 7) < x1 → (P I L)) ∧ (¬ (I 1 7) < x1 → (K_X4_spread_94 l G d P I L x1 (0 : Int32))))) : K_X4_spread_81 l G d P I L x1  := by
  refine z_iload_n (pc' := 82) (x := x1) dX4_spread_81 rfl rfl ?_
  refine z_aload_n (pc' := 83) (x := 14) dX4_spread_82 rfl rfl ?_
  refine z_getr (pc' := 86) (x := 1) dX4_spread_83 rfl fl_X4_32 rfl rfl rfl ?_
  refine z_geti (pc' := 89) (x := (I 1 7)) dX4_spread_86 rfl fl_X4_43 rfl rfl rfl ?_
  refine z_icmp_gt (pc' := 92) (tgt := 148) dX4_spread_89 rfl (by decide) (fun c1 => ?_) (fun c1 => ?_)
  · replace h := h.1 c1
    exact z_vret dX4_spread_148 rfl ⟨Nat.le_refl _, Nat.le_refl _⟩ ⟨_, _, rfl, rfl, h⟩
  · replace h := h.2 c1
    refine z_iconst (pc' := 93) (v := 0) dX4_spread_92 rfl (by decide) ?_
    refine z_istore_n (pc' := 94) (ls' := [some (.ref 14), some (.int x1), some (.int (0 : Int32)), none]) dX4_spread_93 rfl (by decide) rfl ?_
    exact h
set_option maxHeartbeats 4000000 in
set_option maxRecDepth 100000 in
theorem t_X4_spread_94 {l : Launch} {G : zG} {d : Nat} {P : zIM → zLM → Prop} {I : zIM} {L : zLM} {x1 : Int32} {x2 : Int32}   (h : (((4 : Int32) ≤ x2 → (K_X4_spread_81 l G d P I L (x1 + (1 : Int32)))) ∧ (¬ (4 : Int32) ≤ x2 → (K_X4_spread_101 l G d P I L x1 x2 (0 : Int32))))) : K_X4_spread_94 l G d P I L x1 x2  := by
  refine z_iload_n (pc' := 95) (x := x2) dX4_spread_94 rfl rfl ?_
  refine z_iconst (pc' := 96) (v := 4) dX4_spread_95 rfl (by decide) ?_
  refine z_icmp_ge (pc' := 99) (tgt := 142) dX4_spread_96 rfl (by decide) (fun c1 => ?_) (fun c1 => ?_)
  · replace h := h.1 c1
    refine z_iinc (pc' := 145) (x := x1) (v := (x1 + (1 : Int32))) (ls' := [some (.ref 14), some (.int (x1 + (1 : Int32))), some (.int x2), none]) dX4_spread_142 rfl rfl (by rfl) (by decide) rfl ?_
    refine z_goto (pc' := 81) dX4_spread_145 (by decide) ?_
    refine z_sub (pc' := 0) [some (.ref 14), some (.int (x1 + (1 : Int32))), none, none] (zsub_s (zsub_s (zsub_n (zsub_n zsub_nil)))) ?_
    exact h
  · replace h := h.2 c1
    refine z_iconst (pc' := 100) (v := 0) dX4_spread_99 rfl (by decide) ?_
    refine z_istore_n (pc' := 101) (ls' := [some (.ref 14), some (.int x1), some (.int x2), some (.int (0 : Int32))]) dX4_spread_100 rfl (by decide) rfl ?_
    exact h
set_option maxHeartbeats 4000000 in
set_option maxRecDepth 100000 in
theorem t_X4_spread_101 {l : Launch} {G : zG} {d : Nat} {P : zIM → zLM → Prop} {I : zIM} {L : zLM} {x1 : Int32} {x2 : Int32} {x3 : Int32}   (h : (((16 : Int32) ≤ x3 → (K_X4_spread_94 l G d P I L x1 (x2 + (1 : Int32)))) ∧ (¬ (16 : Int32) ≤ x3 → (∃ (d2 : Nat) (P2 : Int32 → zIM → zLM → Prop), d2 + 1 ≤ d ∧ zCi l G d2 mX4_situation [.int x1, .int x2, .int x3] I L P2 ∧ ∀ (y2 : Int32) (I2 : zIM) (L2 : zLM), P2 y2 I2 L2 → (∃ j3 : Nat, y2 = nI j3 ∧ j3 < 640 ∧ ((((L2 18 j3) ≤ (0 : Int64) → (K_X4_spread_101 l G d P I2 L2 x1 x2 (x3 + (1 : Int32)))) ∧ (¬ (L2 18 j3) ≤ (0 : Int64) → (∃ (d5 : Nat) (P5 : zIM → zLM → Prop), d5 + 1 ≤ d ∧ zCv l G d5 mX4_spreadFrom [.ref 14, .int x1, .int x2, .int x3] I2 L2 P5 ∧ ∀ (I5 : zIM) (L5 : zLM), P5 I5 L5 → (K_X4_spread_101 l G d P I5 L5 x1 x2 (x3 + (1 : Int32)))))))))))) : K_X4_spread_101 l G d P I L x1 x2 x3  := by
  refine z_iload_n (pc' := 102) (x := x3) dX4_spread_101 rfl rfl ?_
  refine z_bipush (pc' := 104) (v := 16) dX4_spread_102 rfl (by decide) ?_
  refine z_icmp_ge (pc' := 107) (tgt := 136) dX4_spread_104 rfl (by decide) (fun c1 => ?_) (fun c1 => ?_)
  · replace h := h.1 c1
    refine z_iinc (pc' := 139) (x := x2) (v := (x2 + (1 : Int32))) (ls' := [some (.ref 14), some (.int x1), some (.int (x2 + (1 : Int32))), some (.int x3)]) dX4_spread_136 rfl rfl (by rfl) (by decide) rfl ?_
    refine z_goto (pc' := 94) dX4_spread_139 (by decide) ?_
    refine z_sub (pc' := 0) [some (.ref 14), some (.int x1), some (.int (x2 + (1 : Int32))), none] (zsub_s (zsub_s (zsub_s (zsub_n zsub_nil)))) ?_
    exact h
  · replace h := h.2 c1
    refine z_aload_n (pc' := 108) (x := 14) dX4_spread_107 rfl rfl ?_
    refine z_getr (pc' := 111) (x := 18) dX4_spread_108 rfl fl_X4_22 rfl rfl rfl ?_
    refine z_iload_n (pc' := 112) (x := x1) dX4_spread_111 rfl rfl ?_
    refine z_iload_n (pc' := 113) (x := x2) dX4_spread_112 rfl rfl ?_
    refine z_iload_n (pc' := 114) (x := x3) dX4_spread_113 rfl rfl ?_
    obtain ⟨d2, P2, hd2, hC2, h⟩ := h
    refine z_callS (pc' := 117) (M' := mX4_situation) (As := [.int x1, .int x2, .int x3]) dX4_spread_114 rfl ml_X4_49 me_X4_situation hC2 rfl hd2 (Nat.le_of_ble_eq_true rfl) ⟨Nat.le_refl _, Nat.le_refl _⟩ rfl ?_
    rintro _ _ ⟨y2, I2, L2, rfl, rfl, hP2⟩
    replace h := h y2 I2 L2 hP2
    obtain ⟨j3, ha3, hb3, h⟩ := h
    refine z_lald (pc' := 118) (x := (L2 18 j3)) (j := j3) dX4_spread_117 rfl rfl (by decide) ha3 hb3 rfl ?_
    refine z_lconst (pc' := 119) (v := 0) dX4_spread_118 rfl (by decide) ?_
    refine z_lc_le (pc' := 123) (tgt := 130) dX4_spread_119 dX4_spread_120 rfl (by decide) (fun c4 => ?_) (fun c4 => ?_)
    · replace h := h.1 c4
      refine z_iinc (pc' := 133) (x := x3) (v := (x3 + (1 : Int32))) (ls' := [some (.ref 14), some (.int x1), some (.int x2), some (.int (x3 + (1 : Int32)))]) dX4_spread_130 rfl rfl (by rfl) (by decide) rfl ?_
      refine z_goto (pc' := 101) dX4_spread_133 (by decide) ?_
      exact h
    · replace h := h.2 c4
      refine z_aload_n (pc' := 124) (x := 14) dX4_spread_123 rfl rfl ?_
      refine z_iload_n (pc' := 125) (x := x1) dX4_spread_124 rfl rfl ?_
      refine z_iload_n (pc' := 126) (x := x2) dX4_spread_125 rfl rfl ?_
      refine z_iload_n (pc' := 127) (x := x3) dX4_spread_126 rfl rfl ?_
      obtain ⟨d5, P5, hd5, hC5, h⟩ := h
      refine z_callV (pc' := 130) (M' := mX4_spreadFrom) (As := [.int x1, .int x2, .int x3]) dX4_spread_127 rfl ml_X4_84 me_X4_spreadFrom hC5 rfl (by decide) rfl rfl hd5 (Nat.le_of_ble_eq_true rfl) ⟨Nat.le_refl _, Nat.le_refl _⟩ rfl ?_
      rintro _ _ ⟨I5, L5, rfl, rfl, hP5⟩
      replace h := h I5 L5 hP5
      refine z_iinc (pc' := 133) (x := x3) (v := (x3 + (1 : Int32))) (ls' := [some (.ref 14), some (.int x1), some (.int x2), some (.int (x3 + (1 : Int32)))]) dX4_spread_130 rfl rfl (by rfl) (by decide) rfl ?_
      refine z_goto (pc' := 101) dX4_spread_133 (by decide) ?_
      exact h
set_option maxHeartbeats 4000000 in
set_option maxRecDepth 100000 in
theorem t_X4_situation {l : Launch} {G : zG} {d : Nat} {P : Int32 → zIM → zLM → Prop} {I : zIM} {L : zLM} {x0 : Int32} {x1 : Int32} {x2 : Int32}  (h : P ((((x0 * (4 : Int32)) + x1) * (16 : Int32)) + x2) I L) : zCi l G d mX4_situation [.int x0, .int x1, .int x2] I L P := by
  refine zCn.of (ls := [some (.int x0), some (.int x1), some (.int x2)]) (by decide) (Nat.le_of_ble_eq_true rfl) rfl ?_
  refine z_iload_n (pc' := 1) (x := x0) dX4_situation_0 rfl rfl ?_
  refine z_iconst (pc' := 2) (v := 4) dX4_situation_1 rfl (by decide) ?_
  refine z_imul (pc' := 3) dX4_situation_2 rfl ?_
  refine z_iload_n (pc' := 4) (x := x1) dX4_situation_3 rfl rfl ?_
  refine z_iadd (pc' := 5) dX4_situation_4 rfl ?_
  refine z_bipush (pc' := 7) (v := 16) dX4_situation_5 rfl (by decide) ?_
  refine z_imul (pc' := 8) dX4_situation_7 rfl ?_
  refine z_iload_n (pc' := 9) (x := x2) dX4_situation_8 rfl rfl ?_
  refine z_iadd (pc' := 10) dX4_situation_9 rfl ?_
  exact z_iret dX4_situation_10 rfl rfl ⟨Nat.le_refl _, Nat.le_refl _⟩ ⟨_, _, _, rfl, rfl, h⟩
set_option maxHeartbeats 4000000 in
set_option maxRecDepth 100000 in
theorem t_X4_situationNext {l : Launch} {G : zG} {d : Nat} {P : Int32 → zIM → zLM → Prop} {I : zIM} {L : zLM} {x1 : Int32} {x2 : Int32} {x3 : Int32}  (h : ∃ (d1 : Nat) (P1 : Int32 → zIM → zLM → Prop), d1 + 1 ≤ d ∧ zCi l G d1 mX2_after [.ref 1, .int x2, .int x3] I L P1 ∧ ∀ (y1 : Int32) (I1 : zIM) (L1 : zLM), P1 y1 I1 L1 → (∃ (d2 : Nat) (P2 : Int32 → zIM → zLM → Prop), d2 + 1 ≤ d ∧ zCi l G d2 mX4_situation [.int (x1 + (1 : Int32)), .int y1, .int x3] I1 L1 P2 ∧ ∀ (y2 : Int32) (I2 : zIM) (L2 : zLM), P2 y2 I2 L2 → (P y2 I2 L2))) : zCi l G d mX4_situationNext [.ref 14, .int x1, .int x2, .int x3] I L P := by
  refine zCn.of (ls := [some (.ref 14), some (.int x1), some (.int x2), some (.int x3)]) (by decide) (Nat.le_of_ble_eq_true rfl) rfl ?_
  refine z_iload_n (pc' := 1) (x := x1) dX4_situationNext_0 rfl rfl ?_
  refine z_iconst (pc' := 2) (v := 1) dX4_situationNext_1 rfl (by decide) ?_
  refine z_iadd (pc' := 3) dX4_situationNext_2 rfl ?_
  refine z_aload_n (pc' := 4) (x := 14) dX4_situationNext_3 rfl rfl ?_
  refine z_getr (pc' := 7) (x := 1) dX4_situationNext_4 rfl fl_X4_32 rfl rfl rfl ?_
  refine z_iload_n (pc' := 8) (x := x2) dX4_situationNext_7 rfl rfl ?_
  refine z_iload_n (pc' := 9) (x := x3) dX4_situationNext_8 rfl rfl ?_
  obtain ⟨d1, P1, hd1, hC1, h⟩ := h
  refine z_callV (pc' := 12) (M' := mX2_after) (As := [.int x2, .int x3]) dX4_situationNext_9 rfl ml_X4_87 me_X2_after hC1 rfl (by decide) rfl rfl hd1 (Nat.le_of_ble_eq_true rfl) ⟨Nat.le_refl _, Nat.le_refl _⟩ rfl ?_
  rintro _ _ ⟨y1, I1, L1, rfl, rfl, hP1⟩
  replace h := h y1 I1 L1 hP1
  refine z_iload_n (pc' := 13) (x := x3) dX4_situationNext_12 rfl rfl ?_
  obtain ⟨d2, P2, hd2, hC2, h⟩ := h
  refine z_callS (pc' := 16) (M' := mX4_situation) (As := [.int (x1 + (1 : Int32)), .int y1, .int x3]) dX4_situationNext_13 rfl ml_X4_49 me_X4_situation hC2 rfl hd2 (Nat.le_of_ble_eq_true rfl) ⟨Nat.le_refl _, Nat.le_refl _⟩ rfl ?_
  rintro _ _ ⟨y2, I2, L2, rfl, rfl, hP2⟩
  replace h := h y2 I2 L2 hP2
  exact z_iret dX4_situationNext_16 rfl rfl ⟨Nat.le_refl _, Nat.le_refl _⟩ ⟨_, _, _, rfl, rfl, h⟩
set_option maxHeartbeats 4000000 in
set_option maxRecDepth 100000 in
theorem t_X4_without {l : Launch} {G : zG} {d : Nat} {P : Int32 → zIM → zLM → Prop} {I : zIM} {L : zLM} {x0 : Int32} {x1 : Int32}  (h : ((¬ x1 = (-2 : Int32) → (P (x0 &&& (((1 : Int32) <<< (x1 &&& 31)) ^^^ (-1 : Int32))) I L)) ∧ (x1 = (-2 : Int32) → (P x0 I L)))) : zCi l G d mX4_without [.int x0, .int x1] I L P := by
  refine zCn.of (ls := [some (.int x0), some (.int x1)]) (by decide) (Nat.le_of_ble_eq_true rfl) rfl ?_
  refine z_iload_n (pc' := 1) (x := x1) dX4_without_0 rfl rfl ?_
  refine z_bipush (pc' := 3) (v := -2) dX4_without_1 rfl (by decide) ?_
  refine z_icmp_ne (pc' := 6) (tgt := 10) dX4_without_3 rfl (by decide) (fun c1 => ?_) (fun c1 => ?_)
  · replace h := h.1 c1
    refine z_iload_n (pc' := 11) (x := x0) dX4_without_10 rfl rfl ?_
    refine z_iconst (pc' := 12) (v := 1) dX4_without_11 rfl (by decide) ?_
    refine z_iload_n (pc' := 13) (x := x1) dX4_without_12 rfl rfl ?_
    refine z_ishl (pc' := 14) dX4_without_13 rfl ?_
    refine z_iconst (pc' := 15) (v := -1) dX4_without_14 rfl (by decide) ?_
    refine z_ixor (pc' := 16) dX4_without_15 rfl ?_
    refine z_iand (pc' := 17) dX4_without_16 rfl ?_
    exact z_iret dX4_without_17 rfl rfl ⟨Nat.le_refl _, Nat.le_refl _⟩ ⟨_, _, _, rfl, rfl, h⟩
  · replace h := h.2 c1
    refine z_iload_n (pc' := 7) (x := x0) dX4_without_6 rfl rfl ?_
    refine z_goto (pc' := 17) dX4_without_7 (by decide) ?_
    exact z_iret dX4_without_17 rfl rfl ⟨Nat.le_refl _, Nat.le_refl _⟩ ⟨_, _, _, rfl, rfl, h⟩
set_option maxHeartbeats 4000000 in
set_option maxRecDepth 100000 in
theorem t_X4_numberPlace {l : Launch} {G : zG} {d : Nat} {P : Int32 → zIM → zLM → Prop} {I : zIM} {L : zLM} {x0 : Int32} {x1 : Int32} {x2 : Int32} {x3 : Int32}  (h : P ((((((x0 * (5 : Int32)) + x1) * (4 : Int32)) + x2) * (4 : Int32)) + x3) I L) : zCi l G d mX4_numberPlace [.int x0, .int x1, .int x2, .int x3] I L P := by
  refine zCn.of (ls := [some (.int x0), some (.int x1), some (.int x2), some (.int x3)]) (by decide) (Nat.le_of_ble_eq_true rfl) rfl ?_
  refine z_iload_n (pc' := 1) (x := x0) dX4_numberPlace_0 rfl rfl ?_
  refine z_iconst (pc' := 2) (v := 5) dX4_numberPlace_1 rfl (by decide) ?_
  refine z_imul (pc' := 3) dX4_numberPlace_2 rfl ?_
  refine z_iload_n (pc' := 4) (x := x1) dX4_numberPlace_3 rfl rfl ?_
  refine z_iadd (pc' := 5) dX4_numberPlace_4 rfl ?_
  refine z_iconst (pc' := 6) (v := 4) dX4_numberPlace_5 rfl (by decide) ?_
  refine z_imul (pc' := 7) dX4_numberPlace_6 rfl ?_
  refine z_iload_n (pc' := 8) (x := x2) dX4_numberPlace_7 rfl rfl ?_
  refine z_iadd (pc' := 9) dX4_numberPlace_8 rfl ?_
  refine z_iconst (pc' := 10) (v := 4) dX4_numberPlace_9 rfl (by decide) ?_
  refine z_imul (pc' := 11) dX4_numberPlace_10 rfl ?_
  refine z_iload_n (pc' := 12) (x := x3) dX4_numberPlace_11 rfl rfl ?_
  refine z_iadd (pc' := 13) dX4_numberPlace_12 rfl ?_
  exact z_iret dX4_numberPlace_13 rfl rfl ⟨Nat.le_refl _, Nat.le_refl _⟩ ⟨_, _, _, rfl, rfl, h⟩
set_option maxHeartbeats 4000000 in
set_option maxRecDepth 100000 in
theorem t_X4_findNumbers {l : Launch} {G : zG} {d : Nat} {P : zIM → zLM → Prop} {I : zIM} {L : zLM}   (h : K_X4_findNumbers_2 l G d P I L (0 : Int32)) : zCv l G d mX4_findNumbers [.ref 14] I L P := by
  refine zCn.of (ls := [some (.ref 14), none, none, none, none, none]) (by decide) (Nat.le_of_ble_eq_true rfl) rfl ?_
  refine z_iconst (pc' := 1) (v := 0) dX4_findNumbers_0 rfl (by decide) ?_
  refine z_istore_n (pc' := 2) (ls' := [some (.ref 14), some (.int (0 : Int32)), none, none, none, none]) dX4_findNumbers_1 rfl (by decide) rfl ?_
  exact h
set_option maxHeartbeats 4000000 in
set_option maxRecDepth 100000 in
theorem t_X4_findNumbers_2 {l : Launch} {G : zG} {d : Nat} {P : zIM → zLM → Prop} {I : zIM} {L : zLM} {x1 : Int32}   (h : (((9 : Int32) ≤ x1 → (P (xI I 14 8 (1 : Int32)) L)) ∧ (¬ (9 : Int32) ≤ x1 → (K_X4_findNumbers_10 l G d P I L x1 (2 : Int32))))) : K_X4_findNumbers_2 l G d P I L x1  := by
  refine z_iload_n (pc' := 3) (x := x1) dX4_findNumbers_2 rfl rfl ?_
  refine z_bipush (pc' := 5) (v := 9) dX4_findNumbers_3 rfl (by decide) ?_
  refine z_icmp_ge (pc' := 8) (tgt := 126) dX4_findNumbers_5 rfl (by decide) (fun c1 => ?_) (fun c1 => ?_)
  · replace h := h.1 c1
    refine z_aload_n (pc' := 127) (x := 14) dX4_findNumbers_126 rfl rfl ?_
    refine z_iconst (pc' := 128) (v := 1) dX4_findNumbers_127 rfl (by decide) ?_
    refine z_puti (pc' := 131) (w' := zs (xI I 14 8 (1 : Int32)) L) dX4_findNumbers_128 rfl fl_X4_28 rfl rfl rfl rfl rfl rfl ?_
    exact z_vret dX4_findNumbers_131 rfl ⟨Nat.le_refl _, Nat.le_refl _⟩ ⟨_, _, rfl, rfl, h⟩
  · replace h := h.2 c1
    refine z_iconst (pc' := 9) (v := 2) dX4_findNumbers_8 rfl (by decide) ?_
    refine z_istore_n (pc' := 10) (ls' := [some (.ref 14), some (.int x1), some (.int (2 : Int32)), none, none, none]) dX4_findNumbers_9 rfl (by decide) rfl ?_
    exact h
set_option maxHeartbeats 4000000 in
set_option maxRecDepth 100000 in
theorem t_X4_findNumbers_10 {l : Launch} {G : zG} {d : Nat} {P : zIM → zLM → Prop} {I : zIM} {L : zLM} {x1 : Int32} {x2 : Int32}   (h : (((I 1 6) < x2 → (K_X4_findNumbers_2 l G d P I L (x1 + (1 : Int32)))) ∧ (¬ (I 1 6) < x2 → (K_X4_findNumbers_23 l G d P I L x1 x2 (0 : Int32))))) : K_X4_findNumbers_10 l G d P I L x1 x2  := by
  refine z_iload_n (pc' := 11) (x := x2) dX4_findNumbers_10 rfl rfl ?_
  refine z_aload_n (pc' := 12) (x := 14) dX4_findNumbers_11 rfl rfl ?_
  refine z_getr (pc' := 15) (x := 1) dX4_findNumbers_12 rfl fl_X4_32 rfl rfl rfl ?_
  refine z_geti (pc' := 18) (x := (I 1 6)) dX4_findNumbers_15 rfl fl_X4_70 rfl rfl rfl ?_
  refine z_icmp_gt (pc' := 21) (tgt := 120) dX4_findNumbers_18 rfl (by decide) (fun c1 => ?_) (fun c1 => ?_)
  · replace h := h.1 c1
    refine z_iinc (pc' := 123) (x := x1) (v := (x1 + (1 : Int32))) (ls' := [some (.ref 14), some (.int (x1 + (1 : Int32))), some (.int x2), none, none, none]) dX4_findNumbers_120 rfl rfl (by rfl) (by decide) rfl ?_
    refine z_goto (pc' := 2) dX4_findNumbers_123 (by decide) ?_
    refine z_sub (pc' := 0) [some (.ref 14), some (.int (x1 + (1 : Int32))), none, none, none, none] (zsub_s (zsub_s (zsub_n (zsub_n (zsub_n (zsub_n zsub_nil)))))) ?_
    exact h
  · replace h := h.2 c1
    refine z_iconst (pc' := 22) (v := 0) dX4_findNumbers_21 rfl (by decide) ?_
    refine z_istore_n (pc' := 23) (ls' := [some (.ref 14), some (.int x1), some (.int x2), some (.int (0 : Int32)), none, none]) dX4_findNumbers_22 rfl (by decide) rfl ?_
    exact h
set_option maxHeartbeats 4000000 in
set_option maxRecDepth 100000 in
theorem t_X4_findNumbers_23 {l : Launch} {G : zG} {d : Nat} {P : zIM → zLM → Prop} {I : zIM} {L : zLM} {x1 : Int32} {x2 : Int32} {x3 : Int32}   (h : (((I 1 6) ≤ x3 → (K_X4_findNumbers_10 l G d P I L x1 (x2 + (1 : Int32)))) ∧ (¬ (I 1 6) ≤ x3 → (∃ j2 : Nat, x3 = nI j2 ∧ j2 < 4 ∧ (K_X4_findNumbers_48 l G d P I L x1 x2 x3 (I 2 j2) (0 : Int32)))))) : K_X4_findNumbers_23 l G d P I L x1 x2 x3  := by
  refine z_iload_n (pc' := 24) (x := x3) dX4_findNumbers_23 rfl rfl ?_
  refine z_aload_n (pc' := 25) (x := 14) dX4_findNumbers_24 rfl rfl ?_
  refine z_getr (pc' := 28) (x := 1) dX4_findNumbers_25 rfl fl_X4_32 rfl rfl rfl ?_
  refine z_geti (pc' := 31) (x := (I 1 6)) dX4_findNumbers_28 rfl fl_X4_70 rfl rfl rfl ?_
  refine z_icmp_ge (pc' := 34) (tgt := 114) dX4_findNumbers_31 rfl (by decide) (fun c1 => ?_) (fun c1 => ?_)
  · replace h := h.1 c1
    refine z_iinc (pc' := 117) (x := x2) (v := (x2 + (1 : Int32))) (ls' := [some (.ref 14), some (.int x1), some (.int (x2 + (1 : Int32))), some (.int x3), none, none]) dX4_findNumbers_114 rfl rfl (by rfl) (by decide) rfl ?_
    refine z_goto (pc' := 10) dX4_findNumbers_117 (by decide) ?_
    refine z_sub (pc' := 0) [some (.ref 14), some (.int x1), some (.int (x2 + (1 : Int32))), none, none, none] (zsub_s (zsub_s (zsub_s (zsub_n (zsub_n (zsub_n zsub_nil)))))) ?_
    exact h
  · replace h := h.2 c1
    refine z_aload_n (pc' := 35) (x := 14) dX4_findNumbers_34 rfl rfl ?_
    refine z_getr (pc' := 38) (x := 1) dX4_findNumbers_35 rfl fl_X4_32 rfl rfl rfl ?_
    refine z_getr (pc' := 41) (x := 2) dX4_findNumbers_38 rfl fl_X4_91 rfl rfl rfl ?_
    refine z_iload_n (pc' := 42) (x := x3) dX4_findNumbers_41 rfl rfl ?_
    obtain ⟨j2, ha2, hb2, h⟩ := h
    refine z_iald (pc' := 43) (x := (I 2 j2)) (j := j2) dX4_findNumbers_42 rfl rfl (by decide) ha2 hb2 rfl ?_
    refine z_istore (pc' := 45) (ls' := [some (.ref 14), some (.int x1), some (.int x2), some (.int x3), some (.int (I 2 j2)), none]) dX4_findNumbers_43 rfl (by decide) rfl ?_
    refine z_iconst (pc' := 46) (v := 0) dX4_findNumbers_45 rfl (by decide) ?_
    refine z_istore (pc' := 48) (ls' := [some (.ref 14), some (.int x1), some (.int x2), some (.int x3), some (.int (I 2 j2)), some (.int (0 : Int32))]) dX4_findNumbers_46 rfl (by decide) rfl ?_
    exact h
set_option maxHeartbeats 4000000 in
set_option maxRecDepth 100000 in
theorem t_X4_findNumbers_48 {l : Launch} {G : zG} {d : Nat} {P : zIM → zLM → Prop} {I : zIM} {L : zLM} {x1 : Int32} {x2 : Int32} {x3 : Int32} {x4 : Int32} {x5 : Int32}   (h : (((I 1 6) ≤ x5 → (K_X4_findNumbers_23 l G d P I L x1 x2 (x3 + (1 : Int32)))) ∧ (¬ (I 1 6) ≤ x5 → (∃ (d2 : Nat) (P2 : Int32 → zIM → zLM → Prop), d2 + 1 ≤ d ∧ zCi l G d2 mX4_numberPlace [.int x1, .int x2, .int x3, .int x5] I L P2 ∧ ∀ (y2 : Int32) (I2 : zIM) (L2 : zLM), P2 y2 I2 L2 → (∃ (d3 : Nat) (P3 : Int32 → zIM → zLM → Prop), d3 + 1 ≤ d ∧ zCi l G d3 mX3_isThere [.ref 9] I2 L2 P3 ∧ ∀ (y3 : Int32) (I3 : zIM) (L3 : zLM), P3 y3 I3 L3 → (((y3 = 0 → (∃ j5 : Nat, y2 = nI j5 ∧ j5 < 800 ∧ (K_X4_findNumbers_48 l G d P (xI I3 19 j5 x4) L3 x1 x2 x3 x4 (x5 + (1 : Int32))))) ∧ (¬ y3 = 0 → (∃ (d6 : Nat) (P6 : Int32 → zIM → zLM → Prop), d6 + 1 ≤ d ∧ zCi l G d6 mX3_number [.ref 9, .int x4, .int x3, .int x5, .int x2, .int x1] I3 L3 P6 ∧ ∀ (y6 : Int32) (I6 : zIM) (L6 : zLM), P6 y6 I6 L6 → (∃ j7 : Nat, y2 = nI j7 ∧ j7 < 800 ∧ (K_X4_findNumbers_48 l G d P (xI I6 19 j7 y6) L6 x1 x2 x3 x4 (x5 + (1 : Int32))))))))))))) : K_X4_findNumbers_48 l G d P I L x1 x2 x3 x4 x5  := by
  refine z_iload (pc' := 50) (x := x5) dX4_findNumbers_48 rfl rfl ?_
  refine z_aload_n (pc' := 51) (x := 14) dX4_findNumbers_50 rfl rfl ?_
  refine z_getr (pc' := 54) (x := 1) dX4_findNumbers_51 rfl fl_X4_32 rfl rfl rfl ?_
  refine z_geti (pc' := 57) (x := (I 1 6)) dX4_findNumbers_54 rfl fl_X4_70 rfl rfl rfl ?_
  refine z_icmp_ge (pc' := 60) (tgt := 108) dX4_findNumbers_57 rfl (by decide) (fun c1 => ?_) (fun c1 => ?_)
  · replace h := h.1 c1
    refine z_iinc (pc' := 111) (x := x3) (v := (x3 + (1 : Int32))) (ls' := [some (.ref 14), some (.int x1), some (.int x2), some (.int (x3 + (1 : Int32))), some (.int x4), some (.int x5)]) dX4_findNumbers_108 rfl rfl (by rfl) (by decide) rfl ?_
    refine z_goto (pc' := 23) dX4_findNumbers_111 (by decide) ?_
    refine z_sub (pc' := 0) [some (.ref 14), some (.int x1), some (.int x2), some (.int (x3 + (1 : Int32))), none, none] (zsub_s (zsub_s (zsub_s (zsub_s (zsub_n (zsub_n zsub_nil)))))) ?_
    exact h
  · replace h := h.2 c1
    refine z_aload_n (pc' := 61) (x := 14) dX4_findNumbers_60 rfl rfl ?_
    refine z_getr (pc' := 64) (x := 19) dX4_findNumbers_61 rfl fl_X4_25 rfl rfl rfl ?_
    refine z_iload_n (pc' := 65) (x := x1) dX4_findNumbers_64 rfl rfl ?_
    refine z_iload_n (pc' := 66) (x := x2) dX4_findNumbers_65 rfl rfl ?_
    refine z_iload_n (pc' := 67) (x := x3) dX4_findNumbers_66 rfl rfl ?_
    refine z_iload (pc' := 69) (x := x5) dX4_findNumbers_67 rfl rfl ?_
    obtain ⟨d2, P2, hd2, hC2, h⟩ := h
    refine z_callS (pc' := 72) (M' := mX4_numberPlace) (As := [.int x1, .int x2, .int x3, .int x5]) dX4_findNumbers_69 rfl ml_X4_59 me_X4_numberPlace hC2 rfl hd2 (Nat.le_of_ble_eq_true rfl) ⟨Nat.le_refl _, Nat.le_refl _⟩ rfl ?_
    rintro _ _ ⟨y2, I2, L2, rfl, rfl, hP2⟩
    replace h := h y2 I2 L2 hP2
    refine z_aload_n (pc' := 73) (x := 14) dX4_findNumbers_72 rfl rfl ?_
    refine z_getr (pc' := 76) (x := 9) dX4_findNumbers_73 rfl fl_X4_36 rfl rfl rfl ?_
    obtain ⟨d3, P3, hd3, hC3, h⟩ := h
    refine z_callV (pc' := 79) (M' := mX3_isThere) (As := []) dX4_findNumbers_76 rfl ml_X4_94 me_X3_isThere hC3 rfl (by decide) rfl rfl hd3 (Nat.le_of_ble_eq_true rfl) ⟨Nat.le_refl _, Nat.le_refl _⟩ rfl ?_
    rintro _ _ ⟨y3, I3, L3, rfl, rfl, hP3⟩
    replace h := h y3 I3 L3 hP3
    refine z_if_eq (pc' := 82) (tgt := 99) dX4_findNumbers_79 rfl (by decide) (fun c4 => ?_) (fun c4 => ?_)
    · replace h := h.1 c4
      refine z_iload (pc' := 101) (x := x4) dX4_findNumbers_99 rfl rfl ?_
      obtain ⟨j5, ha5, hb5, h⟩ := h
      refine z_iast (pc' := 102) (j := j5) (w' := zs (xI I3 19 j5 x4) L3) dX4_findNumbers_101 rfl rfl (by decide) ha5 hb5 rfl ?_
      refine z_iinc (pc' := 105) (x := x5) (v := (x5 + (1 : Int32))) (ls' := [some (.ref 14), some (.int x1), some (.int x2), some (.int x3), some (.int x4), some (.int (x5 + (1 : Int32)))]) dX4_findNumbers_102 rfl rfl (by rfl) (by decide) rfl ?_
      refine z_goto (pc' := 48) dX4_findNumbers_105 (by decide) ?_
      exact h
    · replace h := h.2 c4
      refine z_aload_n (pc' := 83) (x := 14) dX4_findNumbers_82 rfl rfl ?_
      refine z_getr (pc' := 86) (x := 9) dX4_findNumbers_83 rfl fl_X4_36 rfl rfl rfl ?_
      refine z_iload (pc' := 88) (x := x4) dX4_findNumbers_86 rfl rfl ?_
      refine z_iload_n (pc' := 89) (x := x3) dX4_findNumbers_88 rfl rfl ?_
      refine z_iload (pc' := 91) (x := x5) dX4_findNumbers_89 rfl rfl ?_
      refine z_iload_n (pc' := 92) (x := x2) dX4_findNumbers_91 rfl rfl ?_
      refine z_iload_n (pc' := 93) (x := x1) dX4_findNumbers_92 rfl rfl ?_
      obtain ⟨d6, P6, hd6, hC6, h⟩ := h
      refine z_callV (pc' := 96) (M' := mX3_number) (As := [.int x4, .int x3, .int x5, .int x2, .int x1]) dX4_findNumbers_93 rfl ml_X4_100 me_X3_number hC6 rfl (by decide) rfl rfl hd6 (Nat.le_of_ble_eq_true rfl) ⟨Nat.le_refl _, Nat.le_refl _⟩ rfl ?_
      rintro _ _ ⟨y6, I6, L6, rfl, rfl, hP6⟩
      replace h := h y6 I6 L6 hP6
      refine z_goto (pc' := 101) dX4_findNumbers_96 (by decide) ?_
      obtain ⟨j7, ha7, hb7, h⟩ := h
      refine z_iast (pc' := 102) (j := j7) (w' := zs (xI I6 19 j7 y6) L6) dX4_findNumbers_101 rfl rfl (by decide) ha7 hb7 rfl ?_
      refine z_iinc (pc' := 105) (x := x5) (v := (x5 + (1 : Int32))) (ls' := [some (.ref 14), some (.int x1), some (.int x2), some (.int x3), some (.int x4), some (.int (x5 + (1 : Int32)))]) dX4_findNumbers_102 rfl rfl (by rfl) (by decide) rfl ?_
      refine z_goto (pc' := 48) dX4_findNumbers_105 (by decide) ?_
      exact h
set_option maxHeartbeats 4000000 in
set_option maxRecDepth 100000 in
theorem t_X4_solveAt {l : Launch} {G : zG} {d : Nat} {P : zIM → zLM → Prop} {I : zIM} {L : zLM} {x1 : Int32} {x2 : Int32} {x3 : Int32}  (h : ∃ (d1 : Nat) (P1 : Int32 → zIM → zLM → Prop), d1 + 1 ≤ d ∧ zCi l G d1 mX4_situation [.int x1, .int x2, .int x3] I L P1 ∧ ∀ (y1 : Int32) (I1 : zIM) (L1 : zLM), P1 y1 I1 L1 → (∃ (d2 : Nat) (P2 : Int32 → zIM → zLM → Prop), d2 + 1 ≤ d ∧ zCi l G d2 mX2_isOver [.ref 1, .int x3, .int x1] I1 L1 P2 ∧ ∀ (y2 : Int32) (I2 : zIM) (L2 : zLM), P2 y2 I2 L2 → (((y2 = 0 → (∃ j4 : Nat, x2 = nI j4 ∧ j4 < 4 ∧ (((¬ (I2 3 j4) = (5 : Int32) → (∃ (d6 : Nat) (P6 : Int32 → zIM → zLM → Prop), d6 + 1 ≤ d ∧ zCi l G d6 mX2_plainAim [.ref 1, .int x2, .int x3] I2 L2 P6 ∧ ∀ (y6 : Int32) (I6 : zIM) (L6 : zLM), P6 y6 I6 L6 → (∃ j7 : Nat, y1 = nI j7 ∧ j7 < 640 ∧ (∃ (d8 : Nat) (P8 : Int32 → zIM → zLM → Prop), d8 + 1 ≤ d ∧ zCi l G d8 mX4_numberAt [.ref 14, .int x1, .int x2, .int y6, .int x3] (xI I6 17 j7 y6) L6 P8 ∧ ∀ (y8 : Int32) (I8 : zIM) (L8 : zLM), P8 y8 I8 L8 → (∃ (d9 : Nat) (P9 : Int32 → zIM → zLM → Prop), d9 + 1 ≤ d ∧ zCi l G d9 mX4_situationNext [.ref 14, .int x1, .int x2, .int x3] I8 L8 P9 ∧ ∀ (y9 : Int32) (I9 : zIM) (L9 : zLM), P9 y9 I9 L9 → (∃ (d10 : Nat) (P10 : Int32 → zIM → zLM → Prop), d10 + 1 ≤ d ∧ zCi l G d10 mX4_without [.int x3, .int y6] I9 L9 P10 ∧ ∀ (y10 : Int32) (I10 : zIM) (L10 : zLM), P10 y10 I10 L10 → (∃ (d11 : Nat) (P11 : Int32 → zIM → zLM → Prop), d11 + 1 ≤ d ∧ zCi l G d11 mX4_situationNext [.ref 14, .int x1, .int x2, .int y10] I10 L10 P11 ∧ ∀ (y11 : Int32) (I11 : zIM) (L11 : zLM), P11 y11 I11 L11 → (K_X4_solveAt_187 l G d P I11 L11 y1 y8 y9 y11 (0 : Int32))))))))) ∧ ((I2 3 j4) = (5 : Int32) → (∃ (d12 : Nat) (P12 : Int32 → zIM → zLM → Prop), d12 + 1 ≤ d ∧ zCi l G d12 mX4_bestAim [.ref 14, .int x1, .int x2, .int x3] I2 L2 P12 ∧ ∀ (y12 : Int32) (I12 : zIM) (L12 : zLM), P12 y12 I12 L12 → (∃ j13 : Nat, y1 = nI j13 ∧ j13 < 640 ∧ (∃ (d14 : Nat) (P14 : Int32 → zIM → zLM → Prop), d14 + 1 ≤ d ∧ zCi l G d14 mX4_numberAt [.ref 14, .int x1, .int x2, .int y12, .int x3] (xI I12 17 j13 y12) L12 P14 ∧ ∀ (y14 : Int32) (I14 : zIM) (L14 : zLM), P14 y14 I14 L14 → (∃ (d15 : Nat) (P15 : Int32 → zIM → zLM → Prop), d15 + 1 ≤ d ∧ zCi l G d15 mX4_situationNext [.ref 14, .int x1, .int x2, .int x3] I14 L14 P15 ∧ ∀ (y15 : Int32) (I15 : zIM) (L15 : zLM), P15 y15 I15 L15 → (∃ (d16 : Nat) (P16 : Int32 → zIM → zLM → Prop), d16 + 1 ≤ d ∧ zCi l G d16 mX4_without [.int x3, .int y12] I15 L15 P16 ∧ ∀ (y16 : Int32) (I16 : zIM) (L16 : zLM), P16 y16 I16 L16 → (∃ (d17 : Nat) (P17 : Int32 → zIM → zLM → Prop), d17 + 1 ≤ d ∧ zCi l G d17 mX4_situationNext [.ref 14, .int x1, .int x2, .int y16] I16 L16 P17 ∧ ∀ (y17 : Int32) (I17 : zIM) (L17 : zLM), P17 y17 I17 L17 → (K_X4_solveAt_187 l G d P I17 L17 y1 y14 y15 y17 (0 : Int32))))))))))))) ∧ (¬ y2 = 0 → (∃ j18 : Nat, y1 = nI j18 ∧ j18 < 640 ∧ (∃ (d19 : Nat) (P19 : Int32 → zIM → zLM → Prop), d19 + 1 ≤ d ∧ zCi l G d19 mJ6_bitCount_0f7a4 [.int x3] (xI I2 17 j18 (-2 : Int32)) L2 P19 ∧ ∀ (y19 : Int32) (I19 : zIM) (L19 : zLM), P19 y19 I19 L19 → (∃ j20 : Nat, y19 = nI j20 ∧ j20 < 5 ∧ (∃ j21 : Nat, ((I19 1 7) - x1) = nI j21 ∧ j21 < 10 ∧ (K_X4_solveAt_61 l G d P I19 L19 x3 y1 (((I19 7 j20).toInt64) * (zPOW j21)) (0 : Int32))))))))))) : zCv l G d mX4_solveAt [.ref 14, .int x1, .int x2, .int x3] I L P := by
  refine zCn.of (ls := [some (.ref 14), some (.int x1), some (.int x2), some (.int x3), none, none, none, none, none, none]) (by decide) (Nat.le_of_ble_eq_true rfl) rfl ?_
  refine z_iload_n (pc' := 1) (x := x1) dX4_solveAt_0 rfl rfl ?_
  refine z_iload_n (pc' := 2) (x := x2) dX4_solveAt_1 rfl rfl ?_
  refine z_iload_n (pc' := 3) (x := x3) dX4_solveAt_2 rfl rfl ?_
  obtain ⟨d1, P1, hd1, hC1, h⟩ := h
  refine z_callS (pc' := 6) (M' := mX4_situation) (As := [.int x1, .int x2, .int x3]) dX4_solveAt_3 rfl ml_X4_49 me_X4_situation hC1 rfl hd1 (Nat.le_of_ble_eq_true rfl) ⟨Nat.le_refl _, Nat.le_refl _⟩ rfl ?_
  rintro _ _ ⟨y1, I1, L1, rfl, rfl, hP1⟩
  replace h := h y1 I1 L1 hP1
  refine z_istore (pc' := 8) (ls' := [some (.ref 14), some (.int x1), some (.int x2), some (.int x3), some (.int y1), none, none, none, none, none]) dX4_solveAt_6 rfl (by decide) rfl ?_
  refine z_aload_n (pc' := 9) (x := 14) dX4_solveAt_8 rfl rfl ?_
  refine z_getr (pc' := 12) (x := 1) dX4_solveAt_9 rfl fl_X4_32 rfl rfl rfl ?_
  refine z_iload_n (pc' := 13) (x := x3) dX4_solveAt_12 rfl rfl ?_
  refine z_iload_n (pc' := 14) (x := x1) dX4_solveAt_13 rfl rfl ?_
  obtain ⟨d2, P2, hd2, hC2, h⟩ := h
  refine z_callV (pc' := 17) (M' := mX2_isOver) (As := [.int x3, .int x1]) dX4_solveAt_14 rfl ml_X4_104 me_X2_isOver hC2 rfl (by decide) rfl rfl hd2 (Nat.le_of_ble_eq_true rfl) ⟨Nat.le_refl _, Nat.le_refl _⟩ rfl ?_
  rintro _ _ ⟨y2, I2, L2, rfl, rfl, hP2⟩
  replace h := h y2 I2 L2 hP2
  refine z_if_eq (pc' := 20) (tgt := 107) dX4_solveAt_17 rfl (by decide) (fun c3 => ?_) (fun c3 => ?_)
  · replace h := h.1 c3
    refine z_aload_n (pc' := 108) (x := 14) dX4_solveAt_107 rfl rfl ?_
    refine z_getr (pc' := 111) (x := 1) dX4_solveAt_108 rfl fl_X4_32 rfl rfl rfl ?_
    refine z_getr (pc' := 114) (x := 3) dX4_solveAt_111 rfl fl_X4_111 rfl rfl rfl ?_
    refine z_iload_n (pc' := 115) (x := x2) dX4_solveAt_114 rfl rfl ?_
    obtain ⟨j4, ha4, hb4, h⟩ := h
    refine z_iald (pc' := 116) (x := (I2 3 j4)) (j := j4) dX4_solveAt_115 rfl rfl (by decide) ha4 hb4 rfl ?_
    refine z_iconst (pc' := 117) (v := 5) dX4_solveAt_116 rfl (by decide) ?_
    refine z_icmp_ne (pc' := 120) (tgt := 130) dX4_solveAt_117 rfl (by decide) (fun c5 => ?_) (fun c5 => ?_)
    · replace h := h.1 c5
      refine z_aload_n (pc' := 131) (x := 14) dX4_solveAt_130 rfl rfl ?_
      refine z_getr (pc' := 134) (x := 1) dX4_solveAt_131 rfl fl_X4_32 rfl rfl rfl ?_
      refine z_iload_n (pc' := 135) (x := x2) dX4_solveAt_134 rfl rfl ?_
      refine z_iload_n (pc' := 136) (x := x3) dX4_solveAt_135 rfl rfl ?_
      obtain ⟨d6, P6, hd6, hC6, h⟩ := h
      refine z_callV (pc' := 139) (M' := mX2_plainAim) (As := [.int x2, .int x3]) dX4_solveAt_136 rfl ml_X4_117 me_X2_plainAim hC6 rfl (by decide) rfl rfl hd6 (Nat.le_of_ble_eq_true rfl) ⟨Nat.le_refl _, Nat.le_refl _⟩ rfl ?_
      rintro _ _ ⟨y6, I6, L6, rfl, rfl, hP6⟩
      replace h := h y6 I6 L6 hP6
      refine z_istore (pc' := 141) (ls' := [some (.ref 14), some (.int x1), some (.int x2), some (.int x3), some (.int y1), some (.int y6), none, none, none, none]) dX4_solveAt_139 rfl (by decide) rfl ?_
      refine z_aload_n (pc' := 142) (x := 14) dX4_solveAt_141 rfl rfl ?_
      refine z_getr (pc' := 145) (x := 17) dX4_solveAt_142 rfl fl_X4_18 rfl rfl rfl ?_
      refine z_iload (pc' := 147) (x := y1) dX4_solveAt_145 rfl rfl ?_
      refine z_iload (pc' := 149) (x := y6) dX4_solveAt_147 rfl rfl ?_
      obtain ⟨j7, ha7, hb7, h⟩ := h
      refine z_iast (pc' := 150) (j := j7) (w' := zs (xI I6 17 j7 y6) L6) dX4_solveAt_149 rfl rfl (by decide) ha7 hb7 rfl ?_
      refine z_aload_n (pc' := 151) (x := 14) dX4_solveAt_150 rfl rfl ?_
      refine z_iload_n (pc' := 152) (x := x1) dX4_solveAt_151 rfl rfl ?_
      refine z_iload_n (pc' := 153) (x := x2) dX4_solveAt_152 rfl rfl ?_
      refine z_iload (pc' := 155) (x := y6) dX4_solveAt_153 rfl rfl ?_
      refine z_iload_n (pc' := 156) (x := x3) dX4_solveAt_155 rfl rfl ?_
      obtain ⟨d8, P8, hd8, hC8, h⟩ := h
      refine z_callV (pc' := 159) (M' := mX4_numberAt) (As := [.int x1, .int x2, .int y6, .int x3]) dX4_solveAt_156 rfl ml_X4_120 me_X4_numberAt hC8 rfl (by decide) rfl rfl hd8 (Nat.le_of_ble_eq_true rfl) ⟨Nat.le_refl _, Nat.le_refl _⟩ rfl ?_
      rintro _ _ ⟨y8, I8, L8, rfl, rfl, hP8⟩
      replace h := h y8 I8 L8 hP8
      refine z_istore (pc' := 161) (ls' := [some (.ref 14), some (.int x1), some (.int x2), some (.int x3), some (.int y1), some (.int y6), some (.int y8), none, none, none]) dX4_solveAt_159 rfl (by decide) rfl ?_
      refine z_aload_n (pc' := 162) (x := 14) dX4_solveAt_161 rfl rfl ?_
      refine z_iload_n (pc' := 163) (x := x1) dX4_solveAt_162 rfl rfl ?_
      refine z_iload_n (pc' := 164) (x := x2) dX4_solveAt_163 rfl rfl ?_
      refine z_iload_n (pc' := 165) (x := x3) dX4_solveAt_164 rfl rfl ?_
      obtain ⟨d9, P9, hd9, hC9, h⟩ := h
      refine z_callV (pc' := 168) (M' := mX4_situationNext) (As := [.int x1, .int x2, .int x3]) dX4_solveAt_165 rfl ml_X4_123 me_X4_situationNext hC9 rfl (by decide) rfl rfl hd9 (Nat.le_of_ble_eq_true rfl) ⟨Nat.le_refl _, Nat.le_refl _⟩ rfl ?_
      rintro _ _ ⟨y9, I9, L9, rfl, rfl, hP9⟩
      replace h := h y9 I9 L9 hP9
      refine z_istore (pc' := 170) (ls' := [some (.ref 14), some (.int x1), some (.int x2), some (.int x3), some (.int y1), some (.int y6), some (.int y8), some (.int y9), none, none]) dX4_solveAt_168 rfl (by decide) rfl ?_
      refine z_aload_n (pc' := 171) (x := 14) dX4_solveAt_170 rfl rfl ?_
      refine z_iload_n (pc' := 172) (x := x1) dX4_solveAt_171 rfl rfl ?_
      refine z_iload_n (pc' := 173) (x := x2) dX4_solveAt_172 rfl rfl ?_
      refine z_iload_n (pc' := 174) (x := x3) dX4_solveAt_173 rfl rfl ?_
      refine z_iload (pc' := 176) (x := y6) dX4_solveAt_174 rfl rfl ?_
      obtain ⟨d10, P10, hd10, hC10, h⟩ := h
      refine z_callS (pc' := 179) (M' := mX4_without) (As := [.int x3, .int y6]) dX4_solveAt_176 rfl ml_X4_126 me_X4_without hC10 rfl hd10 (Nat.le_of_ble_eq_true rfl) ⟨Nat.le_refl _, Nat.le_refl _⟩ rfl ?_
      rintro _ _ ⟨y10, I10, L10, rfl, rfl, hP10⟩
      replace h := h y10 I10 L10 hP10
      obtain ⟨d11, P11, hd11, hC11, h⟩ := h
      refine z_callV (pc' := 182) (M' := mX4_situationNext) (As := [.int x1, .int x2, .int y10]) dX4_solveAt_179 rfl ml_X4_123 me_X4_situationNext hC11 rfl (by decide) rfl rfl hd11 (Nat.le_of_ble_eq_true rfl) ⟨Nat.le_refl _, Nat.le_refl _⟩ rfl ?_
      rintro _ _ ⟨y11, I11, L11, rfl, rfl, hP11⟩
      replace h := h y11 I11 L11 hP11
      refine z_istore (pc' := 184) (ls' := [some (.ref 14), some (.int x1), some (.int x2), some (.int x3), some (.int y1), some (.int y6), some (.int y8), some (.int y9), some (.int y11), none]) dX4_solveAt_182 rfl (by decide) rfl ?_
      refine z_iconst (pc' := 185) (v := 0) dX4_solveAt_184 rfl (by decide) ?_
      refine z_istore (pc' := 187) (ls' := [some (.ref 14), some (.int x1), some (.int x2), some (.int x3), some (.int y1), some (.int y6), some (.int y8), some (.int y9), some (.int y11), some (.int (0 : Int32))]) dX4_solveAt_185 rfl (by decide) rfl ?_
      refine z_sub (pc' := 0) [some (.ref 14), none, none, none, some (.int y1), none, some (.int y8), some (.int y9), some (.int y11), some (.int (0 : Int32))] (zsub_s (zsub_n (zsub_n (zsub_n (zsub_s (zsub_n (zsub_s (zsub_s (zsub_s (zsub_s zsub_nil)))))))))) ?_
      exact h
    · replace h := h.2 c5
      refine z_aload_n (pc' := 121) (x := 14) dX4_solveAt_120 rfl rfl ?_
      refine z_iload_n (pc' := 122) (x := x1) dX4_solveAt_121 rfl rfl ?_
      refine z_iload_n (pc' := 123) (x := x2) dX4_solveAt_122 rfl rfl ?_
      refine z_iload_n (pc' := 124) (x := x3) dX4_solveAt_123 rfl rfl ?_
      obtain ⟨d12, P12, hd12, hC12, h⟩ := h
      refine z_callV (pc' := 127) (M' := mX4_bestAim) (As := [.int x1, .int x2, .int x3]) dX4_solveAt_124 rfl ml_X4_114 me_X4_bestAim hC12 rfl (by decide) rfl rfl hd12 (Nat.le_of_ble_eq_true rfl) ⟨Nat.le_refl _, Nat.le_refl _⟩ rfl ?_
      rintro _ _ ⟨y12, I12, L12, rfl, rfl, hP12⟩
      replace h := h y12 I12 L12 hP12
      refine z_goto (pc' := 139) dX4_solveAt_127 (by decide) ?_
      refine z_istore (pc' := 141) (ls' := [some (.ref 14), some (.int x1), some (.int x2), some (.int x3), some (.int y1), some (.int y12), none, none, none, none]) dX4_solveAt_139 rfl (by decide) rfl ?_
      refine z_aload_n (pc' := 142) (x := 14) dX4_solveAt_141 rfl rfl ?_
      refine z_getr (pc' := 145) (x := 17) dX4_solveAt_142 rfl fl_X4_18 rfl rfl rfl ?_
      refine z_iload (pc' := 147) (x := y1) dX4_solveAt_145 rfl rfl ?_
      refine z_iload (pc' := 149) (x := y12) dX4_solveAt_147 rfl rfl ?_
      obtain ⟨j13, ha13, hb13, h⟩ := h
      refine z_iast (pc' := 150) (j := j13) (w' := zs (xI I12 17 j13 y12) L12) dX4_solveAt_149 rfl rfl (by decide) ha13 hb13 rfl ?_
      refine z_aload_n (pc' := 151) (x := 14) dX4_solveAt_150 rfl rfl ?_
      refine z_iload_n (pc' := 152) (x := x1) dX4_solveAt_151 rfl rfl ?_
      refine z_iload_n (pc' := 153) (x := x2) dX4_solveAt_152 rfl rfl ?_
      refine z_iload (pc' := 155) (x := y12) dX4_solveAt_153 rfl rfl ?_
      refine z_iload_n (pc' := 156) (x := x3) dX4_solveAt_155 rfl rfl ?_
      obtain ⟨d14, P14, hd14, hC14, h⟩ := h
      refine z_callV (pc' := 159) (M' := mX4_numberAt) (As := [.int x1, .int x2, .int y12, .int x3]) dX4_solveAt_156 rfl ml_X4_120 me_X4_numberAt hC14 rfl (by decide) rfl rfl hd14 (Nat.le_of_ble_eq_true rfl) ⟨Nat.le_refl _, Nat.le_refl _⟩ rfl ?_
      rintro _ _ ⟨y14, I14, L14, rfl, rfl, hP14⟩
      replace h := h y14 I14 L14 hP14
      refine z_istore (pc' := 161) (ls' := [some (.ref 14), some (.int x1), some (.int x2), some (.int x3), some (.int y1), some (.int y12), some (.int y14), none, none, none]) dX4_solveAt_159 rfl (by decide) rfl ?_
      refine z_aload_n (pc' := 162) (x := 14) dX4_solveAt_161 rfl rfl ?_
      refine z_iload_n (pc' := 163) (x := x1) dX4_solveAt_162 rfl rfl ?_
      refine z_iload_n (pc' := 164) (x := x2) dX4_solveAt_163 rfl rfl ?_
      refine z_iload_n (pc' := 165) (x := x3) dX4_solveAt_164 rfl rfl ?_
      obtain ⟨d15, P15, hd15, hC15, h⟩ := h
      refine z_callV (pc' := 168) (M' := mX4_situationNext) (As := [.int x1, .int x2, .int x3]) dX4_solveAt_165 rfl ml_X4_123 me_X4_situationNext hC15 rfl (by decide) rfl rfl hd15 (Nat.le_of_ble_eq_true rfl) ⟨Nat.le_refl _, Nat.le_refl _⟩ rfl ?_
      rintro _ _ ⟨y15, I15, L15, rfl, rfl, hP15⟩
      replace h := h y15 I15 L15 hP15
      refine z_istore (pc' := 170) (ls' := [some (.ref 14), some (.int x1), some (.int x2), some (.int x3), some (.int y1), some (.int y12), some (.int y14), some (.int y15), none, none]) dX4_solveAt_168 rfl (by decide) rfl ?_
      refine z_aload_n (pc' := 171) (x := 14) dX4_solveAt_170 rfl rfl ?_
      refine z_iload_n (pc' := 172) (x := x1) dX4_solveAt_171 rfl rfl ?_
      refine z_iload_n (pc' := 173) (x := x2) dX4_solveAt_172 rfl rfl ?_
      refine z_iload_n (pc' := 174) (x := x3) dX4_solveAt_173 rfl rfl ?_
      refine z_iload (pc' := 176) (x := y12) dX4_solveAt_174 rfl rfl ?_
      obtain ⟨d16, P16, hd16, hC16, h⟩ := h
      refine z_callS (pc' := 179) (M' := mX4_without) (As := [.int x3, .int y12]) dX4_solveAt_176 rfl ml_X4_126 me_X4_without hC16 rfl hd16 (Nat.le_of_ble_eq_true rfl) ⟨Nat.le_refl _, Nat.le_refl _⟩ rfl ?_
      rintro _ _ ⟨y16, I16, L16, rfl, rfl, hP16⟩
      replace h := h y16 I16 L16 hP16
      obtain ⟨d17, P17, hd17, hC17, h⟩ := h
      refine z_callV (pc' := 182) (M' := mX4_situationNext) (As := [.int x1, .int x2, .int y16]) dX4_solveAt_179 rfl ml_X4_123 me_X4_situationNext hC17 rfl (by decide) rfl rfl hd17 (Nat.le_of_ble_eq_true rfl) ⟨Nat.le_refl _, Nat.le_refl _⟩ rfl ?_
      rintro _ _ ⟨y17, I17, L17, rfl, rfl, hP17⟩
      replace h := h y17 I17 L17 hP17
      refine z_istore (pc' := 184) (ls' := [some (.ref 14), some (.int x1), some (.int x2), some (.int x3), some (.int y1), some (.int y12), some (.int y14), some (.int y15), some (.int y17), none]) dX4_solveAt_182 rfl (by decide) rfl ?_
      refine z_iconst (pc' := 185) (v := 0) dX4_solveAt_184 rfl (by decide) ?_
      refine z_istore (pc' := 187) (ls' := [some (.ref 14), some (.int x1), some (.int x2), some (.int x3), some (.int y1), some (.int y12), some (.int y14), some (.int y15), some (.int y17), some (.int (0 : Int32))]) dX4_solveAt_185 rfl (by decide) rfl ?_
      refine z_sub (pc' := 0) [some (.ref 14), none, none, none, some (.int y1), none, some (.int y14), some (.int y15), some (.int y17), some (.int (0 : Int32))] (zsub_s (zsub_n (zsub_n (zsub_n (zsub_s (zsub_n (zsub_s (zsub_s (zsub_s (zsub_s zsub_nil)))))))))) ?_
      exact h
  · replace h := h.2 c3
    refine z_aload_n (pc' := 21) (x := 14) dX4_solveAt_20 rfl rfl ?_
    refine z_getr (pc' := 24) (x := 17) dX4_solveAt_21 rfl fl_X4_18 rfl rfl rfl ?_
    refine z_iload (pc' := 26) (x := y1) dX4_solveAt_24 rfl rfl ?_
    refine z_bipush (pc' := 28) (v := -2) dX4_solveAt_26 rfl (by decide) ?_
    obtain ⟨j18, ha18, hb18, h⟩ := h
    refine z_iast (pc' := 29) (j := j18) (w' := zs (xI I2 17 j18 (-2 : Int32)) L2) dX4_solveAt_28 rfl rfl (by decide) ha18 hb18 rfl ?_
    refine z_aload_n (pc' := 30) (x := 14) dX4_solveAt_29 rfl rfl ?_
    refine z_getr (pc' := 33) (x := 1) dX4_solveAt_30 rfl fl_X4_32 rfl rfl rfl ?_
    refine z_getr (pc' := 36) (x := 7) dX4_solveAt_33 rfl fl_X4_108 rfl rfl rfl ?_
    refine z_iload_n (pc' := 37) (x := x3) dX4_solveAt_36 rfl rfl ?_
    obtain ⟨d19, P19, hd19, hC19, h⟩ := h
    refine z_callS (pc' := 40) (M' := mJ6_bitCount_0f7a4) (As := [.int x3]) dX4_solveAt_37 rfl ml_X4_53 me_J6_bitCount_0f7a4 hC19 rfl hd19 (Nat.le_of_ble_eq_true rfl) ⟨Nat.le_refl _, Nat.le_refl _⟩ rfl ?_
    rintro _ _ ⟨y19, I19, L19, rfl, rfl, hP19⟩
    replace h := h y19 I19 L19 hP19
    obtain ⟨j20, ha20, hb20, h⟩ := h
    refine z_iald (pc' := 41) (x := (I19 7 j20)) (j := j20) dX4_solveAt_40 rfl rfl (by decide) ha20 hb20 rfl ?_
    refine z_i2l (pc' := 42) dX4_solveAt_41 rfl ?_
    refine z_gpow (pc' := 45) dX4_solveAt_42 rfl gs_X4_40 ?_
    refine z_aload_n (pc' := 46) (x := 14) dX4_solveAt_45 rfl rfl ?_
    refine z_getr (pc' := 49) (x := 1) dX4_solveAt_46 rfl fl_X4_32 rfl rfl rfl ?_
    refine z_geti (pc' := 52) (x := (I19 1 7)) dX4_solveAt_49 rfl fl_X4_43 rfl rfl rfl ?_
    refine z_iload_n (pc' := 53) (x := x1) dX4_solveAt_52 rfl rfl ?_
    refine z_isub (pc' := 54) dX4_solveAt_53 rfl ?_
    obtain ⟨j21, ha21, hb21, h⟩ := h
    refine z_tpow (pc' := 55) (j := j21) dX4_solveAt_54 rfl ha21 hb21 ?_
    refine z_lmul (pc' := 56) dX4_solveAt_55 rfl ?_
    refine z_lstore (pc' := 58) (ls' := [some (.ref 14), some (.int x1), some (.int x2), some (.int x3), some (.int y1), some (.long (((I19 7 j20).toInt64) * (zPOW j21))), none, none, none, none]) dX4_solveAt_56 rfl (by decide) rfl ?_
    refine z_iconst (pc' := 59) (v := 0) dX4_solveAt_58 rfl (by decide) ?_
    refine z_istore (pc' := 61) (ls' := [some (.ref 14), some (.int x1), some (.int x2), some (.int x3), some (.int y1), some (.long (((I19 7 j20).toInt64) * (zPOW j21))), none, some (.int (0 : Int32)), none, none]) dX4_solveAt_59 rfl (by decide) rfl ?_
    refine z_sub (pc' := 0) [some (.ref 14), none, none, some (.int x3), some (.int y1), some (.long (((I19 7 j20).toInt64) * (zPOW j21))), none, some (.int (0 : Int32)), none, none] (zsub_s (zsub_n (zsub_n (zsub_s (zsub_s (zsub_s (zsub_n (zsub_s (zsub_n (zsub_n zsub_nil)))))))))) ?_
    exact h
set_option maxHeartbeats 4000000 in
set_option maxRecDepth 100000 in
theorem t_X4_solveAt_187 {l : Launch} {G : zG} {d : Nat} {P : zIM → zLM → Prop} {I : zIM} {L : zLM} {x4 : Int32} {x6 : Int32} {x7 : Int32} {x8 : Int32} {x9 : Int32}   (h : (((I 1 6) ≤ x9 → (P I L)) ∧ (¬ (I 1 6) ≤ x9 → (∃ (d2 : Nat) (P2 : Int64 → zIM → zLM → Prop), d2 + 1 ≤ d ∧ zCl l G d2 mX4_mixed [.ref 14, .int x6, .int x8, .int x7, .int x9] I L P2 ∧ ∀ (y2 : Int64) (I2 : zIM) (L2 : zLM), P2 y2 I2 L2 → (∃ j3 : Nat, ((x4 * (4 : Int32)) + x9) = nI j3 ∧ j3 < 2560 ∧ (K_X4_solveAt_187 l G d P I2 (xL L2 16 j3 y2) x4 x6 x7 x8 (x9 + (1 : Int32)))))))) : K_X4_solveAt_187 l G d P I L x4 x6 x7 x8 x9  := by
  refine z_iload (pc' := 189) (x := x9) dX4_solveAt_187 rfl rfl ?_
  refine z_aload_n (pc' := 190) (x := 14) dX4_solveAt_189 rfl rfl ?_
  refine z_getr (pc' := 193) (x := 1) dX4_solveAt_190 rfl fl_X4_32 rfl rfl rfl ?_
  refine z_geti (pc' := 196) (x := (I 1 6)) dX4_solveAt_193 rfl fl_X4_70 rfl rfl rfl ?_
  refine z_icmp_ge (pc' := 199) (tgt := 229) dX4_solveAt_196 rfl (by decide) (fun c1 => ?_) (fun c1 => ?_)
  · replace h := h.1 c1
    exact z_vret dX4_solveAt_229 rfl ⟨Nat.le_refl _, Nat.le_refl _⟩ ⟨_, _, rfl, rfl, h⟩
  · replace h := h.2 c1
    refine z_aload_n (pc' := 200) (x := 14) dX4_solveAt_199 rfl rfl ?_
    refine z_getr (pc' := 203) (x := 16) dX4_solveAt_200 rfl fl_X4_15 rfl rfl rfl ?_
    refine z_iload (pc' := 205) (x := x4) dX4_solveAt_203 rfl rfl ?_
    refine z_iconst (pc' := 206) (v := 4) dX4_solveAt_205 rfl (by decide) ?_
    refine z_imul (pc' := 207) dX4_solveAt_206 rfl ?_
    refine z_iload (pc' := 209) (x := x9) dX4_solveAt_207 rfl rfl ?_
    refine z_iadd (pc' := 210) dX4_solveAt_209 rfl ?_
    refine z_aload_n (pc' := 211) (x := 14) dX4_solveAt_210 rfl rfl ?_
    refine z_iload (pc' := 213) (x := x6) dX4_solveAt_211 rfl rfl ?_
    refine z_iload (pc' := 215) (x := x8) dX4_solveAt_213 rfl rfl ?_
    refine z_iload (pc' := 217) (x := x7) dX4_solveAt_215 rfl rfl ?_
    refine z_iload (pc' := 219) (x := x9) dX4_solveAt_217 rfl rfl ?_
    obtain ⟨d2, P2, hd2, hC2, h⟩ := h
    refine z_callV (pc' := 222) (M' := mX4_mixed) (As := [.int x6, .int x8, .int x7, .int x9]) dX4_solveAt_219 rfl ml_X4_129 me_X4_mixed hC2 rfl (by decide) rfl rfl hd2 (Nat.le_of_ble_eq_true rfl) ⟨Nat.le_refl _, Nat.le_refl _⟩ rfl ?_
    rintro _ _ ⟨y2, I2, L2, rfl, rfl, hP2⟩
    replace h := h y2 I2 L2 hP2
    obtain ⟨j3, ha3, hb3, h⟩ := h
    refine z_last (pc' := 223) (j := j3) (w' := zs I2 (xL L2 16 j3 y2)) dX4_solveAt_222 rfl rfl (by decide) ha3 hb3 rfl ?_
    refine z_iinc (pc' := 226) (x := x9) (v := (x9 + (1 : Int32))) (ls' := [some (.ref 14), none, none, none, some (.int x4), none, some (.int x6), some (.int x7), some (.int x8), some (.int (x9 + (1 : Int32)))]) dX4_solveAt_223 rfl rfl (by rfl) (by decide) rfl ?_
    refine z_goto (pc' := 187) dX4_solveAt_226 (by decide) ?_
    exact h
set_option maxHeartbeats 4000000 in
set_option maxRecDepth 100000 in
theorem t_X4_solveAt_61 {l : Launch} {G : zG} {d : Nat} {P : zIM → zLM → Prop} {I : zIM} {L : zLM} {x3 : Int32} {x4 : Int32} {x5 : Int64} {x7 : Int32}   (h : (((I 1 6) ≤ x7 → (P I L)) ∧ (¬ (I 1 6) ≤ x7 → (((((x3 >>> (x7 &&& 31)) &&& (1 : Int32)) = 0 → (∃ j3 : Nat, ((x4 * (4 : Int32)) + x7) = nI j3 ∧ j3 < 2560 ∧ (K_X4_solveAt_61 l G d P I (xL L 16 j3 (0 : Int64)) x3 x4 x5 (x7 + (1 : Int32))))) ∧ (¬ ((x3 >>> (x7 &&& 31)) &&& (1 : Int32)) = 0 → (∃ j4 : Nat, ((x4 * (4 : Int32)) + x7) = nI j4 ∧ j4 < 2560 ∧ (K_X4_solveAt_61 l G d P I (xL L 16 j4 x5) x3 x4 x5 (x7 + (1 : Int32)))))))))) : K_X4_solveAt_61 l G d P I L x3 x4 x5 x7  := by
  refine z_iload (pc' := 63) (x := x7) dX4_solveAt_61 rfl rfl ?_
  refine z_aload_n (pc' := 64) (x := 14) dX4_solveAt_63 rfl rfl ?_
  refine z_getr (pc' := 67) (x := 1) dX4_solveAt_64 rfl fl_X4_32 rfl rfl rfl ?_
  refine z_geti (pc' := 70) (x := (I 1 6)) dX4_solveAt_67 rfl fl_X4_70 rfl rfl rfl ?_
  refine z_icmp_ge (pc' := 73) (tgt := 106) dX4_solveAt_70 rfl (by decide) (fun c1 => ?_) (fun c1 => ?_)
  · replace h := h.1 c1
    exact z_vret dX4_solveAt_106 rfl ⟨Nat.le_refl _, Nat.le_refl _⟩ ⟨_, _, rfl, rfl, h⟩
  · replace h := h.2 c1
    refine z_aload_n (pc' := 74) (x := 14) dX4_solveAt_73 rfl rfl ?_
    refine z_getr (pc' := 77) (x := 16) dX4_solveAt_74 rfl fl_X4_15 rfl rfl rfl ?_
    refine z_iload (pc' := 79) (x := x4) dX4_solveAt_77 rfl rfl ?_
    refine z_iconst (pc' := 80) (v := 4) dX4_solveAt_79 rfl (by decide) ?_
    refine z_imul (pc' := 81) dX4_solveAt_80 rfl ?_
    refine z_iload (pc' := 83) (x := x7) dX4_solveAt_81 rfl rfl ?_
    refine z_iadd (pc' := 84) dX4_solveAt_83 rfl ?_
    refine z_iload_n (pc' := 85) (x := x3) dX4_solveAt_84 rfl rfl ?_
    refine z_iload (pc' := 87) (x := x7) dX4_solveAt_85 rfl rfl ?_
    refine z_ishr (pc' := 88) dX4_solveAt_87 rfl ?_
    refine z_iconst (pc' := 89) (v := 1) dX4_solveAt_88 rfl (by decide) ?_
    refine z_iand (pc' := 90) dX4_solveAt_89 rfl ?_
    refine z_if_eq (pc' := 93) (tgt := 98) dX4_solveAt_90 rfl (by decide) (fun c2 => ?_) (fun c2 => ?_)
    · replace h := h.1 c2
      refine z_lconst (pc' := 99) (v := 0) dX4_solveAt_98 rfl (by decide) ?_
      obtain ⟨j3, ha3, hb3, h⟩ := h
      refine z_last (pc' := 100) (j := j3) (w' := zs I (xL L 16 j3 (0 : Int64))) dX4_solveAt_99 rfl rfl (by decide) ha3 hb3 rfl ?_
      refine z_iinc (pc' := 103) (x := x7) (v := (x7 + (1 : Int32))) (ls' := [some (.ref 14), none, none, some (.int x3), some (.int x4), some (.long x5), none, some (.int (x7 + (1 : Int32))), none, none]) dX4_solveAt_100 rfl rfl (by rfl) (by decide) rfl ?_
      refine z_goto (pc' := 61) dX4_solveAt_103 (by decide) ?_
      exact h
    · replace h := h.2 c2
      refine z_lload (pc' := 95) (x := x5) dX4_solveAt_93 rfl rfl ?_
      refine z_goto (pc' := 99) dX4_solveAt_95 (by decide) ?_
      obtain ⟨j4, ha4, hb4, h⟩ := h
      refine z_last (pc' := 100) (j := j4) (w' := zs I (xL L 16 j4 x5)) dX4_solveAt_99 rfl rfl (by decide) ha4 hb4 rfl ?_
      refine z_iinc (pc' := 103) (x := x7) (v := (x7 + (1 : Int32))) (ls' := [some (.ref 14), none, none, some (.int x3), some (.int x4), some (.long x5), none, some (.int (x7 + (1 : Int32))), none, none]) dX4_solveAt_100 rfl rfl (by rfl) (by decide) rfl ?_
      refine z_goto (pc' := 61) dX4_solveAt_103 (by decide) ?_
      exact h
set_option maxHeartbeats 4000000 in
set_option maxRecDepth 100000 in
theorem t_X4_bestAim {l : Launch} {G : zG} {d : Nat} {P : Int32 → zIM → zLM → Prop} {I : zIM} {L : zLM} {x1 : Int32} {x2 : Int32} {x3 : Int32}  (h : ∃ (d1 : Nat) (P1 : Int32 → zIM → zLM → Prop), d1 + 1 ≤ d ∧ zCi l G d1 mX4_situationNext [.ref 14, .int x1, .int x2, .int x3] I L P1 ∧ ∀ (y1 : Int32) (I1 : zIM) (L1 : zLM), P1 y1 I1 L1 → (∃ (d2 : Nat) (P2 : Int64 → zIM → zLM → Prop), d2 + 1 ≤ d ∧ zCl l G d2 mX4_mixed [.ref 14, .int (0 : Int32), .int y1, .int y1, .int x2] I1 L1 P2 ∧ ∀ (y2 : Int64) (I2 : zIM) (L2 : zLM), P2 y2 I2 L2 → (K_X4_bestAim_28 l G d P I2 L2 x1 x2 x3 y1 (-2 : Int32) y2 (0 : Int32)))) : zCi l G d mX4_bestAim [.ref 14, .int x1, .int x2, .int x3] I L P := by
  refine zCn.of (ls := [some (.ref 14), some (.int x1), some (.int x2), some (.int x3), none, none, none, none, none, none, none, none]) (by decide) (Nat.le_of_ble_eq_true rfl) rfl ?_
  refine z_aload_n (pc' := 1) (x := 14) dX4_bestAim_0 rfl rfl ?_
  refine z_iload_n (pc' := 2) (x := x1) dX4_bestAim_1 rfl rfl ?_
  refine z_iload_n (pc' := 3) (x := x2) dX4_bestAim_2 rfl rfl ?_
  refine z_iload_n (pc' := 4) (x := x3) dX4_bestAim_3 rfl rfl ?_
  obtain ⟨d1, P1, hd1, hC1, h⟩ := h
  refine z_callV (pc' := 7) (M' := mX4_situationNext) (As := [.int x1, .int x2, .int x3]) dX4_bestAim_4 rfl ml_X4_123 me_X4_situationNext hC1 rfl (by decide) rfl rfl hd1 (Nat.le_of_ble_eq_true rfl) ⟨Nat.le_refl _, Nat.le_refl _⟩ rfl ?_
  rintro _ _ ⟨y1, I1, L1, rfl, rfl, hP1⟩
  replace h := h y1 I1 L1 hP1
  refine z_istore (pc' := 9) (ls' := [some (.ref 14), some (.int x1), some (.int x2), some (.int x3), some (.int y1), none, none, none, none, none, none, none]) dX4_bestAim_7 rfl (by decide) rfl ?_
  refine z_bipush (pc' := 11) (v := -2) dX4_bestAim_9 rfl (by decide) ?_
  refine z_istore (pc' := 13) (ls' := [some (.ref 14), some (.int x1), some (.int x2), some (.int x3), some (.int y1), some (.int (-2 : Int32)), none, none, none, none, none, none]) dX4_bestAim_11 rfl (by decide) rfl ?_
  refine z_aload_n (pc' := 14) (x := 14) dX4_bestAim_13 rfl rfl ?_
  refine z_iconst (pc' := 15) (v := 0) dX4_bestAim_14 rfl (by decide) ?_
  refine z_iload (pc' := 17) (x := y1) dX4_bestAim_15 rfl rfl ?_
  refine z_iload (pc' := 19) (x := y1) dX4_bestAim_17 rfl rfl ?_
  refine z_iload_n (pc' := 20) (x := x2) dX4_bestAim_19 rfl rfl ?_
  obtain ⟨d2, P2, hd2, hC2, h⟩ := h
  refine z_callV (pc' := 23) (M' := mX4_mixed) (As := [.int (0 : Int32), .int y1, .int y1, .int x2]) dX4_bestAim_20 rfl ml_X4_129 me_X4_mixed hC2 rfl (by decide) rfl rfl hd2 (Nat.le_of_ble_eq_true rfl) ⟨Nat.le_refl _, Nat.le_refl _⟩ rfl ?_
  rintro _ _ ⟨y2, I2, L2, rfl, rfl, hP2⟩
  replace h := h y2 I2 L2 hP2
  refine z_lstore (pc' := 25) (ls' := [some (.ref 14), some (.int x1), some (.int x2), some (.int x3), some (.int y1), some (.int (-2 : Int32)), some (.long y2), none, none, none, none, none]) dX4_bestAim_23 rfl (by decide) rfl ?_
  refine z_iconst (pc' := 26) (v := 0) dX4_bestAim_25 rfl (by decide) ?_
  refine z_istore (pc' := 28) (ls' := [some (.ref 14), some (.int x1), some (.int x2), some (.int x3), some (.int y1), some (.int (-2 : Int32)), some (.long y2), none, some (.int (0 : Int32)), none, none, none]) dX4_bestAim_26 rfl (by decide) rfl ?_
  exact h
set_option maxHeartbeats 4000000 in
set_option maxRecDepth 100000 in
theorem t_X4_bestAim_28 {l : Launch} {G : zG} {d : Nat} {P : Int32 → zIM → zLM → Prop} {I : zIM} {L : zLM} {x1 : Int32} {x2 : Int32} {x3 : Int32} {x4 : Int32} {x5 : Int32} {x6 : Int64} {x8 : Int32}   (h : (((I 1 6) ≤ x8 → (P x5 I L)) ∧ (¬ (I 1 6) ≤ x8 → (((x8 = x2 → (K_X4_bestAim_28 l G d P I L x1 x2 x3 x4 x5 x6 (x8 + (1 : Int32)))) ∧ (¬ x8 = x2 → (((((x3 >>> (x8 &&& 31)) &&& (1 : Int32)) = 0 → (K_X4_bestAim_28 l G d P I L x1 x2 x3 x4 x5 x6 (x8 + (1 : Int32)))) ∧ (¬ ((x3 >>> (x8 &&& 31)) &&& (1 : Int32)) = 0 → (∃ (d4 : Nat) (P4 : Int32 → zIM → zLM → Prop), d4 + 1 ≤ d ∧ zCi l G d4 mX4_without [.int x3, .int x8] I L P4 ∧ ∀ (y4 : Int32) (I4 : zIM) (L4 : zLM), P4 y4 I4 L4 → (∃ (d5 : Nat) (P5 : Int32 → zIM → zLM → Prop), d5 + 1 ≤ d ∧ zCi l G d5 mX4_situationNext [.ref 14, .int x1, .int x2, .int y4] I4 L4 P5 ∧ ∀ (y5 : Int32) (I5 : zIM) (L5 : zLM), P5 y5 I5 L5 → (∃ (d6 : Nat) (P6 : Int32 → zIM → zLM → Prop), d6 + 1 ≤ d ∧ zCi l G d6 mX4_numberAt [.ref 14, .int x1, .int x2, .int x8, .int x3] I5 L5 P6 ∧ ∀ (y6 : Int32) (I6 : zIM) (L6 : zLM), P6 y6 I6 L6 → (∃ (d7 : Nat) (P7 : Int64 → zIM → zLM → Prop), d7 + 1 ≤ d ∧ zCl l G d7 mX4_mixed [.ref 14, .int y6, .int y5, .int x4, .int x2] I6 L6 P7 ∧ ∀ (y7 : Int64) (I7 : zIM) (L7 : zLM), P7 y7 I7 L7 → (((y7 ≤ x6 → (K_X4_bestAim_28 l G d P I7 L7 x1 x2 x3 x4 x5 x6 (x8 + (1 : Int32)))) ∧ (¬ y7 ≤ x6 → (K_X4_bestAim_28 l G d P I7 L7 x1 x2 x3 x4 x8 y7 (x8 + (1 : Int32))))))))))))))))))) : K_X4_bestAim_28 l G d P I L x1 x2 x3 x4 x5 x6 x8  := by
  refine z_iload (pc' := 30) (x := x8) dX4_bestAim_28 rfl rfl ?_
  refine z_aload_n (pc' := 31) (x := 14) dX4_bestAim_30 rfl rfl ?_
  refine z_getr (pc' := 34) (x := 1) dX4_bestAim_31 rfl fl_X4_32 rfl rfl rfl ?_
  refine z_geti (pc' := 37) (x := (I 1 6)) dX4_bestAim_34 rfl fl_X4_70 rfl rfl rfl ?_
  refine z_icmp_ge (pc' := 40) (tgt := 111) dX4_bestAim_37 rfl (by decide) (fun c1 => ?_) (fun c1 => ?_)
  · replace h := h.1 c1
    refine z_iload (pc' := 113) (x := x5) dX4_bestAim_111 rfl rfl ?_
    exact z_iret dX4_bestAim_113 rfl rfl ⟨Nat.le_refl _, Nat.le_refl _⟩ ⟨_, _, _, rfl, rfl, h⟩
  · replace h := h.2 c1
    refine z_iload (pc' := 42) (x := x8) dX4_bestAim_40 rfl rfl ?_
    refine z_iload_n (pc' := 43) (x := x2) dX4_bestAim_42 rfl rfl ?_
    refine z_icmp_eq (pc' := 46) (tgt := 105) dX4_bestAim_43 rfl (by decide) (fun c2 => ?_) (fun c2 => ?_)
    · replace h := h.1 c2
      refine z_iinc (pc' := 108) (x := x8) (v := (x8 + (1 : Int32))) (ls' := [some (.ref 14), some (.int x1), some (.int x2), some (.int x3), some (.int x4), some (.int x5), some (.long x6), none, some (.int (x8 + (1 : Int32))), none, none, none]) dX4_bestAim_105 rfl rfl (by rfl) (by decide) rfl ?_
      refine z_goto (pc' := 28) dX4_bestAim_108 (by decide) ?_
      exact h
    · replace h := h.2 c2
      refine z_iload_n (pc' := 47) (x := x3) dX4_bestAim_46 rfl rfl ?_
      refine z_iload (pc' := 49) (x := x8) dX4_bestAim_47 rfl rfl ?_
      refine z_ishr (pc' := 50) dX4_bestAim_49 rfl ?_
      refine z_iconst (pc' := 51) (v := 1) dX4_bestAim_50 rfl (by decide) ?_
      refine z_iand (pc' := 52) dX4_bestAim_51 rfl ?_
      refine z_if_eq (pc' := 55) (tgt := 105) dX4_bestAim_52 rfl (by decide) (fun c3 => ?_) (fun c3 => ?_)
      · replace h := h.1 c3
        refine z_iinc (pc' := 108) (x := x8) (v := (x8 + (1 : Int32))) (ls' := [some (.ref 14), some (.int x1), some (.int x2), some (.int x3), some (.int x4), some (.int x5), some (.long x6), none, some (.int (x8 + (1 : Int32))), none, none, none]) dX4_bestAim_105 rfl rfl (by rfl) (by decide) rfl ?_
        refine z_goto (pc' := 28) dX4_bestAim_108 (by decide) ?_
        exact h
      · replace h := h.2 c3
        refine z_aload_n (pc' := 56) (x := 14) dX4_bestAim_55 rfl rfl ?_
        refine z_iload_n (pc' := 57) (x := x1) dX4_bestAim_56 rfl rfl ?_
        refine z_iload_n (pc' := 58) (x := x2) dX4_bestAim_57 rfl rfl ?_
        refine z_iload_n (pc' := 59) (x := x3) dX4_bestAim_58 rfl rfl ?_
        refine z_iload (pc' := 61) (x := x8) dX4_bestAim_59 rfl rfl ?_
        obtain ⟨d4, P4, hd4, hC4, h⟩ := h
        refine z_callS (pc' := 64) (M' := mX4_without) (As := [.int x3, .int x8]) dX4_bestAim_61 rfl ml_X4_126 me_X4_without hC4 rfl hd4 (Nat.le_of_ble_eq_true rfl) ⟨Nat.le_refl _, Nat.le_refl _⟩ rfl ?_
        rintro _ _ ⟨y4, I4, L4, rfl, rfl, hP4⟩
        replace h := h y4 I4 L4 hP4
        obtain ⟨d5, P5, hd5, hC5, h⟩ := h
        refine z_callV (pc' := 67) (M' := mX4_situationNext) (As := [.int x1, .int x2, .int y4]) dX4_bestAim_64 rfl ml_X4_123 me_X4_situationNext hC5 rfl (by decide) rfl rfl hd5 (Nat.le_of_ble_eq_true rfl) ⟨Nat.le_refl _, Nat.le_refl _⟩ rfl ?_
        rintro _ _ ⟨y5, I5, L5, rfl, rfl, hP5⟩
        replace h := h y5 I5 L5 hP5
        refine z_istore (pc' := 69) (ls' := [some (.ref 14), some (.int x1), some (.int x2), some (.int x3), some (.int x4), some (.int x5), some (.long x6), none, some (.int x8), some (.int y5), none, none]) dX4_bestAim_67 rfl (by decide) rfl ?_
        refine z_aload_n (pc' := 70) (x := 14) dX4_bestAim_69 rfl rfl ?_
        refine z_aload_n (pc' := 71) (x := 14) dX4_bestAim_70 rfl rfl ?_
        refine z_iload_n (pc' := 72) (x := x1) dX4_bestAim_71 rfl rfl ?_
        refine z_iload_n (pc' := 73) (x := x2) dX4_bestAim_72 rfl rfl ?_
        refine z_iload (pc' := 75) (x := x8) dX4_bestAim_73 rfl rfl ?_
        refine z_iload_n (pc' := 76) (x := x3) dX4_bestAim_75 rfl rfl ?_
        obtain ⟨d6, P6, hd6, hC6, h⟩ := h
        refine z_callV (pc' := 79) (M' := mX4_numberAt) (As := [.int x1, .int x2, .int x8, .int x3]) dX4_bestAim_76 rfl ml_X4_120 me_X4_numberAt hC6 rfl (by decide) rfl rfl hd6 (Nat.le_of_ble_eq_true rfl) ⟨Nat.le_refl _, Nat.le_refl _⟩ rfl ?_
        rintro _ _ ⟨y6, I6, L6, rfl, rfl, hP6⟩
        replace h := h y6 I6 L6 hP6
        refine z_iload (pc' := 81) (x := y5) dX4_bestAim_79 rfl rfl ?_
        refine z_iload (pc' := 83) (x := x4) dX4_bestAim_81 rfl rfl ?_
        refine z_iload_n (pc' := 84) (x := x2) dX4_bestAim_83 rfl rfl ?_
        obtain ⟨d7, P7, hd7, hC7, h⟩ := h
        refine z_callV (pc' := 87) (M' := mX4_mixed) (As := [.int y6, .int y5, .int x4, .int x2]) dX4_bestAim_84 rfl ml_X4_129 me_X4_mixed hC7 rfl (by decide) rfl rfl hd7 (Nat.le_of_ble_eq_true rfl) ⟨Nat.le_refl _, Nat.le_refl _⟩ rfl ?_
        rintro _ _ ⟨y7, I7, L7, rfl, rfl, hP7⟩
        replace h := h y7 I7 L7 hP7
        refine z_lstore (pc' := 89) (ls' := [some (.ref 14), some (.int x1), some (.int x2), some (.int x3), some (.int x4), some (.int x5), some (.long x6), none, some (.int x8), some (.int y5), some (.long y7), none]) dX4_bestAim_87 rfl (by decide) rfl ?_
        refine z_lload (pc' := 91) (x := y7) dX4_bestAim_89 rfl rfl ?_
        refine z_lload (pc' := 93) (x := x6) dX4_bestAim_91 rfl rfl ?_
        refine z_lc_le (pc' := 97) (tgt := 105) dX4_bestAim_93 dX4_bestAim_94 rfl (by decide) (fun c8 => ?_) (fun c8 => ?_)
        · replace h := h.1 c8
          refine z_iinc (pc' := 108) (x := x8) (v := (x8 + (1 : Int32))) (ls' := [some (.ref 14), some (.int x1), some (.int x2), some (.int x3), some (.int x4), some (.int x5), some (.long x6), none, some (.int (x8 + (1 : Int32))), some (.int y5), some (.long y7), none]) dX4_bestAim_105 rfl rfl (by rfl) (by decide) rfl ?_
          refine z_goto (pc' := 28) dX4_bestAim_108 (by decide) ?_
          refine z_sub (pc' := 0) [some (.ref 14), some (.int x1), some (.int x2), some (.int x3), some (.int x4), some (.int x5), some (.long x6), none, some (.int (x8 + (1 : Int32))), none, none, none] (zsub_s (zsub_s (zsub_s (zsub_s (zsub_s (zsub_s (zsub_s (zsub_n (zsub_s (zsub_n (zsub_n (zsub_n zsub_nil)))))))))))) ?_
          exact h
        · replace h := h.2 c8
          refine z_lload (pc' := 99) (x := y7) dX4_bestAim_97 rfl rfl ?_
          refine z_lstore (pc' := 101) (ls' := [some (.ref 14), some (.int x1), some (.int x2), some (.int x3), some (.int x4), some (.int x5), some (.long y7), none, some (.int x8), some (.int y5), some (.long y7), none]) dX4_bestAim_99 rfl (by decide) rfl ?_
          refine z_iload (pc' := 103) (x := x8) dX4_bestAim_101 rfl rfl ?_
          refine z_istore (pc' := 105) (ls' := [some (.ref 14), some (.int x1), some (.int x2), some (.int x3), some (.int x4), some (.int x8), some (.long y7), none, some (.int x8), some (.int y5), some (.long y7), none]) dX4_bestAim_103 rfl (by decide) rfl ?_
          refine z_iinc (pc' := 108) (x := x8) (v := (x8 + (1 : Int32))) (ls' := [some (.ref 14), some (.int x1), some (.int x2), some (.int x3), some (.int x4), some (.int x8), some (.long y7), none, some (.int (x8 + (1 : Int32))), some (.int y5), some (.long y7), none]) dX4_bestAim_105 rfl rfl (by rfl) (by decide) rfl ?_
          refine z_goto (pc' := 28) dX4_bestAim_108 (by decide) ?_
          refine z_sub (pc' := 0) [some (.ref 14), some (.int x1), some (.int x2), some (.int x3), some (.int x4), some (.int x8), some (.long y7), none, some (.int (x8 + (1 : Int32))), none, none, none] (zsub_s (zsub_s (zsub_s (zsub_s (zsub_s (zsub_s (zsub_s (zsub_n (zsub_s (zsub_n (zsub_n (zsub_n zsub_nil)))))))))))) ?_
          exact h
set_option maxHeartbeats 4000000 in
set_option maxRecDepth 100000 in
theorem t_X4_mixed {l : Launch} {G : zG} {d : Nat} {P : Int64 → zIM → zLM → Prop} {I : zIM} {L : zLM} {x1 : Int32} {x2 : Int32} {x3 : Int32} {x4 : Int32}  (h : ∃ j1 : Nat, ((x2 * (4 : Int32)) + x4) = nI j1 ∧ j1 < 2560 ∧ (∃ j2 : Nat, ((x3 * (4 : Int32)) + x4) = nI j2 ∧ j2 < 2560 ∧ (P (((x1.toInt64) * (L 16 j1)) + ((((12 : Int32) - x1).toInt64) * (L 16 j2))) I L))) : zCl l G d mX4_mixed [.ref 14, .int x1, .int x2, .int x3, .int x4] I L P := by
  refine zCn.of (ls := [some (.ref 14), some (.int x1), some (.int x2), some (.int x3), some (.int x4)]) (by decide) (Nat.le_of_ble_eq_true rfl) rfl ?_
  refine z_iload_n (pc' := 1) (x := x1) dX4_mixed_0 rfl rfl ?_
  refine z_i2l (pc' := 2) dX4_mixed_1 rfl ?_
  refine z_aload_n (pc' := 3) (x := 14) dX4_mixed_2 rfl rfl ?_
  refine z_getr (pc' := 6) (x := 16) dX4_mixed_3 rfl fl_X4_15 rfl rfl rfl ?_
  refine z_iload_n (pc' := 7) (x := x2) dX4_mixed_6 rfl rfl ?_
  refine z_iconst (pc' := 8) (v := 4) dX4_mixed_7 rfl (by decide) ?_
  refine z_imul (pc' := 9) dX4_mixed_8 rfl ?_
  refine z_iload (pc' := 11) (x := x4) dX4_mixed_9 rfl rfl ?_
  refine z_iadd (pc' := 12) dX4_mixed_11 rfl ?_
  obtain ⟨j1, ha1, hb1, h⟩ := h
  refine z_lald (pc' := 13) (x := (L 16 j1)) (j := j1) dX4_mixed_12 rfl rfl (by decide) ha1 hb1 rfl ?_
  refine z_lmul (pc' := 14) dX4_mixed_13 rfl ?_
  refine z_bipush (pc' := 16) (v := 12) dX4_mixed_14 rfl (by decide) ?_
  refine z_iload_n (pc' := 17) (x := x1) dX4_mixed_16 rfl rfl ?_
  refine z_isub (pc' := 18) dX4_mixed_17 rfl ?_
  refine z_i2l (pc' := 19) dX4_mixed_18 rfl ?_
  refine z_aload_n (pc' := 20) (x := 14) dX4_mixed_19 rfl rfl ?_
  refine z_getr (pc' := 23) (x := 16) dX4_mixed_20 rfl fl_X4_15 rfl rfl rfl ?_
  refine z_iload_n (pc' := 24) (x := x3) dX4_mixed_23 rfl rfl ?_
  refine z_iconst (pc' := 25) (v := 4) dX4_mixed_24 rfl (by decide) ?_
  refine z_imul (pc' := 26) dX4_mixed_25 rfl ?_
  refine z_iload (pc' := 28) (x := x4) dX4_mixed_26 rfl rfl ?_
  refine z_iadd (pc' := 29) dX4_mixed_28 rfl ?_
  obtain ⟨j2, ha2, hb2, h⟩ := h
  refine z_lald (pc' := 30) (x := (L 16 j2)) (j := j2) dX4_mixed_29 rfl rfl (by decide) ha2 hb2 rfl ?_
  refine z_lmul (pc' := 31) dX4_mixed_30 rfl ?_
  refine z_ladd (pc' := 32) dX4_mixed_31 rfl ?_
  exact z_lret dX4_mixed_32 rfl ⟨Nat.le_refl _, Nat.le_refl _⟩ ⟨_, _, _, rfl, rfl, h⟩
set_option maxHeartbeats 4000000 in
set_option maxRecDepth 100000 in
theorem t_X4_spreadFrom {l : Launch} {G : zG} {d : Nat} {P : zIM → zLM → Prop} {I : zIM} {L : zLM} {x1 : Int32} {x2 : Int32} {x3 : Int32}  (h : ∃ (d1 : Nat) (P1 : Int32 → zIM → zLM → Prop), d1 + 1 ≤ d ∧ zCi l G d1 mX4_situation [.int x1, .int x2, .int x3] I L P1 ∧ ∀ (y1 : Int32) (I1 : zIM) (L1 : zLM), P1 y1 I1 L1 → (∃ j2 : Nat, y1 = nI j2 ∧ j2 < 640 ∧ (∃ (d3 : Nat) (P3 : Int32 → zIM → zLM → Prop), d3 + 1 ≤ d ∧ zCi l G d3 mX2_isOver [.ref 1, .int x3, .int x1] I1 L1 P3 ∧ ∀ (y3 : Int32) (I3 : zIM) (L3 : zLM), P3 y3 I3 L3 → (((y3 = 0 → (∃ (d5 : Nat) (P5 : Int32 → zIM → zLM → Prop), d5 + 1 ≤ d ∧ zCi l G d5 mX4_aimAt [.ref 14, .int x1, .int x2, .int x3] I3 L3 P5 ∧ ∀ (y5 : Int32) (I5 : zIM) (L5 : zLM), P5 y5 I5 L5 → (∃ (d6 : Nat) (P6 : Int32 → zIM → zLM → Prop), d6 + 1 ≤ d ∧ zCi l G d6 mX4_numberAt [.ref 14, .int x1, .int x2, .int y5, .int x3] I5 L5 P6 ∧ ∀ (y6 : Int32) (I6 : zIM) (L6 : zLM), P6 y6 I6 L6 → (∃ (d7 : Nat) (P7 : Int32 → zIM → zLM → Prop), d7 + 1 ≤ d ∧ zCi l G d7 mX4_situationNext [.ref 14, .int x1, .int x2, .int x3] I6 L6 P7 ∧ ∀ (y7 : Int32) (I7 : zIM) (L7 : zLM), P7 y7 I7 L7 → (∃ j8 : Nat, y7 = nI j8 ∧ j8 < 640 ∧ (∃ (d9 : Nat) (P9 : Int32 → zIM → zLM → Prop), d9 + 1 ≤ d ∧ zCi l G d9 mX4_without [.int x3, .int y5] I7 (xL L7 18 j8 ((L7 18 j8) + ((((12 : Int32) - y6).toInt64) * (L1 18 j2)))) P9 ∧ ∀ (y9 : Int32) (I9 : zIM) (L9 : zLM), P9 y9 I9 L9 → (∃ (d10 : Nat) (P10 : Int32 → zIM → zLM → Prop), d10 + 1 ≤ d ∧ zCi l G d10 mX4_situationNext [.ref 14, .int x1, .int x2, .int y9] I9 L9 P10 ∧ ∀ (y10 : Int32) (I10 : zIM) (L10 : zLM), P10 y10 I10 L10 → (∃ j11 : Nat, y10 = nI j11 ∧ j11 < 640 ∧ (P I10 (xL L10 18 j11 ((L10 18 j11) + ((y6.toInt64) * (L1 18 j2))))))))))))) ∧ (¬ y3 = 0 → (∃ j12 : Nat, ((I3 1 7) - x1) = nI j12 ∧ j12 < 10 ∧ (∃ j13 : Nat, x3 = nI j13 ∧ j13 < 16 ∧ (P I3 (xL (xL L3 15 j13 ((L3 15 j13) + ((L1 18 j2) * (zPOW j12)))) 14 1 ((L3 14 1) + ((x1.toInt64) * ((L1 18 j2) * (zPOW j12)))))))))))))) : zCv l G d mX4_spreadFrom [.ref 14, .int x1, .int x2, .int x3] I L P := by
  refine zCn.of (ls := [some (.ref 14), some (.int x1), some (.int x2), some (.int x3), none, none, none, none]) (by decide) (Nat.le_of_ble_eq_true rfl) rfl ?_
  refine z_aload_n (pc' := 1) (x := 14) dX4_spreadFrom_0 rfl rfl ?_
  refine z_getr (pc' := 4) (x := 18) dX4_spreadFrom_1 rfl fl_X4_22 rfl rfl rfl ?_
  refine z_iload_n (pc' := 5) (x := x1) dX4_spreadFrom_4 rfl rfl ?_
  refine z_iload_n (pc' := 6) (x := x2) dX4_spreadFrom_5 rfl rfl ?_
  refine z_iload_n (pc' := 7) (x := x3) dX4_spreadFrom_6 rfl rfl ?_
  obtain ⟨d1, P1, hd1, hC1, h⟩ := h
  refine z_callS (pc' := 10) (M' := mX4_situation) (As := [.int x1, .int x2, .int x3]) dX4_spreadFrom_7 rfl ml_X4_49 me_X4_situation hC1 rfl hd1 (Nat.le_of_ble_eq_true rfl) ⟨Nat.le_refl _, Nat.le_refl _⟩ rfl ?_
  rintro _ _ ⟨y1, I1, L1, rfl, rfl, hP1⟩
  replace h := h y1 I1 L1 hP1
  obtain ⟨j2, ha2, hb2, h⟩ := h
  refine z_lald (pc' := 11) (x := (L1 18 j2)) (j := j2) dX4_spreadFrom_10 rfl rfl (by decide) ha2 hb2 rfl ?_
  refine z_lstore (pc' := 13) (ls' := [some (.ref 14), some (.int x1), some (.int x2), some (.int x3), some (.long (L1 18 j2)), none, none, none]) dX4_spreadFrom_11 rfl (by decide) rfl ?_
  refine z_aload_n (pc' := 14) (x := 14) dX4_spreadFrom_13 rfl rfl ?_
  refine z_getr (pc' := 17) (x := 1) dX4_spreadFrom_14 rfl fl_X4_32 rfl rfl rfl ?_
  refine z_iload_n (pc' := 18) (x := x3) dX4_spreadFrom_17 rfl rfl ?_
  refine z_iload_n (pc' := 19) (x := x1) dX4_spreadFrom_18 rfl rfl ?_
  obtain ⟨d3, P3, hd3, hC3, h⟩ := h
  refine z_callV (pc' := 22) (M' := mX2_isOver) (As := [.int x3, .int x1]) dX4_spreadFrom_19 rfl ml_X4_104 me_X2_isOver hC3 rfl (by decide) rfl rfl hd3 (Nat.le_of_ble_eq_true rfl) ⟨Nat.le_refl _, Nat.le_refl _⟩ rfl ?_
  rintro _ _ ⟨y3, I3, L3, rfl, rfl, hP3⟩
  replace h := h y3 I3 L3 hP3
  refine z_if_eq (pc' := 25) (tgt := 69) dX4_spreadFrom_22 rfl (by decide) (fun c4 => ?_) (fun c4 => ?_)
  · replace h := h.1 c4
    refine z_aload_n (pc' := 70) (x := 14) dX4_spreadFrom_69 rfl rfl ?_
    refine z_iload_n (pc' := 71) (x := x1) dX4_spreadFrom_70 rfl rfl ?_
    refine z_iload_n (pc' := 72) (x := x2) dX4_spreadFrom_71 rfl rfl ?_
    refine z_iload_n (pc' := 73) (x := x3) dX4_spreadFrom_72 rfl rfl ?_
    obtain ⟨d5, P5, hd5, hC5, h⟩ := h
    refine z_callV (pc' := 76) (M' := mX4_aimAt) (As := [.int x1, .int x2, .int x3]) dX4_spreadFrom_73 rfl ml_X4_133 me_X4_aimAt hC5 rfl (by decide) rfl rfl hd5 (Nat.le_of_ble_eq_true rfl) ⟨Nat.le_refl _, Nat.le_refl _⟩ rfl ?_
    rintro _ _ ⟨y5, I5, L5, rfl, rfl, hP5⟩
    replace h := h y5 I5 L5 hP5
    refine z_istore (pc' := 78) (ls' := [some (.ref 14), some (.int x1), some (.int x2), some (.int x3), some (.long (L1 18 j2)), none, some (.int y5), none]) dX4_spreadFrom_76 rfl (by decide) rfl ?_
    refine z_aload_n (pc' := 79) (x := 14) dX4_spreadFrom_78 rfl rfl ?_
    refine z_iload_n (pc' := 80) (x := x1) dX4_spreadFrom_79 rfl rfl ?_
    refine z_iload_n (pc' := 81) (x := x2) dX4_spreadFrom_80 rfl rfl ?_
    refine z_iload (pc' := 83) (x := y5) dX4_spreadFrom_81 rfl rfl ?_
    refine z_iload_n (pc' := 84) (x := x3) dX4_spreadFrom_83 rfl rfl ?_
    obtain ⟨d6, P6, hd6, hC6, h⟩ := h
    refine z_callV (pc' := 87) (M' := mX4_numberAt) (As := [.int x1, .int x2, .int y5, .int x3]) dX4_spreadFrom_84 rfl ml_X4_120 me_X4_numberAt hC6 rfl (by decide) rfl rfl hd6 (Nat.le_of_ble_eq_true rfl) ⟨Nat.le_refl _, Nat.le_refl _⟩ rfl ?_
    rintro _ _ ⟨y6, I6, L6, rfl, rfl, hP6⟩
    replace h := h y6 I6 L6 hP6
    refine z_istore (pc' := 89) (ls' := [some (.ref 14), some (.int x1), some (.int x2), some (.int x3), some (.long (L1 18 j2)), none, some (.int y5), some (.int y6)]) dX4_spreadFrom_87 rfl (by decide) rfl ?_
    refine z_aload_n (pc' := 90) (x := 14) dX4_spreadFrom_89 rfl rfl ?_
    refine z_getr (pc' := 93) (x := 18) dX4_spreadFrom_90 rfl fl_X4_22 rfl rfl rfl ?_
    refine z_aload_n (pc' := 94) (x := 14) dX4_spreadFrom_93 rfl rfl ?_
    refine z_iload_n (pc' := 95) (x := x1) dX4_spreadFrom_94 rfl rfl ?_
    refine z_iload_n (pc' := 96) (x := x2) dX4_spreadFrom_95 rfl rfl ?_
    refine z_iload_n (pc' := 97) (x := x3) dX4_spreadFrom_96 rfl rfl ?_
    obtain ⟨d7, P7, hd7, hC7, h⟩ := h
    refine z_callV (pc' := 100) (M' := mX4_situationNext) (As := [.int x1, .int x2, .int x3]) dX4_spreadFrom_97 rfl ml_X4_123 me_X4_situationNext hC7 rfl (by decide) rfl rfl hd7 (Nat.le_of_ble_eq_true rfl) ⟨Nat.le_refl _, Nat.le_refl _⟩ rfl ?_
    rintro _ _ ⟨y7, I7, L7, rfl, rfl, hP7⟩
    replace h := h y7 I7 L7 hP7
    refine z_dup2 (pc' := 101) dX4_spreadFrom_100 rfl rfl rfl ?_
    obtain ⟨j8, ha8, hb8, h⟩ := h
    refine z_lald (pc' := 102) (x := (L7 18 j8)) (j := j8) dX4_spreadFrom_101 rfl rfl (by decide) ha8 hb8 rfl ?_
    refine z_bipush (pc' := 104) (v := 12) dX4_spreadFrom_102 rfl (by decide) ?_
    refine z_iload (pc' := 106) (x := y6) dX4_spreadFrom_104 rfl rfl ?_
    refine z_isub (pc' := 107) dX4_spreadFrom_106 rfl ?_
    refine z_i2l (pc' := 108) dX4_spreadFrom_107 rfl ?_
    refine z_lload (pc' := 110) (x := (L1 18 j2)) dX4_spreadFrom_108 rfl rfl ?_
    refine z_lmul (pc' := 111) dX4_spreadFrom_110 rfl ?_
    refine z_ladd (pc' := 112) dX4_spreadFrom_111 rfl ?_
    refine z_last (pc' := 113) (j := j8) (w' := zs I7 (xL L7 18 j8 ((L7 18 j8) + ((((12 : Int32) - y6).toInt64) * (L1 18 j2))))) dX4_spreadFrom_112 rfl rfl (by decide) ha8 hb8 rfl ?_
    refine z_aload_n (pc' := 114) (x := 14) dX4_spreadFrom_113 rfl rfl ?_
    refine z_getr (pc' := 117) (x := 18) dX4_spreadFrom_114 rfl fl_X4_22 rfl rfl rfl ?_
    refine z_aload_n (pc' := 118) (x := 14) dX4_spreadFrom_117 rfl rfl ?_
    refine z_iload_n (pc' := 119) (x := x1) dX4_spreadFrom_118 rfl rfl ?_
    refine z_iload_n (pc' := 120) (x := x2) dX4_spreadFrom_119 rfl rfl ?_
    refine z_iload_n (pc' := 121) (x := x3) dX4_spreadFrom_120 rfl rfl ?_
    refine z_iload (pc' := 123) (x := y5) dX4_spreadFrom_121 rfl rfl ?_
    obtain ⟨d9, P9, hd9, hC9, h⟩ := h
    refine z_callS (pc' := 126) (M' := mX4_without) (As := [.int x3, .int y5]) dX4_spreadFrom_123 rfl ml_X4_126 me_X4_without hC9 rfl hd9 (Nat.le_of_ble_eq_true rfl) ⟨Nat.le_refl _, Nat.le_refl _⟩ rfl ?_
    rintro _ _ ⟨y9, I9, L9, rfl, rfl, hP9⟩
    replace h := h y9 I9 L9 hP9
    obtain ⟨d10, P10, hd10, hC10, h⟩ := h
    refine z_callV (pc' := 129) (M' := mX4_situationNext) (As := [.int x1, .int x2, .int y9]) dX4_spreadFrom_126 rfl ml_X4_123 me_X4_situationNext hC10 rfl (by decide) rfl rfl hd10 (Nat.le_of_ble_eq_true rfl) ⟨Nat.le_refl _, Nat.le_refl _⟩ rfl ?_
    rintro _ _ ⟨y10, I10, L10, rfl, rfl, hP10⟩
    replace h := h y10 I10 L10 hP10
    refine z_dup2 (pc' := 130) dX4_spreadFrom_129 rfl rfl rfl ?_
    obtain ⟨j11, ha11, hb11, h⟩ := h
    refine z_lald (pc' := 131) (x := (L10 18 j11)) (j := j11) dX4_spreadFrom_130 rfl rfl (by decide) ha11 hb11 rfl ?_
    refine z_iload (pc' := 133) (x := y6) dX4_spreadFrom_131 rfl rfl ?_
    refine z_i2l (pc' := 134) dX4_spreadFrom_133 rfl ?_
    refine z_lload (pc' := 136) (x := (L1 18 j2)) dX4_spreadFrom_134 rfl rfl ?_
    refine z_lmul (pc' := 137) dX4_spreadFrom_136 rfl ?_
    refine z_ladd (pc' := 138) dX4_spreadFrom_137 rfl ?_
    refine z_last (pc' := 139) (j := j11) (w' := zs I10 (xL L10 18 j11 ((L10 18 j11) + ((y6.toInt64) * (L1 18 j2))))) dX4_spreadFrom_138 rfl rfl (by decide) ha11 hb11 rfl ?_
    exact z_vret dX4_spreadFrom_139 rfl ⟨Nat.le_refl _, Nat.le_refl _⟩ ⟨_, _, rfl, rfl, h⟩
  · replace h := h.2 c4
    refine z_lload (pc' := 27) (x := (L1 18 j2)) dX4_spreadFrom_25 rfl rfl ?_
    refine z_gpow (pc' := 30) dX4_spreadFrom_27 rfl gs_X4_40 ?_
    refine z_aload_n (pc' := 31) (x := 14) dX4_spreadFrom_30 rfl rfl ?_
    refine z_getr (pc' := 34) (x := 1) dX4_spreadFrom_31 rfl fl_X4_32 rfl rfl rfl ?_
    refine z_geti (pc' := 37) (x := (I3 1 7)) dX4_spreadFrom_34 rfl fl_X4_43 rfl rfl rfl ?_
    refine z_iload_n (pc' := 38) (x := x1) dX4_spreadFrom_37 rfl rfl ?_
    refine z_isub (pc' := 39) dX4_spreadFrom_38 rfl ?_
    obtain ⟨j12, ha12, hb12, h⟩ := h
    refine z_tpow (pc' := 40) (j := j12) dX4_spreadFrom_39 rfl ha12 hb12 ?_
    refine z_lmul (pc' := 41) dX4_spreadFrom_40 rfl ?_
    refine z_lstore (pc' := 43) (ls' := [some (.ref 14), some (.int x1), some (.int x2), some (.int x3), some (.long (L1 18 j2)), none, some (.long ((L1 18 j2) * (zPOW j12))), none]) dX4_spreadFrom_41 rfl (by decide) rfl ?_
    refine z_aload_n (pc' := 44) (x := 14) dX4_spreadFrom_43 rfl rfl ?_
    refine z_getr (pc' := 47) (x := 15) dX4_spreadFrom_44 rfl fl_X4_9 rfl rfl rfl ?_
    refine z_iload_n (pc' := 48) (x := x3) dX4_spreadFrom_47 rfl rfl ?_
    refine z_dup2 (pc' := 49) dX4_spreadFrom_48 rfl rfl rfl ?_
    obtain ⟨j13, ha13, hb13, h⟩ := h
    refine z_lald (pc' := 50) (x := (L3 15 j13)) (j := j13) dX4_spreadFrom_49 rfl rfl (by decide) ha13 hb13 rfl ?_
    refine z_lload (pc' := 52) (x := ((L1 18 j2) * (zPOW j12))) dX4_spreadFrom_50 rfl rfl ?_
    refine z_ladd (pc' := 53) dX4_spreadFrom_52 rfl ?_
    refine z_last (pc' := 54) (j := j13) (w' := zs I3 (xL L3 15 j13 ((L3 15 j13) + ((L1 18 j2) * (zPOW j12))))) dX4_spreadFrom_53 rfl rfl (by decide) ha13 hb13 rfl ?_
    refine z_aload_n (pc' := 55) (x := 14) dX4_spreadFrom_54 rfl rfl ?_
    refine z_dup (pc' := 56) dX4_spreadFrom_55 rfl rfl ?_
    refine z_getl (pc' := 59) (x := (L3 14 1)) dX4_spreadFrom_56 rfl fl_X4_77 rfl rfl rfl ?_
    refine z_iload_n (pc' := 60) (x := x1) dX4_spreadFrom_59 rfl rfl ?_
    refine z_i2l (pc' := 61) dX4_spreadFrom_60 rfl ?_
    refine z_lload (pc' := 63) (x := ((L1 18 j2) * (zPOW j12))) dX4_spreadFrom_61 rfl rfl ?_
    refine z_lmul (pc' := 64) dX4_spreadFrom_63 rfl ?_
    refine z_ladd (pc' := 65) dX4_spreadFrom_64 rfl ?_
    refine z_putl (pc' := 68) (w' := zs I3 (xL (xL L3 15 j13 ((L3 15 j13) + ((L1 18 j2) * (zPOW j12)))) 14 1 ((L3 14 1) + ((x1.toInt64) * ((L1 18 j2) * (zPOW j12)))))) dX4_spreadFrom_65 rfl fl_X4_77 rfl rfl rfl rfl ?_
    exact z_vret dX4_spreadFrom_68 rfl ⟨Nat.le_refl _, Nat.le_refl _⟩ ⟨_, _, rfl, rfl, h⟩
