/-! ===== trees (written by wip/whole/gen/emit.py) ===== -/
abbrev K_X3_readTape_17 (l : Launch) (G : zG) (d : Nat) (P : Int32 → zIM → zLM → Prop) (I : zIM) (L : zLM) (x1 : Int32) (x2 : Int32) : Prop := zWp (zXi l G d P) mX3_readTape (0, 0) 17 [some (.ref 9), some (.int x1), some (.int x2)] [] (zs I L)
abbrev K_X3_readTape_80 (l : Launch) (G : zG) (d : Nat) (P : Int32 → zIM → zLM → Prop) (I : zIM) (L : zLM) (s0 : Int32) : Prop := zWp (zXi l G d P) mX3_readTape (0, 0) 80 [some (.ref 9), none, none] [.int s0] (zs I L)
abbrev K_X3_readTape_111 (l : Launch) (G : zG) (d : Nat) (P : Int32 → zIM → zLM → Prop) (I : zIM) (L : zLM) (x2 : Int32) : Prop := zWp (zXi l G d P) mX3_readTape (0, 0) 111 [some (.ref 9), none, some (.int x2)] [] (zs I L)
abbrev K_X3_number_8 (l : Launch) (G : zG) (d : Nat) (P : Int32 → zIM → zLM → Prop) (I : zIM) (L : zLM) (x1 : Int32) (x2 : Int32) (x3 : Int32) (x4 : Int32) (x5 : Int32) (x6 : Int32) : Prop := zWp (zXi l G d P) mX3_number (0, 0) 8 [some (.ref 9), some (.int x1), some (.int x2), some (.int x3), some (.int x4), some (.int x5), some (.int x6), none, none] [] (zs I L)
abbrev K_X3_number_187 (l : Launch) (G : zG) (d : Nat) (P : Int32 → zIM → zLM → Prop) (I : zIM) (L : zLM) (x1 : Int32) (x2 : Int32) (x3 : Int32) (x4 : Int32) (x5 : Int32) (x6 : Int32) (s1 : Int32) : Prop := zWp (zXi l G d P) mX3_number (0, 0) 187 [some (.ref 9), some (.int x1), some (.int x2), some (.int x3), some (.int x4), some (.int x5), some (.int x6), none, none] [.int s1, .ref 9] (zs I L)
abbrev K_X3_number_227 (l : Launch) (G : zG) (d : Nat) (P : Int32 → zIM → zLM → Prop) (I : zIM) (L : zLM) (x1 : Int32) (x2 : Int32) (x3 : Int32) (x4 : Int32) (x5 : Int32) (s0 : Int32) (s1 : Int32) : Prop := zWp (zXi l G d P) mX3_number (0, 0) 227 [some (.ref 9), some (.int x1), some (.int x2), some (.int x3), some (.int x4), some (.int x5), none, none, none] [.int s1, .int s0] (zs I L)
abbrev K_X3_number_270 (l : Launch) (G : zG) (d : Nat) (P : Int32 → zIM → zLM → Prop) (I : zIM) (L : zLM) (x1 : Int32) (x2 : Int32) (x3 : Int32) (x4 : Int32) (x5 : Int32) (x6 : Int32) : Prop := zWp (zXi l G d P) mX3_number (0, 0) 270 [some (.ref 9), some (.int x1), some (.int x2), some (.int x3), some (.int x4), some (.int x5), some (.int x6), none, none] [] (zs I L)
abbrev K_X3_joined_110 (l : Launch) (G : zG) (d : Nat) (P : Int32 → zIM → zLM → Prop) (I : zIM) (L : zLM)  : Prop := zWp (zXi l G d P) mX3_joined (0, 0) 110 [none, none, none] [] (zs I L)
abbrev K_X3_joined_111 (l : Launch) (G : zG) (d : Nat) (P : Int32 → zIM → zLM → Prop) (I : zIM) (L : zLM) (s0 : Int32) : Prop := zWp (zXi l G d P) mX3_joined (0, 0) 111 [none, none, none] [.int s0] (zs I L)
abbrev K_X3_joined_168 (l : Launch) (G : zG) (d : Nat) (P : Int32 → zIM → zLM → Prop) (I : zIM) (L : zLM) (s0 : Int32) : Prop := zWp (zXi l G d P) mX3_joined (0, 0) 168 [none, none, none] [.int s0] (zs I L)
abbrev K_X3_joined_122 (l : Launch) (G : zG) (d : Nat) (P : Int32 → zIM → zLM → Prop) (I : zIM) (L : zLM) (s0 : Int32) : Prop := zWp (zXi l G d P) mX3_joined (0, 0) 122 [none, none, none] [.int s0] (zs I L)
abbrev K_X3_joined_133 (l : Launch) (G : zG) (d : Nat) (P : Int32 → zIM → zLM → Prop) (I : zIM) (L : zLM) (s0 : Int32) : Prop := zWp (zXi l G d P) mX3_joined (0, 0) 133 [none, none, none] [.int s0] (zs I L)
abbrev K_X3_joined_144 (l : Launch) (G : zG) (d : Nat) (P : Int32 → zIM → zLM → Prop) (I : zIM) (L : zLM) (s0 : Int32) : Prop := zWp (zXi l G d P) mX3_joined (0, 0) 144 [none, none, none] [.int s0] (zs I L)
abbrev K_X3_joined_92 (l : Launch) (G : zG) (d : Nat) (P : Int32 → zIM → zLM → Prop) (I : zIM) (L : zLM)  : Prop := zWp (zXi l G d P) mX3_joined (0, 0) 92 [none, none, none] [] (zs I L)
abbrev K_X3_joined_97 (l : Launch) (G : zG) (d : Nat) (P : Int32 → zIM → zLM → Prop) (I : zIM) (L : zLM) (s0 : Int32) : Prop := zWp (zXi l G d P) mX3_joined (0, 0) 97 [none, none, none] [.int s0] (zs I L)
abbrev K_X3_joined_180 (l : Launch) (G : zG) (d : Nat) (P : Int32 → zIM → zLM → Prop) (I : zIM) (L : zLM) (s0 : Int32) : Prop := zWp (zXi l G d P) mX3_joined (0, 0) 180 [none, none, none] [.int s0] (zs I L)
abbrev K_X3_readJoined_23 (l : Launch) (G : zG) (d : Nat) (P : Int32 → zIM → zLM → Prop) (I : zIM) (L : zLM) (x1 : Int32) (x2 : Int32) (x3 : Int32) (x4 : Int32) : Prop := zWp (zXi l G d P) mX3_readJoined (0, 0) 23 [some (.ref 9), some (.int x1), some (.int x2), some (.int x3), some (.int x4), none] [] (zs I L)
abbrev K_X3_isSign_43 (l : Launch) (G : zG) (d : Nat) (P : Int32 → zIM → zLM → Prop) (I : zIM) (L : zLM) (s0 : Int32) : Prop := zWp (zXi l G d P) mX3_isSign (0, 0) 43 [none, none] [.int s0] (zs I L)
abbrev K_X3_isSign_55 (l : Launch) (G : zG) (d : Nat) (P : Int32 → zIM → zLM → Prop) (I : zIM) (L : zLM) (s0 : Int32) : Prop := zWp (zXi l G d P) mX3_isSign (0, 0) 55 [none, none] [.int s0] (zs I L)
abbrev K_X3_isSign_74 (l : Launch) (G : zG) (d : Nat) (P : Int32 → zIM → zLM → Prop) (I : zIM) (L : zLM)  : Prop := zWp (zXi l G d P) mX3_isSign (0, 0) 74 [none, none] [] (zs I L)
abbrev K_X3_isSign_79 (l : Launch) (G : zG) (d : Nat) (P : Int32 → zIM → zLM → Prop) (I : zIM) (L : zLM) (s0 : Int32) : Prop := zWp (zXi l G d P) mX3_isSign (0, 0) 79 [none, none] [.int s0] (zs I L)
abbrev K_X3_isSign_92 (l : Launch) (G : zG) (d : Nat) (P : Int32 → zIM → zLM → Prop) (I : zIM) (L : zLM)  : Prop := zWp (zXi l G d P) mX3_isSign (0, 0) 92 [none, none] [] (zs I L)
abbrev K_X3_isSign_97 (l : Launch) (G : zG) (d : Nat) (P : Int32 → zIM → zLM → Prop) (I : zIM) (L : zLM) (s0 : Int32) : Prop := zWp (zXi l G d P) mX3_isSign (0, 0) 97 [none, none] [.int s0] (zs I L)
abbrev K_X3_isSign_116 (l : Launch) (G : zG) (d : Nat) (P : Int32 → zIM → zLM → Prop) (I : zIM) (L : zLM)  : Prop := zWp (zXi l G d P) mX3_isSign (0, 0) 116 [none, none] [] (zs I L)
abbrev K_X3_isSign_121 (l : Launch) (G : zG) (d : Nat) (P : Int32 → zIM → zLM → Prop) (I : zIM) (L : zLM) (s0 : Int32) : Prop := zWp (zXi l G d P) mX3_isSign (0, 0) 121 [none, none] [.int s0] (zs I L)
abbrev K_X3_readOperand_47 (l : Launch) (G : zG) (d : Nat) (P : Int32 → zIM → zLM → Prop) (I : zIM) (L : zLM) (x2 : Int32) : Prop := zWp (zXi l G d P) mX3_readOperand (0, 0) 47 [some (.ref 9), none, some (.int x2), none] [] (zs I L)
abbrev K_X3_readOperand_137 (l : Launch) (G : zG) (d : Nat) (P : Int32 → zIM → zLM → Prop) (I : zIM) (L : zLM) (x1 : Int32) (x2 : Int32) : Prop := zWp (zXi l G d P) mX3_readOperand (0, 0) 137 [some (.ref 9), some (.int x1), some (.int x2), none] [] (zs I L)
abbrev K_X3_readOperand_109 (l : Launch) (G : zG) (d : Nat) (P : Int32 → zIM → zLM → Prop) (I : zIM) (L : zLM)  : Prop := zWp (zXi l G d P) mX3_readOperand (0, 0) 109 [none, none, none, none] [] (zs I L)
abbrev K_X3_readOperand_169 (l : Launch) (G : zG) (d : Nat) (P : Int32 → zIM → zLM → Prop) (I : zIM) (L : zLM) (x3 : Int32) (s1 : Int32) : Prop := zWp (zXi l G d P) mX3_readOperand (0, 0) 169 [none, none, none, some (.int x3)] [.int s1, .ref 9] (zs I L)
abbrev K_X3_readNumber_4 (l : Launch) (G : zG) (d : Nat) (P : Int32 → zIM → zLM → Prop) (I : zIM) (L : zLM) (x1 : Int32) (x2 : Int32) : Prop := zWp (zXi l G d P) mX3_readNumber (0, 0) 4 [some (.ref 9), some (.int x1), some (.int x2)] [] (zs I L)
abbrev K_X6_isUnder_4 (l : Launch) (G : zG) (d : Nat) (P : Int32 → zIM → zLM → Prop) (I : zIM) (L : zLM) (x1 : Int32) (x2 : Int32) (x3 : Int32) : Prop := zWp (zXi l G d P) mX6_isUnder (0, 0) 4 [none, some (.int x1), some (.int x2), some (.int x3)] [] (zs I L)
abbrev K_X6_run_6 (l : Launch) (G : zG) (d : Nat) (P : Int32 → zIM → zLM → Prop) (I : zIM) (L : zLM) (x2 : Int32) (x3 : Int32) (x4 : Int32) (x5 : Int32) (x6 : Int32) : Prop := zWp (zXi l G d P) mX6_run (0, 0) 6 [some (.ref 27), none, some (.int x2), some (.int x3), some (.int x4), some (.int x5), some (.int x6)] [] (zs I L)
abbrev K_X6_run_45 (l : Launch) (G : zG) (d : Nat) (P : Int32 → zIM → zLM → Prop) (I : zIM) (L : zLM) (x2 : Int32) (x3 : Int32) (x4 : Int32) (x5 : Int32) : Prop := zWp (zXi l G d P) mX6_run (0, 0) 45 [some (.ref 27), none, some (.int x2), some (.int x3), some (.int x4), some (.int x5), none] [] (zs I L)
abbrev K_X6_run_57 (l : Launch) (G : zG) (d : Nat) (P : Int32 → zIM → zLM → Prop) (I : zIM) (L : zLM)  : Prop := zWp (zXi l G d P) mX6_run (0, 0) 57 [none, none, none, none, none, none, none] [] (zs I L)
abbrev K_X6_run_91 (l : Launch) (G : zG) (d : Nat) (P : Int32 → zIM → zLM → Prop) (I : zIM) (L : zLM) (x3 : Int32) (x4 : Int32) (x5 : Int32) (x6 : Int32) : Prop := zWp (zXi l G d P) mX6_run (0, 0) 91 [some (.ref 27), none, none, some (.int x3), some (.int x4), some (.int x5), some (.int x6)] [] (zs I L)
abbrev K_X7_look_50 (l : Launch) (G : zG) (d : Nat) (P : zIM → zLM → Prop) (I : zIM) (L : zLM) (x2 : Int32) (q0 : Nat) : Prop := zWp (zXv l G d P) mX7_look (0, 0) 50 [some (.ref 21), some (.ref (31 + 2 * q0)), some (.int x2)] [] (zs I L)
abbrev K_X7_canBe_29 (l : Launch) (G : zG) (d : Nat) (P : Int32 → zIM → zLM → Prop) (I : zIM) (L : zLM)  : Prop := zWp (zXi l G d P) mX7_canBe (0, 0) 29 [none, none, none, none, none, none, none] [] (zs I L)
abbrev K_X7_canBe_93 (l : Launch) (G : zG) (d : Nat) (P : Int32 → zIM → zLM → Prop) (I : zIM) (L : zLM)  : Prop := zWp (zXi l G d P) mX7_canBe (0, 0) 93 [none, none, none, none, none, none, none] [] (zs I L)
abbrev K_X7_canBe_147 (l : Launch) (G : zG) (d : Nat) (P : Int32 → zIM → zLM → Prop) (I : zIM) (L : zLM) (s0 : Int32) : Prop := zWp (zXi l G d P) mX7_canBe (0, 0) 147 [none, none, none, none, none, none, none] [.int s0] (zs I L)
abbrev K_X7_canBe_51 (l : Launch) (G : zG) (d : Nat) (P : Int32 → zIM → zLM → Prop) (I : zIM) (L : zLM) (s0 : Int32) : Prop := zWp (zXi l G d P) mX7_canBe (0, 0) 51 [none, none, none, none, none, none, none] [.int s0] (zs I L)
abbrev K_X7_follow_49 (l : Launch) (G : zG) (d : Nat) (P : zIM → zLM → Prop) (I : zIM) (L : zLM) (x1 : Int32) (x3 : Int32) (x4 : Int32) : Prop := zWp (zXv l G d P) mX7_follow (0, 0) 49 [some (.ref 21), some (.int x1), none, some (.int x3), some (.int x4), none] [] (zs I L)
abbrev K_X7_follow_113 (l : Launch) (G : zG) (d : Nat) (P : zIM → zLM → Prop) (I : zIM) (L : zLM) (x3 : Int32) (x4 : Int32) : Prop := zWp (zXv l G d P) mX7_follow (0, 0) 113 [some (.ref 21), none, none, some (.int x3), some (.int x4), none] [] (zs I L)
abbrev K_X7_follow_132 (l : Launch) (G : zG) (d : Nat) (P : zIM → zLM → Prop) (I : zIM) (L : zLM)  : Prop := zWp (zXv l G d P) mX7_follow (0, 0) 132 [some (.ref 21), none, none, none, none, none] [] (zs I L)
set_option maxHeartbeats 4000000 in
set_option maxRecDepth 100000 in
theorem t_X3_take {l : Launch} {G : zG} {d : Nat} {P : Int32 → zIM → zLM → Prop} {I : zIM} {L : zLM} {x1 : Int32}  (h : (((I 9 0) < (120 : Int32) → (∃ j2 : Nat, (I 9 0) = nI j2 ∧ j2 < 120 ∧ (P ((I 9 0) + (1 : Int32)) (xI (xI I 10 j2 x1) 9 0 ((I 9 0) + (1 : Int32))) L))) ∧ (¬ (I 9 0) < (120 : Int32) → (P (-3 : Int32) I L)))) : zCi l G d mX3_take [.ref 9, .int x1] I L P := by
  refine zCn.of (ls := [some (.ref 9), some (.int x1)]) (by decide) (Nat.le_of_ble_eq_true rfl) rfl ?_
  refine z_aload_n (pc' := 1) (x := 9) dX3_take_0 rfl rfl ?_
  refine z_geti (pc' := 4) (x := (I 9 0)) dX3_take_1 rfl fl_X3_9 rfl rfl rfl ?_
  refine z_bipush (pc' := 6) (v := 120) dX3_take_4 rfl (by decide) ?_
  refine z_icmp_lt (pc' := 9) (tgt := 12) dX3_take_6 rfl (by decide) (fun c1 => ?_) (fun c1 => ?_)
  · replace h := h.1 c1
    refine z_aload_n (pc' := 13) (x := 9) dX3_take_12 rfl rfl ?_
    refine z_getr (pc' := 16) (x := 10) dX3_take_13 rfl fl_X3_15 rfl rfl rfl ?_
    refine z_aload_n (pc' := 17) (x := 9) dX3_take_16 rfl rfl ?_
    refine z_geti (pc' := 20) (x := (I 9 0)) dX3_take_17 rfl fl_X3_9 rfl rfl rfl ?_
    refine z_iload_n (pc' := 21) (x := x1) dX3_take_20 rfl rfl ?_
    obtain ⟨j2, ha2, hb2, h⟩ := h
    refine z_iast (pc' := 22) (j := j2) (w' := zs (xI I 10 j2 x1) L) dX3_take_21 rfl rfl (by decide) ha2 hb2 rfl ?_
    refine z_aload_n (pc' := 23) (x := 9) dX3_take_22 rfl rfl ?_
    refine z_dup (pc' := 24) dX3_take_23 rfl rfl ?_
    refine z_geti (pc' := 27) (x := (I 9 0)) dX3_take_24 rfl fl_X3_9 rfl rfl rfl ?_
    refine z_iconst (pc' := 28) (v := 1) dX3_take_27 rfl (by decide) ?_
    refine z_iadd (pc' := 29) dX3_take_28 rfl ?_
    refine z_puti (pc' := 32) (w' := zs (xI (xI I 10 j2 x1) 9 0 ((I 9 0) + (1 : Int32))) L) dX3_take_29 rfl fl_X3_9 rfl rfl rfl rfl rfl rfl ?_
    refine z_aload_n (pc' := 33) (x := 9) dX3_take_32 rfl rfl ?_
    refine z_geti (pc' := 36) (x := ((I 9 0) + (1 : Int32))) dX3_take_33 rfl fl_X3_9 rfl rfl rfl ?_
    exact z_iret dX3_take_36 rfl rfl ⟨Nat.le_refl _, Nat.le_refl _⟩ ⟨_, _, _, rfl, rfl, h⟩
  · replace h := h.2 c1
    refine z_bipush (pc' := 11) (v := -3) dX3_take_9 rfl (by decide) ?_
    exact z_iret dX3_take_11 rfl rfl ⟨Nat.le_refl _, Nat.le_refl _⟩ ⟨_, _, _, rfl, rfl, h⟩
set_option maxHeartbeats 4000000 in
set_option maxRecDepth 100000 in
theorem t_X3_readTape {l : Launch} {G : zG} {d : Nat} {P : Int32 → zIM → zLM → Prop} {I : zIM} {L : zLM}   (h : ∃ (d1 : Nat) (P1 : Int32 → zIM → zLM → Prop), d1 + 1 ≤ d ∧ zCi l G d1 mX3_readLine [.ref 9] (xI (xI I 9 2 (0 : Int32)) 9 4 (0 : Int32)) L P1 ∧ ∀ (y1 : Int32) (I1 : zIM) (L1 : zLM), P1 y1 I1 L1 → (K_X3_readTape_17 l G d P I1 L1 y1 (0 : Int32))) : zCi l G d mX3_readTape [.ref 9] I L P := by
  refine zCn.of (ls := [some (.ref 9), none, none]) (by decide) (Nat.le_of_ble_eq_true rfl) rfl ?_
  refine z_aload_n (pc' := 1) (x := 9) dX3_readTape_0 rfl rfl ?_
  refine z_iconst (pc' := 2) (v := 0) dX3_readTape_1 rfl (by decide) ?_
  refine z_puti (pc' := 5) (w' := zs (xI I 9 2 (0 : Int32)) L) dX3_readTape_2 rfl fl_X3_31 rfl rfl rfl rfl rfl rfl ?_
  refine z_aload_n (pc' := 6) (x := 9) dX3_readTape_5 rfl rfl ?_
  refine z_iconst (pc' := 7) (v := 0) dX3_readTape_6 rfl (by decide) ?_
  refine z_puti (pc' := 10) (w' := zs (xI (xI I 9 2 (0 : Int32)) 9 4 (0 : Int32)) L) dX3_readTape_7 rfl fl_X3_34 rfl rfl rfl rfl rfl rfl ?_
  refine z_aload_n (pc' := 11) (x := 9) dX3_readTape_10 rfl rfl ?_
  obtain ⟨d1, P1, hd1, hC1, h⟩ := h
  refine z_callV (pc' := 14) (M' := mX3_readLine) (As := []) dX3_readTape_11 rfl ml_X3_37 me_X3_readLine hC1 rfl (by decide) rfl rfl hd1 (Nat.le_of_ble_eq_true rfl) ⟨Nat.le_refl _, Nat.le_refl _⟩ rfl ?_
  rintro _ _ ⟨y1, I1, L1, rfl, rfl, hP1⟩
  replace h := h y1 I1 L1 hP1
  refine z_istore_n (pc' := 15) (ls' := [some (.ref 9), some (.int y1), none]) dX3_readTape_14 rfl (by decide) rfl ?_
  refine z_iconst (pc' := 16) (v := 0) dX3_readTape_15 rfl (by decide) ?_
  refine z_istore_n (pc' := 17) (ls' := [some (.ref 9), some (.int y1), some (.int (0 : Int32))]) dX3_readTape_16 rfl (by decide) rfl ?_
  exact h
set_option maxHeartbeats 4000000 in
set_option maxRecDepth 100000 in
theorem t_X3_readTape_17 {l : Launch} {G : zG} {d : Nat} {P : Int32 → zIM → zLM → Prop} {I : zIM} {L : zLM} {x1 : Int32} {x2 : Int32}   (h : (((120 : Int32) ≤ x2 → (((x1 = 0 → (K_X3_readTape_80 l G d P I L  (I 9 2))) ∧ (¬ x1 = 0 → (((¬ (I 9 2) = (I 9 0) → (K_X3_readTape_80 l G d P I L  (I 9 2))) ∧ ((I 9 2) = (I 9 0) → (K_X3_readTape_80 l G d P I L  (-1 : Int32))))))))) ∧ (¬ (120 : Int32) ≤ x2 → (((x1 = 0 → (((x1 = 0 → (K_X3_readTape_80 l G d P I L  (I 9 2))) ∧ (¬ x1 = 0 → (((¬ (I 9 2) = (I 9 0) → (K_X3_readTape_80 l G d P I L  (I 9 2))) ∧ ((I 9 2) = (I 9 0) → (K_X3_readTape_80 l G d P I L  (-1 : Int32))))))))) ∧ (¬ x1 = 0 → (∃ (d7 : Nat) (P7 : Int32 → zIM → zLM → Prop), d7 + 1 ≤ d ∧ zCi l G d7 mX3_next [.ref 9] I L P7 ∧ ∀ (y7 : Int32) (I7 : zIM) (L7 : zLM), P7 y7 I7 L7 → (((¬ y7 = (59 : Int32) → (((x1 = 0 → (K_X3_readTape_80 l G d P I7 L7  (I7 9 2))) ∧ (¬ x1 = 0 → (((¬ (I7 9 2) = (I7 9 0) → (K_X3_readTape_80 l G d P I7 L7  (I7 9 2))) ∧ ((I7 9 2) = (I7 9 0) → (K_X3_readTape_80 l G d P I7 L7  (-1 : Int32))))))))) ∧ (y7 = (59 : Int32) → (∃ (d11 : Nat) (P11 : Int32 → zIM → zLM → Prop), d11 + 1 ≤ d ∧ zCi l G d11 mX3_readLine [.ref 9] (xI I7 9 2 ((I7 9 2) + (1 : Int32))) L7 P11 ∧ ∀ (y11 : Int32) (I11 : zIM) (L11 : zLM), P11 y11 I11 L11 → (K_X3_readTape_17 l G d P I11 L11 y11 (x2 + (1 : Int32)))))))))))))) : K_X3_readTape_17 l G d P I L x1 x2  := by
  refine z_iload_n (pc' := 18) (x := x2) dX3_readTape_17 rfl rfl ?_
  refine z_bipush (pc' := 20) (v := 120) dX3_readTape_18 rfl (by decide) ?_
  refine z_icmp_ge (pc' := 23) (tgt := 57) dX3_readTape_20 rfl (by decide) (fun c1 => ?_) (fun c1 => ?_)
  · replace h := h.1 c1
    refine z_iload_n (pc' := 58) (x := x1) dX3_readTape_57 rfl rfl ?_
    refine z_if_eq (pc' := 61) (tgt := 76) dX3_readTape_58 rfl (by decide) (fun c2 => ?_) (fun c2 => ?_)
    · replace h := h.1 c2
      refine z_aload_n (pc' := 77) (x := 9) dX3_readTape_76 rfl rfl ?_
      refine z_geti (pc' := 80) (x := (I 9 2)) dX3_readTape_77 rfl fl_X3_31 rfl rfl rfl ?_
      refine z_sub (pc' := 0) [some (.ref 9), none, none] (zsub_s (zsub_n (zsub_n zsub_nil))) ?_
      exact h
    · replace h := h.2 c2
      refine z_aload_n (pc' := 62) (x := 9) dX3_readTape_61 rfl rfl ?_
      refine z_geti (pc' := 65) (x := (I 9 2)) dX3_readTape_62 rfl fl_X3_31 rfl rfl rfl ?_
      refine z_aload_n (pc' := 66) (x := 9) dX3_readTape_65 rfl rfl ?_
      refine z_geti (pc' := 69) (x := (I 9 0)) dX3_readTape_66 rfl fl_X3_9 rfl rfl rfl ?_
      refine z_icmp_ne (pc' := 72) (tgt := 76) dX3_readTape_69 rfl (by decide) (fun c3 => ?_) (fun c3 => ?_)
      · replace h := h.1 c3
        refine z_aload_n (pc' := 77) (x := 9) dX3_readTape_76 rfl rfl ?_
        refine z_geti (pc' := 80) (x := (I 9 2)) dX3_readTape_77 rfl fl_X3_31 rfl rfl rfl ?_
        refine z_sub (pc' := 0) [some (.ref 9), none, none] (zsub_s (zsub_n (zsub_n zsub_nil))) ?_
        exact h
      · replace h := h.2 c3
        refine z_iconst (pc' := 73) (v := -1) dX3_readTape_72 rfl (by decide) ?_
        refine z_goto (pc' := 80) dX3_readTape_73 (by decide) ?_
        refine z_sub (pc' := 0) [some (.ref 9), none, none] (zsub_s (zsub_n (zsub_n zsub_nil))) ?_
        exact h
  · replace h := h.2 c1
    refine z_iload_n (pc' := 24) (x := x1) dX3_readTape_23 rfl rfl ?_
    refine z_if_eq (pc' := 27) (tgt := 57) dX3_readTape_24 rfl (by decide) (fun c4 => ?_) (fun c4 => ?_)
    · replace h := h.1 c4
      refine z_iload_n (pc' := 58) (x := x1) dX3_readTape_57 rfl rfl ?_
      refine z_if_eq (pc' := 61) (tgt := 76) dX3_readTape_58 rfl (by decide) (fun c5 => ?_) (fun c5 => ?_)
      · replace h := h.1 c5
        refine z_aload_n (pc' := 77) (x := 9) dX3_readTape_76 rfl rfl ?_
        refine z_geti (pc' := 80) (x := (I 9 2)) dX3_readTape_77 rfl fl_X3_31 rfl rfl rfl ?_
        refine z_sub (pc' := 0) [some (.ref 9), none, none] (zsub_s (zsub_n (zsub_n zsub_nil))) ?_
        exact h
      · replace h := h.2 c5
        refine z_aload_n (pc' := 62) (x := 9) dX3_readTape_61 rfl rfl ?_
        refine z_geti (pc' := 65) (x := (I 9 2)) dX3_readTape_62 rfl fl_X3_31 rfl rfl rfl ?_
        refine z_aload_n (pc' := 66) (x := 9) dX3_readTape_65 rfl rfl ?_
        refine z_geti (pc' := 69) (x := (I 9 0)) dX3_readTape_66 rfl fl_X3_9 rfl rfl rfl ?_
        refine z_icmp_ne (pc' := 72) (tgt := 76) dX3_readTape_69 rfl (by decide) (fun c6 => ?_) (fun c6 => ?_)
        · replace h := h.1 c6
          refine z_aload_n (pc' := 77) (x := 9) dX3_readTape_76 rfl rfl ?_
          refine z_geti (pc' := 80) (x := (I 9 2)) dX3_readTape_77 rfl fl_X3_31 rfl rfl rfl ?_
          refine z_sub (pc' := 0) [some (.ref 9), none, none] (zsub_s (zsub_n (zsub_n zsub_nil))) ?_
          exact h
        · replace h := h.2 c6
          refine z_iconst (pc' := 73) (v := -1) dX3_readTape_72 rfl (by decide) ?_
          refine z_goto (pc' := 80) dX3_readTape_73 (by decide) ?_
          refine z_sub (pc' := 0) [some (.ref 9), none, none] (zsub_s (zsub_n (zsub_n zsub_nil))) ?_
          exact h
    · replace h := h.2 c4
      refine z_aload_n (pc' := 28) (x := 9) dX3_readTape_27 rfl rfl ?_
      obtain ⟨d7, P7, hd7, hC7, h⟩ := h
      refine z_callV (pc' := 31) (M' := mX3_next) (As := []) dX3_readTape_28 rfl ml_X3_41 me_X3_next hC7 rfl (by decide) rfl rfl hd7 (Nat.le_of_ble_eq_true rfl) ⟨Nat.le_refl _, Nat.le_refl _⟩ rfl ?_
      rintro _ _ ⟨y7, I7, L7, rfl, rfl, hP7⟩
      replace h := h y7 I7 L7 hP7
      refine z_bipush (pc' := 33) (v := 59) dX3_readTape_31 rfl (by decide) ?_
      refine z_icmp_ne (pc' := 36) (tgt := 57) dX3_readTape_33 rfl (by decide) (fun c8 => ?_) (fun c8 => ?_)
      · replace h := h.1 c8
        refine z_iload_n (pc' := 58) (x := x1) dX3_readTape_57 rfl rfl ?_
        refine z_if_eq (pc' := 61) (tgt := 76) dX3_readTape_58 rfl (by decide) (fun c9 => ?_) (fun c9 => ?_)
        · replace h := h.1 c9
          refine z_aload_n (pc' := 77) (x := 9) dX3_readTape_76 rfl rfl ?_
          refine z_geti (pc' := 80) (x := (I7 9 2)) dX3_readTape_77 rfl fl_X3_31 rfl rfl rfl ?_
          refine z_sub (pc' := 0) [some (.ref 9), none, none] (zsub_s (zsub_n (zsub_n zsub_nil))) ?_
          exact h
        · replace h := h.2 c9
          refine z_aload_n (pc' := 62) (x := 9) dX3_readTape_61 rfl rfl ?_
          refine z_geti (pc' := 65) (x := (I7 9 2)) dX3_readTape_62 rfl fl_X3_31 rfl rfl rfl ?_
          refine z_aload_n (pc' := 66) (x := 9) dX3_readTape_65 rfl rfl ?_
          refine z_geti (pc' := 69) (x := (I7 9 0)) dX3_readTape_66 rfl fl_X3_9 rfl rfl rfl ?_
          refine z_icmp_ne (pc' := 72) (tgt := 76) dX3_readTape_69 rfl (by decide) (fun c10 => ?_) (fun c10 => ?_)
          · replace h := h.1 c10
            refine z_aload_n (pc' := 77) (x := 9) dX3_readTape_76 rfl rfl ?_
            refine z_geti (pc' := 80) (x := (I7 9 2)) dX3_readTape_77 rfl fl_X3_31 rfl rfl rfl ?_
            refine z_sub (pc' := 0) [some (.ref 9), none, none] (zsub_s (zsub_n (zsub_n zsub_nil))) ?_
            exact h
          · replace h := h.2 c10
            refine z_iconst (pc' := 73) (v := -1) dX3_readTape_72 rfl (by decide) ?_
            refine z_goto (pc' := 80) dX3_readTape_73 (by decide) ?_
            refine z_sub (pc' := 0) [some (.ref 9), none, none] (zsub_s (zsub_n (zsub_n zsub_nil))) ?_
            exact h
      · replace h := h.2 c8
        refine z_aload_n (pc' := 37) (x := 9) dX3_readTape_36 rfl rfl ?_
        refine z_dup (pc' := 38) dX3_readTape_37 rfl rfl ?_
        refine z_geti (pc' := 41) (x := (I7 9 2)) dX3_readTape_38 rfl fl_X3_31 rfl rfl rfl ?_
        refine z_iconst (pc' := 42) (v := 1) dX3_readTape_41 rfl (by decide) ?_
        refine z_iadd (pc' := 43) dX3_readTape_42 rfl ?_
        refine z_puti (pc' := 46) (w' := zs (xI I7 9 2 ((I7 9 2) + (1 : Int32))) L7) dX3_readTape_43 rfl fl_X3_31 rfl rfl rfl rfl rfl rfl ?_
        refine z_aload_n (pc' := 47) (x := 9) dX3_readTape_46 rfl rfl ?_
        obtain ⟨d11, P11, hd11, hC11, h⟩ := h
        refine z_callV (pc' := 50) (M' := mX3_readLine) (As := []) dX3_readTape_47 rfl ml_X3_37 me_X3_readLine hC11 rfl (by decide) rfl rfl hd11 (Nat.le_of_ble_eq_true rfl) ⟨Nat.le_refl _, Nat.le_refl _⟩ rfl ?_
        rintro _ _ ⟨y11, I11, L11, rfl, rfl, hP11⟩
        replace h := h y11 I11 L11 hP11
        refine z_istore_n (pc' := 51) (ls' := [some (.ref 9), some (.int y11), some (.int x2)]) dX3_readTape_50 rfl (by decide) rfl ?_
        refine z_iinc (pc' := 54) (x := x2) (v := (x2 + (1 : Int32))) (ls' := [some (.ref 9), some (.int y11), some (.int (x2 + (1 : Int32)))]) dX3_readTape_51 rfl rfl (by rfl) (by decide) rfl ?_
        refine z_goto (pc' := 17) dX3_readTape_54 (by decide) ?_
        exact h
set_option maxHeartbeats 4000000 in
set_option maxRecDepth 100000 in
theorem t_X3_readTape_80 {l : Launch} {G : zG} {d : Nat} {P : Int32 → zIM → zLM → Prop} {I : zIM} {L : zLM} {s0 : Int32}   (hdp : 1 ≤ d) (h : ((¬ s0 = (-1 : Int32) → (K_X3_readTape_111 l G d P I L s0)) ∧ (s0 = (-1 : Int32) → (∃ j2 : Nat, (I 9 4) = nI j2 ∧ (0 + j2 ≤ 256 ∧ 0 + j2 ≤ 256 ∧ (K_X3_readTape_111 l G d P (xI (xcI I 11 12 0 0 j2) 9 6 ((xcI I 11 12 0 0 j2) 9 4)) L s0)))))) : K_X3_readTape_80 l G d P I L s0  := by
  refine z_istore_n (pc' := 81) (ls' := [some (.ref 9), none, some (.int s0)]) dX3_readTape_80 rfl (by decide) rfl ?_
  refine z_iload_n (pc' := 82) (x := s0) dX3_readTape_81 rfl rfl ?_
  refine z_iconst (pc' := 83) (v := -1) dX3_readTape_82 rfl (by decide) ?_
  refine z_icmp_ne (pc' := 86) (tgt := 111) dX3_readTape_83 rfl (by decide) (fun c1 => ?_) (fun c1 => ?_)
  · replace h := h.1 c1
    exact h
  · replace h := h.2 c1
    refine z_aload_n (pc' := 87) (x := 9) dX3_readTape_86 rfl rfl ?_
    refine z_getr (pc' := 90) (x := 11) dX3_readTape_87 rfl fl_X3_19 rfl rfl rfl ?_
    refine z_iconst (pc' := 91) (v := 0) dX3_readTape_90 rfl (by decide) ?_
    refine z_aload_n (pc' := 92) (x := 9) dX3_readTape_91 rfl rfl ?_
    refine z_getr (pc' := 95) (x := 12) dX3_readTape_92 rfl fl_X3_22 rfl rfl rfl ?_
    refine z_iconst (pc' := 96) (v := 0) dX3_readTape_95 rfl (by decide) ?_
    refine z_aload_n (pc' := 97) (x := 9) dX3_readTape_96 rfl rfl ?_
    refine z_geti (pc' := 100) (x := (I 9 4)) dX3_readTape_97 rfl fl_X3_34 rfl rfl rfl ?_
    obtain ⟨j2, ha2, h⟩ := h
    obtain ⟨hx3, hy3, h⟩ := h
    refine z_cpyi (pc' := 103) (sp := 0) (dp := 0) (n := j2) (w' := zs (xcI I 11 12 0 0 j2) L) dX3_readTape_100 rfl ml_X3_45 zcp_m hdp (Nat.le_of_ble_eq_true rfl) rfl rfl rfl rfl ha2 hx3 hy3 (by decide) rfl ?_
    refine z_aload_n (pc' := 104) (x := 9) dX3_readTape_103 rfl rfl ?_
    refine z_aload_n (pc' := 105) (x := 9) dX3_readTape_104 rfl rfl ?_
    refine z_geti (pc' := 108) (x := ((xcI I 11 12 0 0 j2) 9 4)) dX3_readTape_105 rfl fl_X3_34 rfl rfl rfl ?_
    refine z_puti (pc' := 111) (w' := zs (xI (xcI I 11 12 0 0 j2) 9 6 ((xcI I 11 12 0 0 j2) 9 4)) L) dX3_readTape_108 rfl fl_X3_25 rfl rfl rfl rfl rfl rfl ?_
    exact h
set_option maxHeartbeats 4000000 in
set_option maxRecDepth 100000 in
theorem t_X3_readTape_111 {l : Launch} {G : zG} {d : Nat} {P : Int32 → zIM → zLM → Prop} {I : zIM} {L : zLM} {x2 : Int32}   (h : P x2 (xI I 9 0 (0 : Int32)) L) : K_X3_readTape_111 l G d P I L x2  := by
  refine z_aload_n (pc' := 112) (x := 9) dX3_readTape_111 rfl rfl ?_
  refine z_iconst (pc' := 113) (v := 0) dX3_readTape_112 rfl (by decide) ?_
  refine z_puti (pc' := 116) (w' := zs (xI I 9 0 (0 : Int32)) L) dX3_readTape_113 rfl fl_X3_9 rfl rfl rfl rfl rfl rfl ?_
  refine z_iload_n (pc' := 117) (x := x2) dX3_readTape_116 rfl rfl ?_
  exact z_iret dX3_readTape_117 rfl rfl ⟨Nat.le_refl _, Nat.le_refl _⟩ ⟨_, _, _, rfl, rfl, h⟩
set_option maxHeartbeats 4000000 in
set_option maxRecDepth 100000 in
theorem t_X3_isThere {l : Launch} {G : zG} {d : Nat} {P : Int32 → zIM → zLM → Prop} {I : zIM} {L : zLM}   (h : (((I 9 6) ≤ 0 → (P (0 : Int32) I L)) ∧ (¬ (I 9 6) ≤ 0 → (P (1 : Int32) I L)))) : zCi l G d mX3_isThere [.ref 9] I L P := by
  refine zCn.of (ls := [some (.ref 9)]) (by decide) (Nat.le_of_ble_eq_true rfl) rfl ?_
  refine z_aload_n (pc' := 1) (x := 9) dX3_isThere_0 rfl rfl ?_
  refine z_geti (pc' := 4) (x := (I 9 6)) dX3_isThere_1 rfl fl_X3_25 rfl rfl rfl ?_
  refine z_if_le (pc' := 7) (tgt := 11) dX3_isThere_4 rfl (by decide) (fun c1 => ?_) (fun c1 => ?_)
  · replace h := h.1 c1
    refine z_iconst (pc' := 12) (v := 0) dX3_isThere_11 rfl (by decide) ?_
    exact z_iret dX3_isThere_12 rfl rfl ⟨Nat.le_refl _, Nat.le_refl _⟩ ⟨_, _, _, rfl, rfl, h⟩
  · replace h := h.2 c1
    refine z_iconst (pc' := 8) (v := 1) dX3_isThere_7 rfl (by decide) ?_
    refine z_goto (pc' := 12) dX3_isThere_8 (by decide) ?_
    exact z_iret dX3_isThere_12 rfl rfl ⟨Nat.le_refl _, Nat.le_refl _⟩ ⟨_, _, _, rfl, rfl, h⟩
set_option maxHeartbeats 4000000 in
set_option maxRecDepth 100000 in
theorem t_X3_number {l : Launch} {G : zG} {d : Nat} {P : Int32 → zIM → zLM → Prop} {I : zIM} {L : zLM} {x1 : Int32} {x2 : Int32} {x3 : Int32} {x4 : Int32} {x5 : Int32}  (h : K_X3_number_8 l G d P (xI I 9 8 (0 : Int32)) L x1 x2 x3 x4 x5 (0 : Int32)) : zCi l G d mX3_number [.ref 9, .int x1, .int x2, .int x3, .int x4, .int x5] I L P := by
  refine zCn.of (ls := [some (.ref 9), some (.int x1), some (.int x2), some (.int x3), some (.int x4), some (.int x5), none, none, none]) (by decide) (Nat.le_of_ble_eq_true rfl) rfl ?_
  refine z_aload_n (pc' := 1) (x := 9) dX3_number_0 rfl rfl ?_
  refine z_iconst (pc' := 2) (v := 0) dX3_number_1 rfl (by decide) ?_
  refine z_puti (pc' := 5) (w' := zs (xI I 9 8 (0 : Int32)) L) dX3_number_2 rfl fl_X3_51 rfl rfl rfl rfl rfl rfl ?_
  refine z_iconst (pc' := 6) (v := 0) dX3_number_5 rfl (by decide) ?_
  refine z_istore (pc' := 8) (ls' := [some (.ref 9), some (.int x1), some (.int x2), some (.int x3), some (.int x4), some (.int x5), some (.int (0 : Int32)), none, none]) dX3_number_6 rfl (by decide) rfl ?_
  exact h
set_option maxHeartbeats 4000000 in
set_option maxRecDepth 100000 in
theorem t_X3_number_8 {l : Launch} {G : zG} {d : Nat} {P : Int32 → zIM → zLM → Prop} {I : zIM} {L : zLM} {x1 : Int32} {x2 : Int32} {x3 : Int32} {x4 : Int32} {x5 : Int32} {x6 : Int32}   (hdp : 1 ≤ d) (h : (((I 9 6) ≤ x6 → (P (0 : Int32) I L)) ∧ (¬ (I 9 6) ≤ x6 → (∃ j2 : Nat, x6 = nI j2 ∧ j2 < 256 ∧ (((0 < (-(I 12 j2)) → ((((-(I 12 j2)) = (33 : Int32) → (∃ (d5 : Nat) (P5 : Int32 → zIM → zLM → Prop), d5 + 1 ≤ d ∧ zCi l G d5 mX3_pop [.ref 9] I L P5 ∧ ∀ (y5 : Int32) (I5 : zIM) (L5 : zLM), P5 y5 I5 L5 → (((¬ y5 = 0 → (K_X3_number_187 l G d P I5 L5 x1 x2 x3 x4 x5 x6 (0 : Int32))) ∧ (y5 = 0 → (K_X3_number_187 l G d P I5 L5 x1 x2 x3 x4 x5 x6 (1 : Int32))))))) ∧ ((-(I 12 j2)) = (59 : Int32) → (∃ (d7 : Nat) (P7 : Int32 → zIM → zLM → Prop), d7 + 1 ≤ d ∧ zCi l G d7 mX3_pop [.ref 9] I L P7 ∧ ∀ (y7 : Int32) (I7 : zIM) (L7 : zLM), P7 y7 I7 L7 → (P (if (0 : Int32) < (if y7 < (12 : Int32) then y7 else (12 : Int32)) then (if y7 < (12 : Int32) then y7 else (12 : Int32)) else (0 : Int32)) I7 L7))) ∧ ((-(I 12 j2)) = (63 : Int32) → (∃ (d8 : Nat) (P8 : Int32 → zIM → zLM → Prop), d8 + 1 ≤ d ∧ zCi l G d8 mX3_pop [.ref 9] I L P8 ∧ ∀ (y8 : Int32) (I8 : zIM) (L8 : zLM), P8 y8 I8 L8 → (((y8 = 0 → (∃ (d10 : Nat) (P10 : Int32 → zIM → zLM → Prop), d10 + 1 ≤ d ∧ zCi l G d10 mX3_lastOfLine [.ref 9, .int x6] I8 L8 P10 ∧ ∀ (y10 : Int32) (I10 : zIM) (L10 : zLM), P10 y10 I10 L10 → (K_X3_number_227 l G d P I10 L10 x1 x2 x3 x4 x5 x6 y10))) ∧ (¬ y8 = 0 → (K_X3_number_227 l G d P I8 L8 x1 x2 x3 x4 x5 x6 (x6 + (1 : Int32)))))))) ∧ ((-(I 12 j2)) = (97 : Int32) → (∃ (d11 : Nat) (P11 : zIM → zLM → Prop), d11 + 1 ≤ d ∧ zCv l G d11 mX3_push [.ref 9, .int x2] I L P11 ∧ ∀ (I11 : zIM) (L11 : zLM), P11 I11 L11 → (K_X3_number_270 l G d P I11 L11 x1 x2 x3 x4 x5 x6))) ∧ ((-(I 12 j2)) = (104 : Int32) → (∃ (d12 : Nat) (P12 : zIM → zLM → Prop), d12 + 1 ≤ d ∧ zCv l G d12 mX3_push [.ref 9, .int x1] I L P12 ∧ ∀ (I12 : zIM) (L12 : zLM), P12 I12 L12 → (K_X3_number_270 l G d P I12 L12 x1 x2 x3 x4 x5 x6))) ∧ ((-(I 12 j2)) = (109 : Int32) → (∃ (d13 : Nat) (P13 : zIM → zLM → Prop), d13 + 1 ≤ d ∧ zCv l G d13 mX3_push [.ref 9, .int x4] I L P13 ∧ ∀ (I13 : zIM) (L13 : zLM), P13 I13 L13 → (K_X3_number_270 l G d P I13 L13 x1 x2 x3 x4 x5 x6))) ∧ ((-(I 12 j2)) = (110 : Int32) → (∃ (d14 : Nat) (P14 : zIM → zLM → Prop), d14 + 1 ≤ d ∧ zCv l G d14 mX3_push [.ref 9, .int x5] I L P14 ∧ ∀ (I14 : zIM) (L14 : zLM), P14 I14 L14 → (K_X3_number_270 l G d P I14 L14 x1 x2 x3 x4 x5 x6))) ∧ ((-(I 12 j2)) = (116 : Int32) → (∃ (d15 : Nat) (P15 : zIM → zLM → Prop), d15 + 1 ≤ d ∧ zCv l G d15 mX3_push [.ref 9, .int x3] I L P15 ∧ ∀ (I15 : zIM) (L15 : zLM), P15 I15 L15 → (K_X3_number_270 l G d P I15 L15 x1 x2 x3 x4 x5 x6))) ∧ ((-(I 12 j2)) = (126 : Int32) → (∃ (d16 : Nat) (P16 : Int32 → zIM → zLM → Prop), d16 + 1 ≤ d ∧ zCi l G d16 mX3_pop [.ref 9] I L P16 ∧ ∀ (y16 : Int32) (I16 : zIM) (L16 : zLM), P16 y16 I16 L16 → (∃ (d17 : Nat) (P17 : zIM → zLM → Prop), d17 + 1 ≤ d ∧ zCv l G d17 mX3_push [.ref 9, .int (-y16)] I16 L16 P17 ∧ ∀ (I17 : zIM) (L17 : zLM), P17 I17 L17 → (K_X3_number_270 l G d P I17 L17 x1 x2 x3 x4 x5 x6)))) ∧ (¬ (-(I 12 j2)) = (33 : Int32) → ¬ (-(I 12 j2)) = (59 : Int32) → ¬ (-(I 12 j2)) = (63 : Int32) → ¬ (-(I 12 j2)) = (97 : Int32) → ¬ (-(I 12 j2)) = (104 : Int32) → ¬ (-(I 12 j2)) = (109 : Int32) → ¬ (-(I 12 j2)) = (110 : Int32) → ¬ (-(I 12 j2)) = (116 : Int32) → ¬ (-(I 12 j2)) = (126 : Int32) → (∃ (d18 : Nat) (P18 : Int32 → zIM → zLM → Prop), d18 + 1 ≤ d ∧ zCi l G d18 mX3_pop [.ref 9] I L P18 ∧ ∀ (y18 : Int32) (I18 : zIM) (L18 : zLM), P18 y18 I18 L18 → (∃ (d19 : Nat) (P19 : Int32 → zIM → zLM → Prop), d19 + 1 ≤ d ∧ zCi l G d19 mX3_pop [.ref 9] I18 L18 P19 ∧ ∀ (y19 : Int32) (I19 : zIM) (L19 : zLM), P19 y19 I19 L19 → (∃ (d20 : Nat) (P20 : Int32 → zIM → zLM → Prop), d20 + 1 ≤ d ∧ zCi l G d20 mX3_joined [.int (-(I 12 j2)), .int y19, .int y18] I19 L19 P20 ∧ ∀ (y20 : Int32) (I20 : zIM) (L20 : zLM), P20 y20 I20 L20 → (∃ (d21 : Nat) (P21 : zIM → zLM → Prop), d21 + 1 ≤ d ∧ zCv l G d21 mX3_push [.ref 9, .int y20] I20 L20 P21 ∧ ∀ (I21 : zIM) (L21 : zLM), P21 I21 L21 → (K_X3_number_270 l G d P I21 L21 x1 x2 x3 x4 x5 x6))))))))) ∧ (¬ 0 < (-(I 12 j2)) → (∃ (d22 : Nat) (P22 : zIM → zLM → Prop), d22 + 1 ≤ d ∧ zCv l G d22 mX3_push [.ref 9, .int (I 12 j2)] I L P22 ∧ ∀ (I22 : zIM) (L22 : zLM), P22 I22 L22 → (K_X3_number_270 l G d P I22 L22 x1 x2 x3 x4 x5 x6))))))))) : K_X3_number_8 l G d P I L x1 x2 x3 x4 x5 x6  := by
  refine z_iload (pc' := 10) (x := x6) dX3_number_8 rfl rfl ?_
  refine z_aload_n (pc' := 11) (x := 9) dX3_number_10 rfl rfl ?_
  refine z_geti (pc' := 14) (x := (I 9 6)) dX3_number_11 rfl fl_X3_25 rfl rfl rfl ?_
  refine z_icmp_ge (pc' := 17) (tgt := 276) dX3_number_14 rfl (by decide) (fun c1 => ?_) (fun c1 => ?_)
  · replace h := h.1 c1
    refine z_iconst (pc' := 277) (v := 0) dX3_number_276 rfl (by decide) ?_
    exact z_iret dX3_number_277 rfl rfl ⟨Nat.le_refl _, Nat.le_refl _⟩ ⟨_, _, _, rfl, rfl, h⟩
  · replace h := h.2 c1
    refine z_aload_n (pc' := 18) (x := 9) dX3_number_17 rfl rfl ?_
    refine z_getr (pc' := 21) (x := 12) dX3_number_18 rfl fl_X3_22 rfl rfl rfl ?_
    refine z_iload (pc' := 23) (x := x6) dX3_number_21 rfl rfl ?_
    obtain ⟨j2, ha2, hb2, h⟩ := h
    refine z_iald (pc' := 24) (x := (I 12 j2)) (j := j2) dX3_number_23 rfl rfl (by decide) ha2 hb2 rfl ?_
    refine z_ineg (pc' := 25) dX3_number_24 rfl ?_
    refine z_istore (pc' := 27) (ls' := [some (.ref 9), some (.int x1), some (.int x2), some (.int x3), some (.int x4), some (.int x5), some (.int x6), some (.int (-(I 12 j2))), none]) dX3_number_25 rfl (by decide) rfl ?_
    refine z_iload (pc' := 29) (x := (-(I 12 j2))) dX3_number_27 rfl rfl ?_
    refine z_if_gt (pc' := 32) (tgt := 46) dX3_number_29 rfl (by decide) (fun c3 => ?_) (fun c3 => ?_)
    · replace h := h.1 c3
      refine z_iload (pc' := 48) (x := (-(I 12 j2))) dX3_number_46 rfl rfl ?_
      by_cases c4_0 : (-(I 12 j2)) = (33 : Int32)
      · replace h := h.1 c4_0
        refine z_lookup (pc' := 174) dX3_number_48 (by decide) (by rw [c4_0]; decide) ?_
        refine z_aload_n (pc' := 175) (x := 9) dX3_number_174 rfl rfl ?_
        refine z_aload_n (pc' := 176) (x := 9) dX3_number_175 rfl rfl ?_
        obtain ⟨d5, P5, hd5, hC5, h⟩ := h
        refine z_callV (pc' := 179) (M' := mX3_pop) (As := []) dX3_number_176 rfl ml_X3_58 me_X3_pop hC5 rfl (by decide) rfl rfl hd5 (Nat.le_of_ble_eq_true rfl) ⟨Nat.le_refl _, Nat.le_refl _⟩ rfl ?_
        rintro _ _ ⟨y5, I5, L5, rfl, rfl, hP5⟩
        replace h := h y5 I5 L5 hP5
        refine z_if_ne (pc' := 182) (tgt := 186) dX3_number_179 rfl (by decide) (fun c6 => ?_) (fun c6 => ?_)
        · replace h := h.1 c6
          refine z_iconst (pc' := 187) (v := 0) dX3_number_186 rfl (by decide) ?_
          refine z_sub (pc' := 0) [some (.ref 9), some (.int x1), some (.int x2), some (.int x3), some (.int x4), some (.int x5), some (.int x6), none, none] (zsub_s (zsub_s (zsub_s (zsub_s (zsub_s (zsub_s (zsub_s (zsub_n (zsub_n zsub_nil))))))))) ?_
          exact h
        · replace h := h.2 c6
          refine z_iconst (pc' := 183) (v := 1) dX3_number_182 rfl (by decide) ?_
          refine z_goto (pc' := 187) dX3_number_183 (by decide) ?_
          refine z_sub (pc' := 0) [some (.ref 9), some (.int x1), some (.int x2), some (.int x3), some (.int x4), some (.int x5), some (.int x6), none, none] (zsub_s (zsub_s (zsub_s (zsub_s (zsub_s (zsub_s (zsub_s (zsub_n (zsub_n zsub_nil))))))))) ?_
          exact h
      by_cases c4_1 : (-(I 12 j2)) = (59 : Int32)
      · replace h := h.2.1 c4_1
        refine z_lookup (pc' := 235) dX3_number_48 (by decide) (by rw [c4_1]; decide) ?_
        refine z_iconst (pc' := 236) (v := 0) dX3_number_235 rfl (by decide) ?_
        refine z_bipush (pc' := 238) (v := 12) dX3_number_236 rfl (by decide) ?_
        refine z_aload_n (pc' := 239) (x := 9) dX3_number_238 rfl rfl ?_
        obtain ⟨d7, P7, hd7, hC7, h⟩ := h
        refine z_callV (pc' := 242) (M' := mX3_pop) (As := []) dX3_number_239 rfl ml_X3_58 me_X3_pop hC7 rfl (by decide) rfl rfl hd7 (Nat.le_of_ble_eq_true rfl) ⟨Nat.le_refl _, Nat.le_refl _⟩ rfl ?_
        rintro _ _ ⟨y7, I7, L7, rfl, rfl, hP7⟩
        replace h := h y7 I7 L7 hP7
        refine z_mmin (pc' := 245) dX3_number_242 rfl ml_X3_71 zmt_mmin hdp (Nat.le_of_ble_eq_true rfl) ⟨Nat.le_refl _, Nat.le_refl _⟩ ?_
        refine z_mmax (pc' := 248) dX3_number_245 rfl ml_X3_65 zmt_mmax hdp (Nat.le_of_ble_eq_true rfl) ⟨Nat.le_refl _, Nat.le_refl _⟩ ?_
        exact z_iret dX3_number_248 rfl rfl ⟨Nat.le_refl _, Nat.le_refl _⟩ ⟨_, _, _, rfl, rfl, h⟩
      by_cases c4_2 : (-(I 12 j2)) = (63 : Int32)
      · replace h := h.2.2.1 c4_2
        refine z_lookup (pc' := 205) dX3_number_48 (by decide) (by rw [c4_2]; decide) ?_
        refine z_iload (pc' := 207) (x := x6) dX3_number_205 rfl rfl ?_
        refine z_aload_n (pc' := 208) (x := 9) dX3_number_207 rfl rfl ?_
        obtain ⟨d8, P8, hd8, hC8, h⟩ := h
        refine z_callV (pc' := 211) (M' := mX3_pop) (As := []) dX3_number_208 rfl ml_X3_58 me_X3_pop hC8 rfl (by decide) rfl rfl hd8 (Nat.le_of_ble_eq_true rfl) ⟨Nat.le_refl _, Nat.le_refl _⟩ rfl ?_
        rintro _ _ ⟨y8, I8, L8, rfl, rfl, hP8⟩
        replace h := h y8 I8 L8 hP8
        refine z_if_eq (pc' := 214) (tgt := 221) dX3_number_211 rfl (by decide) (fun c9 => ?_) (fun c9 => ?_)
        · replace h := h.1 c9
          refine z_aload_n (pc' := 222) (x := 9) dX3_number_221 rfl rfl ?_
          refine z_iload (pc' := 224) (x := x6) dX3_number_222 rfl rfl ?_
          obtain ⟨d10, P10, hd10, hC10, h⟩ := h
          refine z_callV (pc' := 227) (M' := mX3_lastOfLine) (As := [.int x6]) dX3_number_224 rfl ml_X3_61 me_X3_lastOfLine hC10 rfl (by decide) rfl rfl hd10 (Nat.le_of_ble_eq_true rfl) ⟨Nat.le_refl _, Nat.le_refl _⟩ rfl ?_
          rintro _ _ ⟨y10, I10, L10, rfl, rfl, hP10⟩
          replace h := h y10 I10 L10 hP10
          refine z_sub (pc' := 0) [some (.ref 9), some (.int x1), some (.int x2), some (.int x3), some (.int x4), some (.int x5), none, none, none] (zsub_s (zsub_s (zsub_s (zsub_s (zsub_s (zsub_s (zsub_n (zsub_n (zsub_n zsub_nil))))))))) ?_
          exact h
        · replace h := h.2 c9
          refine z_iload (pc' := 216) (x := x6) dX3_number_214 rfl rfl ?_
          refine z_iconst (pc' := 217) (v := 1) dX3_number_216 rfl (by decide) ?_
          refine z_iadd (pc' := 218) dX3_number_217 rfl ?_
          refine z_goto (pc' := 227) dX3_number_218 (by decide) ?_
          refine z_sub (pc' := 0) [some (.ref 9), some (.int x1), some (.int x2), some (.int x3), some (.int x4), some (.int x5), none, none, none] (zsub_s (zsub_s (zsub_s (zsub_s (zsub_s (zsub_s (zsub_n (zsub_n (zsub_n zsub_nil))))))))) ?_
          exact h
      by_cases c4_3 : (-(I 12 j2)) = (97 : Int32)
      · replace h := h.2.2.2.1 c4_3
        refine z_lookup (pc' := 140) dX3_number_48 (by decide) (by rw [c4_3]; decide) ?_
        refine z_aload_n (pc' := 141) (x := 9) dX3_number_140 rfl rfl ?_
        refine z_iload_n (pc' := 142) (x := x2) dX3_number_141 rfl rfl ?_
        obtain ⟨d11, P11, hd11, hC11, h⟩ := h
        refine z_callV (pc' := 145) (M' := mX3_push) (As := [.int x2]) dX3_number_142 rfl ml_X3_54 me_X3_push hC11 rfl (by decide) rfl rfl hd11 (Nat.le_of_ble_eq_true rfl) ⟨Nat.le_refl _, Nat.le_refl _⟩ rfl ?_
        rintro _ _ ⟨I11, L11, rfl, rfl, hP11⟩
        replace h := h I11 L11 hP11
        refine z_goto (pc' := 270) dX3_number_145 (by decide) ?_
        refine z_sub (pc' := 0) [some (.ref 9), some (.int x1), some (.int x2), some (.int x3), some (.int x4), some (.int x5), some (.int x6), none, none] (zsub_s (zsub_s (zsub_s (zsub_s (zsub_s (zsub_s (zsub_s (zsub_n (zsub_n zsub_nil))))))))) ?_
        exact h
      by_cases c4_4 : (-(I 12 j2)) = (104 : Int32)
      · replace h := h.2.2.2.2.1 c4_4
        refine z_lookup (pc' := 132) dX3_number_48 (by decide) (by rw [c4_4]; decide) ?_
        refine z_aload_n (pc' := 133) (x := 9) dX3_number_132 rfl rfl ?_
        refine z_iload_n (pc' := 134) (x := x1) dX3_number_133 rfl rfl ?_
        obtain ⟨d12, P12, hd12, hC12, h⟩ := h
        refine z_callV (pc' := 137) (M' := mX3_push) (As := [.int x1]) dX3_number_134 rfl ml_X3_54 me_X3_push hC12 rfl (by decide) rfl rfl hd12 (Nat.le_of_ble_eq_true rfl) ⟨Nat.le_refl _, Nat.le_refl _⟩ rfl ?_
        rintro _ _ ⟨I12, L12, rfl, rfl, hP12⟩
        replace h := h I12 L12 hP12
        refine z_goto (pc' := 270) dX3_number_137 (by decide) ?_
        refine z_sub (pc' := 0) [some (.ref 9), some (.int x1), some (.int x2), some (.int x3), some (.int x4), some (.int x5), some (.int x6), none, none] (zsub_s (zsub_s (zsub_s (zsub_s (zsub_s (zsub_s (zsub_s (zsub_n (zsub_n zsub_nil))))))))) ?_
        exact h
      by_cases c4_5 : (-(I 12 j2)) = (109 : Int32)
      · replace h := h.2.2.2.2.2.1 c4_5
        refine z_lookup (pc' := 156) dX3_number_48 (by decide) (by rw [c4_5]; decide) ?_
        refine z_aload_n (pc' := 157) (x := 9) dX3_number_156 rfl rfl ?_
        refine z_iload (pc' := 159) (x := x4) dX3_number_157 rfl rfl ?_
        obtain ⟨d13, P13, hd13, hC13, h⟩ := h
        refine z_callV (pc' := 162) (M' := mX3_push) (As := [.int x4]) dX3_number_159 rfl ml_X3_54 me_X3_push hC13 rfl (by decide) rfl rfl hd13 (Nat.le_of_ble_eq_true rfl) ⟨Nat.le_refl _, Nat.le_refl _⟩ rfl ?_
        rintro _ _ ⟨I13, L13, rfl, rfl, hP13⟩
        replace h := h I13 L13 hP13
        refine z_goto (pc' := 270) dX3_number_162 (by decide) ?_
        refine z_sub (pc' := 0) [some (.ref 9), some (.int x1), some (.int x2), some (.int x3), some (.int x4), some (.int x5), some (.int x6), none, none] (zsub_s (zsub_s (zsub_s (zsub_s (zsub_s (zsub_s (zsub_s (zsub_n (zsub_n zsub_nil))))))))) ?_
        exact h
      by_cases c4_6 : (-(I 12 j2)) = (110 : Int32)
      · replace h := h.2.2.2.2.2.2.1 c4_6
        refine z_lookup (pc' := 165) dX3_number_48 (by decide) (by rw [c4_6]; decide) ?_
        refine z_aload_n (pc' := 166) (x := 9) dX3_number_165 rfl rfl ?_
        refine z_iload (pc' := 168) (x := x5) dX3_number_166 rfl rfl ?_
        obtain ⟨d14, P14, hd14, hC14, h⟩ := h
        refine z_callV (pc' := 171) (M' := mX3_push) (As := [.int x5]) dX3_number_168 rfl ml_X3_54 me_X3_push hC14 rfl (by decide) rfl rfl hd14 (Nat.le_of_ble_eq_true rfl) ⟨Nat.le_refl _, Nat.le_refl _⟩ rfl ?_
        rintro _ _ ⟨I14, L14, rfl, rfl, hP14⟩
        replace h := h I14 L14 hP14
        refine z_goto (pc' := 270) dX3_number_171 (by decide) ?_
        refine z_sub (pc' := 0) [some (.ref 9), some (.int x1), some (.int x2), some (.int x3), some (.int x4), some (.int x5), some (.int x6), none, none] (zsub_s (zsub_s (zsub_s (zsub_s (zsub_s (zsub_s (zsub_s (zsub_n (zsub_n zsub_nil))))))))) ?_
        exact h
      by_cases c4_7 : (-(I 12 j2)) = (116 : Int32)
      · replace h := h.2.2.2.2.2.2.2.1 c4_7
        refine z_lookup (pc' := 148) dX3_number_48 (by decide) (by rw [c4_7]; decide) ?_
        refine z_aload_n (pc' := 149) (x := 9) dX3_number_148 rfl rfl ?_
        refine z_iload_n (pc' := 150) (x := x3) dX3_number_149 rfl rfl ?_
        obtain ⟨d15, P15, hd15, hC15, h⟩ := h
        refine z_callV (pc' := 153) (M' := mX3_push) (As := [.int x3]) dX3_number_150 rfl ml_X3_54 me_X3_push hC15 rfl (by decide) rfl rfl hd15 (Nat.le_of_ble_eq_true rfl) ⟨Nat.le_refl _, Nat.le_refl _⟩ rfl ?_
        rintro _ _ ⟨I15, L15, rfl, rfl, hP15⟩
        replace h := h I15 L15 hP15
        refine z_goto (pc' := 270) dX3_number_153 (by decide) ?_
        refine z_sub (pc' := 0) [some (.ref 9), some (.int x1), some (.int x2), some (.int x3), some (.int x4), some (.int x5), some (.int x6), none, none] (zsub_s (zsub_s (zsub_s (zsub_s (zsub_s (zsub_s (zsub_s (zsub_n (zsub_n zsub_nil))))))))) ?_
        exact h
      by_cases c4_8 : (-(I 12 j2)) = (126 : Int32)
      · replace h := h.2.2.2.2.2.2.2.2.1 c4_8
        refine z_lookup (pc' := 193) dX3_number_48 (by decide) (by rw [c4_8]; decide) ?_
        refine z_aload_n (pc' := 194) (x := 9) dX3_number_193 rfl rfl ?_
        refine z_aload_n (pc' := 195) (x := 9) dX3_number_194 rfl rfl ?_
        obtain ⟨d16, P16, hd16, hC16, h⟩ := h
        refine z_callV (pc' := 198) (M' := mX3_pop) (As := []) dX3_number_195 rfl ml_X3_58 me_X3_pop hC16 rfl (by decide) rfl rfl hd16 (Nat.le_of_ble_eq_true rfl) ⟨Nat.le_refl _, Nat.le_refl _⟩ rfl ?_
        rintro _ _ ⟨y16, I16, L16, rfl, rfl, hP16⟩
        replace h := h y16 I16 L16 hP16
        refine z_ineg (pc' := 199) dX3_number_198 rfl ?_
        obtain ⟨d17, P17, hd17, hC17, h⟩ := h
        refine z_callV (pc' := 202) (M' := mX3_push) (As := [.int (-y16)]) dX3_number_199 rfl ml_X3_54 me_X3_push hC17 rfl (by decide) rfl rfl hd17 (Nat.le_of_ble_eq_true rfl) ⟨Nat.le_refl _, Nat.le_refl _⟩ rfl ?_
        rintro _ _ ⟨I17, L17, rfl, rfl, hP17⟩
        replace h := h I17 L17 hP17
        refine z_goto (pc' := 270) dX3_number_202 (by decide) ?_
        refine z_sub (pc' := 0) [some (.ref 9), some (.int x1), some (.int x2), some (.int x3), some (.int x4), some (.int x5), some (.int x6), none, none] (zsub_s (zsub_s (zsub_s (zsub_s (zsub_s (zsub_s (zsub_s (zsub_n (zsub_n zsub_nil))))))))) ?_
        exact h
      replace h := h.2.2.2.2.2.2.2.2.2 c4_0 c4_1 c4_2 c4_3 c4_4 c4_5 c4_6 c4_7 c4_8
      refine z_lookup (pc' := 249) dX3_number_48 (by decide) (by rw [lv_osw c4_0 (a := 33) (by decide), lv_osw c4_1 (a := 59) (by decide), lv_osw c4_2 (a := 63) (by decide), lv_osw c4_3 (a := 97) (by decide), lv_osw c4_4 (a := 104) (by decide), lv_osw c4_5 (a := 109) (by decide), lv_osw c4_6 (a := 110) (by decide), lv_osw c4_7 (a := 116) (by decide), lv_osw c4_8 (a := 126) (by decide)]; rfl) ?_
      refine z_aload_n (pc' := 250) (x := 9) dX3_number_249 rfl rfl ?_
      obtain ⟨d18, P18, hd18, hC18, h⟩ := h
      refine z_callV (pc' := 253) (M' := mX3_pop) (As := []) dX3_number_250 rfl ml_X3_58 me_X3_pop hC18 rfl (by decide) rfl rfl hd18 (Nat.le_of_ble_eq_true rfl) ⟨Nat.le_refl _, Nat.le_refl _⟩ rfl ?_
      rintro _ _ ⟨y18, I18, L18, rfl, rfl, hP18⟩
      replace h := h y18 I18 L18 hP18
      refine z_istore (pc' := 255) (ls' := [some (.ref 9), some (.int x1), some (.int x2), some (.int x3), some (.int x4), some (.int x5), some (.int x6), some (.int (-(I 12 j2))), some (.int y18)]) dX3_number_253 rfl (by decide) rfl ?_
      refine z_aload_n (pc' := 256) (x := 9) dX3_number_255 rfl rfl ?_
      refine z_iload (pc' := 258) (x := (-(I 12 j2))) dX3_number_256 rfl rfl ?_
      refine z_aload_n (pc' := 259) (x := 9) dX3_number_258 rfl rfl ?_
      obtain ⟨d19, P19, hd19, hC19, h⟩ := h
      refine z_callV (pc' := 262) (M' := mX3_pop) (As := []) dX3_number_259 rfl ml_X3_58 me_X3_pop hC19 rfl (by decide) rfl rfl hd19 (Nat.le_of_ble_eq_true rfl) ⟨Nat.le_refl _, Nat.le_refl _⟩ rfl ?_
      rintro _ _ ⟨y19, I19, L19, rfl, rfl, hP19⟩
      replace h := h y19 I19 L19 hP19
      refine z_iload (pc' := 264) (x := y18) dX3_number_262 rfl rfl ?_
      obtain ⟨d20, P20, hd20, hC20, h⟩ := h
      refine z_callS (pc' := 267) (M' := mX3_joined) (As := [.int (-(I 12 j2)), .int y19, .int y18]) dX3_number_264 rfl ml_X3_74 me_X3_joined hC20 rfl hd20 (Nat.le_of_ble_eq_true rfl) ⟨Nat.le_refl _, Nat.le_refl _⟩ rfl ?_
      rintro _ _ ⟨y20, I20, L20, rfl, rfl, hP20⟩
      replace h := h y20 I20 L20 hP20
      obtain ⟨d21, P21, hd21, hC21, h⟩ := h
      refine z_callV (pc' := 270) (M' := mX3_push) (As := [.int y20]) dX3_number_267 rfl ml_X3_54 me_X3_push hC21 rfl (by decide) rfl rfl hd21 (Nat.le_of_ble_eq_true rfl) ⟨Nat.le_refl _, Nat.le_refl _⟩ rfl ?_
      rintro _ _ ⟨I21, L21, rfl, rfl, hP21⟩
      replace h := h I21 L21 hP21
      refine z_sub (pc' := 0) [some (.ref 9), some (.int x1), some (.int x2), some (.int x3), some (.int x4), some (.int x5), some (.int x6), none, none] (zsub_s (zsub_s (zsub_s (zsub_s (zsub_s (zsub_s (zsub_s (zsub_n (zsub_n zsub_nil))))))))) ?_
      exact h
    · replace h := h.2 c3
      refine z_aload_n (pc' := 33) (x := 9) dX3_number_32 rfl rfl ?_
      refine z_aload_n (pc' := 34) (x := 9) dX3_number_33 rfl rfl ?_
      refine z_getr (pc' := 37) (x := 12) dX3_number_34 rfl fl_X3_22 rfl rfl rfl ?_
      refine z_iload (pc' := 39) (x := x6) dX3_number_37 rfl rfl ?_
      refine z_iald (pc' := 40) (x := (I 12 j2)) (j := j2) dX3_number_39 rfl rfl (by decide) ha2 hb2 rfl ?_
      obtain ⟨d22, P22, hd22, hC22, h⟩ := h
      refine z_callV (pc' := 43) (M' := mX3_push) (As := [.int (I 12 j2)]) dX3_number_40 rfl ml_X3_54 me_X3_push hC22 rfl (by decide) rfl rfl hd22 (Nat.le_of_ble_eq_true rfl) ⟨Nat.le_refl _, Nat.le_refl _⟩ rfl ?_
      rintro _ _ ⟨I22, L22, rfl, rfl, hP22⟩
      replace h := h I22 L22 hP22
      refine z_goto (pc' := 270) dX3_number_43 (by decide) ?_
      refine z_sub (pc' := 0) [some (.ref 9), some (.int x1), some (.int x2), some (.int x3), some (.int x4), some (.int x5), some (.int x6), none, none] (zsub_s (zsub_s (zsub_s (zsub_s (zsub_s (zsub_s (zsub_s (zsub_n (zsub_n zsub_nil))))))))) ?_
      exact h
set_option maxHeartbeats 4000000 in
set_option maxRecDepth 100000 in
theorem t_X3_number_187 {l : Launch} {G : zG} {d : Nat} {P : Int32 → zIM → zLM → Prop} {I : zIM} {L : zLM} {x1 : Int32} {x2 : Int32} {x3 : Int32} {x4 : Int32} {x5 : Int32} {x6 : Int32} {s1 : Int32}   (h : ∃ (d1 : Nat) (P1 : zIM → zLM → Prop), d1 + 1 ≤ d ∧ zCv l G d1 mX3_push [.ref 9, .int s1] I L P1 ∧ ∀ (I1 : zIM) (L1 : zLM), P1 I1 L1 → (K_X3_number_270 l G d P I1 L1 x1 x2 x3 x4 x5 x6)) : K_X3_number_187 l G d P I L x1 x2 x3 x4 x5 x6 s1  := by
  obtain ⟨d1, P1, hd1, hC1, h⟩ := h
  refine z_callV (pc' := 190) (M' := mX3_push) (As := [.int s1]) dX3_number_187 rfl ml_X3_54 me_X3_push hC1 rfl (by decide) rfl rfl hd1 (Nat.le_of_ble_eq_true rfl) ⟨Nat.le_refl _, Nat.le_refl _⟩ rfl ?_
  rintro _ _ ⟨I1, L1, rfl, rfl, hP1⟩
  replace h := h I1 L1 hP1
  refine z_goto (pc' := 270) dX3_number_190 (by decide) ?_
  exact h
set_option maxHeartbeats 4000000 in
set_option maxRecDepth 100000 in
theorem t_X3_number_227 {l : Launch} {G : zG} {d : Nat} {P : Int32 → zIM → zLM → Prop} {I : zIM} {L : zLM} {x1 : Int32} {x2 : Int32} {x3 : Int32} {x4 : Int32} {x5 : Int32} {s0 : Int32} {s1 : Int32}   (hdp : 1 ≤ d) (h : K_X3_number_270 l G d P I L x1 x2 x3 x4 x5 (if s0 < s1 then s1 else s0)) : K_X3_number_227 l G d P I L x1 x2 x3 x4 x5 s0 s1  := by
  refine z_mmax (pc' := 230) dX3_number_227 rfl ml_X3_65 zmt_mmax hdp (Nat.le_of_ble_eq_true rfl) ⟨Nat.le_refl _, Nat.le_refl _⟩ ?_
  refine z_istore (pc' := 232) (ls' := [some (.ref 9), some (.int x1), some (.int x2), some (.int x3), some (.int x4), some (.int x5), some (.int (if s0 < s1 then s1 else s0)), none, none]) dX3_number_230 rfl (by decide) rfl ?_
  refine z_goto (pc' := 270) dX3_number_232 (by decide) ?_
  exact h
set_option maxHeartbeats 4000000 in
set_option maxRecDepth 100000 in
theorem t_X3_number_270 {l : Launch} {G : zG} {d : Nat} {P : Int32 → zIM → zLM → Prop} {I : zIM} {L : zLM} {x1 : Int32} {x2 : Int32} {x3 : Int32} {x4 : Int32} {x5 : Int32} {x6 : Int32}   (h : K_X3_number_8 l G d P I L x1 x2 x3 x4 x5 (x6 + (1 : Int32))) : K_X3_number_270 l G d P I L x1 x2 x3 x4 x5 x6  := by
  refine z_iinc (pc' := 273) (x := x6) (v := (x6 + (1 : Int32))) (ls' := [some (.ref 9), some (.int x1), some (.int x2), some (.int x3), some (.int x4), some (.int x5), some (.int (x6 + (1 : Int32))), none, none]) dX3_number_270 rfl rfl (by rfl) (by decide) rfl ?_
  refine z_goto (pc' := 8) dX3_number_273 (by decide) ?_
  exact h
set_option maxHeartbeats 4000000 in
set_option maxRecDepth 100000 in
theorem t_X3_lastOfLine {l : Launch} {G : zG} {d : Nat} {P : Int32 → zIM → zLM → Prop} {I : zIM} {L : zLM} {x1 : Int32}  (h : (((I 9 6) ≤ (x1 + (1 : Int32)) → (P (I 9 6) I L)) ∧ (¬ (I 9 6) ≤ (x1 + (1 : Int32)) → (∃ j2 : Nat, (x1 + (1 : Int32)) = nI j2 ∧ j2 < 256 ∧ (P ((I 12 j2) - (1 : Int32)) I L))))) : zCi l G d mX3_lastOfLine [.ref 9, .int x1] I L P := by
  refine zCn.of (ls := [some (.ref 9), some (.int x1)]) (by decide) (Nat.le_of_ble_eq_true rfl) rfl ?_
  refine z_iload_n (pc' := 1) (x := x1) dX3_lastOfLine_0 rfl rfl ?_
  refine z_iconst (pc' := 2) (v := 1) dX3_lastOfLine_1 rfl (by decide) ?_
  refine z_iadd (pc' := 3) dX3_lastOfLine_2 rfl ?_
  refine z_aload_n (pc' := 4) (x := 9) dX3_lastOfLine_3 rfl rfl ?_
  refine z_geti (pc' := 7) (x := (I 9 6)) dX3_lastOfLine_4 rfl fl_X3_25 rfl rfl rfl ?_
  refine z_icmp_ge (pc' := 10) (tgt := 23) dX3_lastOfLine_7 rfl (by decide) (fun c1 => ?_) (fun c1 => ?_)
  · replace h := h.1 c1
    refine z_aload_n (pc' := 24) (x := 9) dX3_lastOfLine_23 rfl rfl ?_
    refine z_geti (pc' := 27) (x := (I 9 6)) dX3_lastOfLine_24 rfl fl_X3_25 rfl rfl rfl ?_
    exact z_iret dX3_lastOfLine_27 rfl rfl ⟨Nat.le_refl _, Nat.le_refl _⟩ ⟨_, _, _, rfl, rfl, h⟩
  · replace h := h.2 c1
    refine z_aload_n (pc' := 11) (x := 9) dX3_lastOfLine_10 rfl rfl ?_
    refine z_getr (pc' := 14) (x := 12) dX3_lastOfLine_11 rfl fl_X3_22 rfl rfl rfl ?_
    refine z_iload_n (pc' := 15) (x := x1) dX3_lastOfLine_14 rfl rfl ?_
    refine z_iconst (pc' := 16) (v := 1) dX3_lastOfLine_15 rfl (by decide) ?_
    refine z_iadd (pc' := 17) dX3_lastOfLine_16 rfl ?_
    obtain ⟨j2, ha2, hb2, h⟩ := h
    refine z_iald (pc' := 18) (x := (I 12 j2)) (j := j2) dX3_lastOfLine_17 rfl rfl (by decide) ha2 hb2 rfl ?_
    refine z_iconst (pc' := 19) (v := 1) dX3_lastOfLine_18 rfl (by decide) ?_
    refine z_isub (pc' := 20) dX3_lastOfLine_19 rfl ?_
    refine z_goto (pc' := 27) dX3_lastOfLine_20 (by decide) ?_
    exact z_iret dX3_lastOfLine_27 rfl rfl ⟨Nat.le_refl _, Nat.le_refl _⟩ ⟨_, _, _, rfl, rfl, h⟩
set_option maxHeartbeats 4000000 in
set_option maxRecDepth 100000 in
theorem t_X3_joined {l : Launch} {G : zG} {d : Nat} {P : Int32 → zIM → zLM → Prop} {I : zIM} {L : zLM} {x0 : Int32} {x1 : Int32} {x2 : Int32}  (h : ((x0 = (38 : Int32) → (((x1 = 0 → (K_X3_joined_110 l G d P I L)) ∧ (¬ x1 = 0 → (((x2 = 0 → (K_X3_joined_110 l G d P I L)) ∧ (¬ x2 = 0 → (K_X3_joined_111 l G d P I L  (1 : Int32))))))))) ∧ (x0 = (42 : Int32) → (P (x1 * x2) I L)) ∧ (x0 = (43 : Int32) → (P (x1 + x2) I L)) ∧ (x0 = (45 : Int32) → (P (x1 - x2) I L)) ∧ (x0 = (47 : Int32) → (((¬ x2 = 0 → ((¬ x2 = 0) ∧ (K_X3_joined_168 l G d P I L  (x1 / x2)))) ∧ (x2 = 0 → (K_X3_joined_168 l G d P I L  (0 : Int32)))))) ∧ (x0 = (60 : Int32) → (((x2 ≤ x1 → (K_X3_joined_122 l G d P I L  (0 : Int32))) ∧ (¬ x2 ≤ x1 → (K_X3_joined_122 l G d P I L  (1 : Int32)))))) ∧ (x0 = (61 : Int32) → (((¬ x1 = x2 → (K_X3_joined_133 l G d P I L  (0 : Int32))) ∧ (x1 = x2 → (K_X3_joined_133 l G d P I L  (1 : Int32)))))) ∧ (x0 = (62 : Int32) → (((x1 ≤ x2 → (K_X3_joined_144 l G d P I L  (0 : Int32))) ∧ (¬ x1 ≤ x2 → (K_X3_joined_144 l G d P I L  (1 : Int32)))))) ∧ (x0 = (124 : Int32) → (((¬ x1 = 0 → (K_X3_joined_92 l G d P I L)) ∧ (x1 = 0 → (((x2 = 0 → (K_X3_joined_97 l G d P I L  (0 : Int32))) ∧ (¬ x2 = 0 → (K_X3_joined_92 l G d P I L)))))))) ∧ (¬ x0 = (38 : Int32) → ¬ x0 = (42 : Int32) → ¬ x0 = (43 : Int32) → ¬ x0 = (45 : Int32) → ¬ x0 = (47 : Int32) → ¬ x0 = (60 : Int32) → ¬ x0 = (61 : Int32) → ¬ x0 = (62 : Int32) → ¬ x0 = (124 : Int32) → (((¬ x2 = 0 → ((¬ x2 = 0) ∧ (K_X3_joined_180 l G d P I L  (x1 % x2)))) ∧ (x2 = 0 → (K_X3_joined_180 l G d P I L  (0 : Int32)))))))) : zCi l G d mX3_joined [.int x0, .int x1, .int x2] I L P := by
  refine zCn.of (ls := [some (.int x0), some (.int x1), some (.int x2)]) (by decide) (Nat.le_of_ble_eq_true rfl) rfl ?_
  refine z_iload_n (pc' := 1) (x := x0) dX3_joined_0 rfl rfl ?_
  by_cases c1_0 : x0 = (38 : Int32)
  · replace h := h.1 c1_0
    refine z_lookup (pc' := 98) dX3_joined_1 (by decide) (by rw [c1_0]; decide) ?_
    refine z_iload_n (pc' := 99) (x := x1) dX3_joined_98 rfl rfl ?_
    refine z_if_eq (pc' := 102) (tgt := 110) dX3_joined_99 rfl (by decide) (fun c2 => ?_) (fun c2 => ?_)
    · replace h := h.1 c2
      refine z_sub (pc' := 0) [none, none, none] (zsub_n (zsub_n (zsub_n zsub_nil))) ?_
      exact h
    · replace h := h.2 c2
      refine z_iload_n (pc' := 103) (x := x2) dX3_joined_102 rfl rfl ?_
      refine z_if_eq (pc' := 106) (tgt := 110) dX3_joined_103 rfl (by decide) (fun c3 => ?_) (fun c3 => ?_)
      · replace h := h.1 c3
        refine z_sub (pc' := 0) [none, none, none] (zsub_n (zsub_n (zsub_n zsub_nil))) ?_
        exact h
      · replace h := h.2 c3
        refine z_iconst (pc' := 107) (v := 1) dX3_joined_106 rfl (by decide) ?_
        refine z_goto (pc' := 111) dX3_joined_107 (by decide) ?_
        refine z_sub (pc' := 0) [none, none, none] (zsub_n (zsub_n (zsub_n zsub_nil))) ?_
        exact h
  by_cases c1_1 : x0 = (42 : Int32)
  · replace h := h.2.1 c1_1
    refine z_lookup (pc' := 153) dX3_joined_1 (by decide) (by rw [c1_1]; decide) ?_
    refine z_iload_n (pc' := 154) (x := x1) dX3_joined_153 rfl rfl ?_
    refine z_iload_n (pc' := 155) (x := x2) dX3_joined_154 rfl rfl ?_
    refine z_imul (pc' := 156) dX3_joined_155 rfl ?_
    exact z_iret dX3_joined_156 rfl rfl ⟨Nat.le_refl _, Nat.le_refl _⟩ ⟨_, _, _, rfl, rfl, h⟩
  by_cases c1_2 : x0 = (43 : Int32)
  · replace h := h.2.2.1 c1_2
    refine z_lookup (pc' := 145) dX3_joined_1 (by decide) (by rw [c1_2]; decide) ?_
    refine z_iload_n (pc' := 146) (x := x1) dX3_joined_145 rfl rfl ?_
    refine z_iload_n (pc' := 147) (x := x2) dX3_joined_146 rfl rfl ?_
    refine z_iadd (pc' := 148) dX3_joined_147 rfl ?_
    exact z_iret dX3_joined_148 rfl rfl ⟨Nat.le_refl _, Nat.le_refl _⟩ ⟨_, _, _, rfl, rfl, h⟩
  by_cases c1_3 : x0 = (45 : Int32)
  · replace h := h.2.2.2.1 c1_3
    refine z_lookup (pc' := 149) dX3_joined_1 (by decide) (by rw [c1_3]; decide) ?_
    refine z_iload_n (pc' := 150) (x := x1) dX3_joined_149 rfl rfl ?_
    refine z_iload_n (pc' := 151) (x := x2) dX3_joined_150 rfl rfl ?_
    refine z_isub (pc' := 152) dX3_joined_151 rfl ?_
    exact z_iret dX3_joined_152 rfl rfl ⟨Nat.le_refl _, Nat.le_refl _⟩ ⟨_, _, _, rfl, rfl, h⟩
  by_cases c1_4 : x0 = (47 : Int32)
  · replace h := h.2.2.2.2.1 c1_4
    refine z_lookup (pc' := 157) dX3_joined_1 (by decide) (by rw [c1_4]; decide) ?_
    refine z_iload_n (pc' := 158) (x := x2) dX3_joined_157 rfl rfl ?_
    refine z_if_ne (pc' := 161) (tgt := 165) dX3_joined_158 rfl (by decide) (fun c4 => ?_) (fun c4 => ?_)
    · replace h := h.1 c4
      refine z_iload_n (pc' := 166) (x := x1) dX3_joined_165 rfl rfl ?_
      refine z_iload_n (pc' := 167) (x := x2) dX3_joined_166 rfl rfl ?_
      obtain ⟨hz5, h⟩ := h
      refine z_idiv (pc' := 168) dX3_joined_167 rfl hz5 ?_
      refine z_sub (pc' := 0) [none, none, none] (zsub_n (zsub_n (zsub_n zsub_nil))) ?_
      exact h
    · replace h := h.2 c4
      refine z_iconst (pc' := 162) (v := 0) dX3_joined_161 rfl (by decide) ?_
      refine z_goto (pc' := 168) dX3_joined_162 (by decide) ?_
      refine z_sub (pc' := 0) [none, none, none] (zsub_n (zsub_n (zsub_n zsub_nil))) ?_
      exact h
  by_cases c1_5 : x0 = (60 : Int32)
  · replace h := h.2.2.2.2.2.1 c1_5
    refine z_lookup (pc' := 112) dX3_joined_1 (by decide) (by rw [c1_5]; decide) ?_
    refine z_iload_n (pc' := 113) (x := x1) dX3_joined_112 rfl rfl ?_
    refine z_iload_n (pc' := 114) (x := x2) dX3_joined_113 rfl rfl ?_
    refine z_icmp_ge (pc' := 117) (tgt := 121) dX3_joined_114 rfl (by decide) (fun c6 => ?_) (fun c6 => ?_)
    · replace h := h.1 c6
      refine z_iconst (pc' := 122) (v := 0) dX3_joined_121 rfl (by decide) ?_
      refine z_sub (pc' := 0) [none, none, none] (zsub_n (zsub_n (zsub_n zsub_nil))) ?_
      exact h
    · replace h := h.2 c6
      refine z_iconst (pc' := 118) (v := 1) dX3_joined_117 rfl (by decide) ?_
      refine z_goto (pc' := 122) dX3_joined_118 (by decide) ?_
      refine z_sub (pc' := 0) [none, none, none] (zsub_n (zsub_n (zsub_n zsub_nil))) ?_
      exact h
  by_cases c1_6 : x0 = (61 : Int32)
  · replace h := h.2.2.2.2.2.2.1 c1_6
    refine z_lookup (pc' := 123) dX3_joined_1 (by decide) (by rw [c1_6]; decide) ?_
    refine z_iload_n (pc' := 124) (x := x1) dX3_joined_123 rfl rfl ?_
    refine z_iload_n (pc' := 125) (x := x2) dX3_joined_124 rfl rfl ?_
    refine z_icmp_ne (pc' := 128) (tgt := 132) dX3_joined_125 rfl (by decide) (fun c7 => ?_) (fun c7 => ?_)
    · replace h := h.1 c7
      refine z_iconst (pc' := 133) (v := 0) dX3_joined_132 rfl (by decide) ?_
      refine z_sub (pc' := 0) [none, none, none] (zsub_n (zsub_n (zsub_n zsub_nil))) ?_
      exact h
    · replace h := h.2 c7
      refine z_iconst (pc' := 129) (v := 1) dX3_joined_128 rfl (by decide) ?_
      refine z_goto (pc' := 133) dX3_joined_129 (by decide) ?_
      refine z_sub (pc' := 0) [none, none, none] (zsub_n (zsub_n (zsub_n zsub_nil))) ?_
      exact h
  by_cases c1_7 : x0 = (62 : Int32)
  · replace h := h.2.2.2.2.2.2.2.1 c1_7
    refine z_lookup (pc' := 134) dX3_joined_1 (by decide) (by rw [c1_7]; decide) ?_
    refine z_iload_n (pc' := 135) (x := x1) dX3_joined_134 rfl rfl ?_
    refine z_iload_n (pc' := 136) (x := x2) dX3_joined_135 rfl rfl ?_
    refine z_icmp_le (pc' := 139) (tgt := 143) dX3_joined_136 rfl (by decide) (fun c8 => ?_) (fun c8 => ?_)
    · replace h := h.1 c8
      refine z_iconst (pc' := 144) (v := 0) dX3_joined_143 rfl (by decide) ?_
      refine z_sub (pc' := 0) [none, none, none] (zsub_n (zsub_n (zsub_n zsub_nil))) ?_
      exact h
    · replace h := h.2 c8
      refine z_iconst (pc' := 140) (v := 1) dX3_joined_139 rfl (by decide) ?_
      refine z_goto (pc' := 144) dX3_joined_140 (by decide) ?_
      refine z_sub (pc' := 0) [none, none, none] (zsub_n (zsub_n (zsub_n zsub_nil))) ?_
      exact h
  by_cases c1_8 : x0 = (124 : Int32)
  · replace h := h.2.2.2.2.2.2.2.2.1 c1_8
    refine z_lookup (pc' := 84) dX3_joined_1 (by decide) (by rw [c1_8]; decide) ?_
    refine z_iload_n (pc' := 85) (x := x1) dX3_joined_84 rfl rfl ?_
    refine z_if_ne (pc' := 88) (tgt := 92) dX3_joined_85 rfl (by decide) (fun c9 => ?_) (fun c9 => ?_)
    · replace h := h.1 c9
      refine z_sub (pc' := 0) [none, none, none] (zsub_n (zsub_n (zsub_n zsub_nil))) ?_
      exact h
    · replace h := h.2 c9
      refine z_iload_n (pc' := 89) (x := x2) dX3_joined_88 rfl rfl ?_
      refine z_if_eq (pc' := 92) (tgt := 96) dX3_joined_89 rfl (by decide) (fun c10 => ?_) (fun c10 => ?_)
      · replace h := h.1 c10
        refine z_iconst (pc' := 97) (v := 0) dX3_joined_96 rfl (by decide) ?_
        refine z_sub (pc' := 0) [none, none, none] (zsub_n (zsub_n (zsub_n zsub_nil))) ?_
        exact h
      · replace h := h.2 c10
        refine z_sub (pc' := 0) [none, none, none] (zsub_n (zsub_n (zsub_n zsub_nil))) ?_
        exact h
  replace h := h.2.2.2.2.2.2.2.2.2 c1_0 c1_1 c1_2 c1_3 c1_4 c1_5 c1_6 c1_7 c1_8
  refine z_lookup (pc' := 169) dX3_joined_1 (by decide) (by rw [lv_osw c1_0 (a := 38) (by decide), lv_osw c1_1 (a := 42) (by decide), lv_osw c1_2 (a := 43) (by decide), lv_osw c1_3 (a := 45) (by decide), lv_osw c1_4 (a := 47) (by decide), lv_osw c1_5 (a := 60) (by decide), lv_osw c1_6 (a := 61) (by decide), lv_osw c1_7 (a := 62) (by decide), lv_osw c1_8 (a := 124) (by decide)]; rfl) ?_
  refine z_iload_n (pc' := 170) (x := x2) dX3_joined_169 rfl rfl ?_
  refine z_if_ne (pc' := 173) (tgt := 177) dX3_joined_170 rfl (by decide) (fun c11 => ?_) (fun c11 => ?_)
  · replace h := h.1 c11
    refine z_iload_n (pc' := 178) (x := x1) dX3_joined_177 rfl rfl ?_
    refine z_iload_n (pc' := 179) (x := x2) dX3_joined_178 rfl rfl ?_
    obtain ⟨hz12, h⟩ := h
    refine z_irem (pc' := 180) dX3_joined_179 rfl hz12 ?_
    refine z_sub (pc' := 0) [none, none, none] (zsub_n (zsub_n (zsub_n zsub_nil))) ?_
    exact h
  · replace h := h.2 c11
    refine z_iconst (pc' := 174) (v := 0) dX3_joined_173 rfl (by decide) ?_
    refine z_goto (pc' := 180) dX3_joined_174 (by decide) ?_
    refine z_sub (pc' := 0) [none, none, none] (zsub_n (zsub_n (zsub_n zsub_nil))) ?_
    exact h
set_option maxHeartbeats 4000000 in
set_option maxRecDepth 100000 in
theorem t_X3_joined_110 {l : Launch} {G : zG} {d : Nat} {P : Int32 → zIM → zLM → Prop} {I : zIM} {L : zLM}    (h : K_X3_joined_111 l G d P I L  (0 : Int32)) : K_X3_joined_110 l G d P I L   := by
  refine z_iconst (pc' := 111) (v := 0) dX3_joined_110 rfl (by decide) ?_
  exact h
set_option maxHeartbeats 4000000 in
set_option maxRecDepth 100000 in
theorem t_X3_joined_111 {l : Launch} {G : zG} {d : Nat} {P : Int32 → zIM → zLM → Prop} {I : zIM} {L : zLM} {s0 : Int32}   (h : P s0 I L) : K_X3_joined_111 l G d P I L s0  := by
  exact z_iret dX3_joined_111 rfl rfl ⟨Nat.le_refl _, Nat.le_refl _⟩ ⟨_, _, _, rfl, rfl, h⟩
set_option maxHeartbeats 4000000 in
set_option maxRecDepth 100000 in
theorem t_X3_joined_168 {l : Launch} {G : zG} {d : Nat} {P : Int32 → zIM → zLM → Prop} {I : zIM} {L : zLM} {s0 : Int32}   (h : P s0 I L) : K_X3_joined_168 l G d P I L s0  := by
  exact z_iret dX3_joined_168 rfl rfl ⟨Nat.le_refl _, Nat.le_refl _⟩ ⟨_, _, _, rfl, rfl, h⟩
set_option maxHeartbeats 4000000 in
set_option maxRecDepth 100000 in
theorem t_X3_joined_122 {l : Launch} {G : zG} {d : Nat} {P : Int32 → zIM → zLM → Prop} {I : zIM} {L : zLM} {s0 : Int32}   (h : P s0 I L) : K_X3_joined_122 l G d P I L s0  := by
  exact z_iret dX3_joined_122 rfl rfl ⟨Nat.le_refl _, Nat.le_refl _⟩ ⟨_, _, _, rfl, rfl, h⟩
set_option maxHeartbeats 4000000 in
set_option maxRecDepth 100000 in
theorem t_X3_joined_133 {l : Launch} {G : zG} {d : Nat} {P : Int32 → zIM → zLM → Prop} {I : zIM} {L : zLM} {s0 : Int32}   (h : P s0 I L) : K_X3_joined_133 l G d P I L s0  := by
  exact z_iret dX3_joined_133 rfl rfl ⟨Nat.le_refl _, Nat.le_refl _⟩ ⟨_, _, _, rfl, rfl, h⟩
set_option maxHeartbeats 4000000 in
set_option maxRecDepth 100000 in
theorem t_X3_joined_144 {l : Launch} {G : zG} {d : Nat} {P : Int32 → zIM → zLM → Prop} {I : zIM} {L : zLM} {s0 : Int32}   (h : P s0 I L) : K_X3_joined_144 l G d P I L s0  := by
  exact z_iret dX3_joined_144 rfl rfl ⟨Nat.le_refl _, Nat.le_refl _⟩ ⟨_, _, _, rfl, rfl, h⟩
set_option maxHeartbeats 4000000 in
set_option maxRecDepth 100000 in
theorem t_X3_joined_92 {l : Launch} {G : zG} {d : Nat} {P : Int32 → zIM → zLM → Prop} {I : zIM} {L : zLM}    (h : K_X3_joined_97 l G d P I L  (1 : Int32)) : K_X3_joined_92 l G d P I L   := by
  refine z_iconst (pc' := 93) (v := 1) dX3_joined_92 rfl (by decide) ?_
  refine z_goto (pc' := 97) dX3_joined_93 (by decide) ?_
  exact h
set_option maxHeartbeats 4000000 in
set_option maxRecDepth 100000 in
theorem t_X3_joined_97 {l : Launch} {G : zG} {d : Nat} {P : Int32 → zIM → zLM → Prop} {I : zIM} {L : zLM} {s0 : Int32}   (h : P s0 I L) : K_X3_joined_97 l G d P I L s0  := by
  exact z_iret dX3_joined_97 rfl rfl ⟨Nat.le_refl _, Nat.le_refl _⟩ ⟨_, _, _, rfl, rfl, h⟩
set_option maxHeartbeats 4000000 in
set_option maxRecDepth 100000 in
theorem t_X3_joined_180 {l : Launch} {G : zG} {d : Nat} {P : Int32 → zIM → zLM → Prop} {I : zIM} {L : zLM} {s0 : Int32}   (h : P s0 I L) : K_X3_joined_180 l G d P I L s0  := by
  exact z_iret dX3_joined_180 rfl rfl ⟨Nat.le_refl _, Nat.le_refl _⟩ ⟨_, _, _, rfl, rfl, h⟩
set_option maxHeartbeats 4000000 in
set_option maxRecDepth 100000 in
theorem t_X3_push {l : Launch} {G : zG} {d : Nat} {P : zIM → zLM → Prop} {I : zIM} {L : zLM} {x1 : Int32}  (h : (((120 : Int32) ≤ (I 9 8) → (P I L)) ∧ (¬ (120 : Int32) ≤ (I 9 8) → (∃ j2 : Nat, (I 9 8) = nI j2 ∧ j2 < 120 ∧ (P (xI (xI I 13 j2 x1) 9 8 ((I 9 8) + (1 : Int32))) L))))) : zCv l G d mX3_push [.ref 9, .int x1] I L P := by
  refine zCn.of (ls := [some (.ref 9), some (.int x1)]) (by decide) (Nat.le_of_ble_eq_true rfl) rfl ?_
  refine z_aload_n (pc' := 1) (x := 9) dX3_push_0 rfl rfl ?_
  refine z_geti (pc' := 4) (x := (I 9 8)) dX3_push_1 rfl fl_X3_51 rfl rfl rfl ?_
  refine z_bipush (pc' := 6) (v := 120) dX3_push_4 rfl (by decide) ?_
  refine z_icmp_ge (pc' := 9) (tgt := 29) dX3_push_6 rfl (by decide) (fun c1 => ?_) (fun c1 => ?_)
  · replace h := h.1 c1
    exact z_vret dX3_push_29 rfl ⟨Nat.le_refl _, Nat.le_refl _⟩ ⟨_, _, rfl, rfl, h⟩
  · replace h := h.2 c1
    refine z_aload_n (pc' := 10) (x := 9) dX3_push_9 rfl rfl ?_
    refine z_getr (pc' := 13) (x := 13) dX3_push_10 rfl fl_X3_28 rfl rfl rfl ?_
    refine z_aload_n (pc' := 14) (x := 9) dX3_push_13 rfl rfl ?_
    refine z_geti (pc' := 17) (x := (I 9 8)) dX3_push_14 rfl fl_X3_51 rfl rfl rfl ?_
    refine z_iload_n (pc' := 18) (x := x1) dX3_push_17 rfl rfl ?_
    obtain ⟨j2, ha2, hb2, h⟩ := h
    refine z_iast (pc' := 19) (j := j2) (w' := zs (xI I 13 j2 x1) L) dX3_push_18 rfl rfl (by decide) ha2 hb2 rfl ?_
    refine z_aload_n (pc' := 20) (x := 9) dX3_push_19 rfl rfl ?_
    refine z_dup (pc' := 21) dX3_push_20 rfl rfl ?_
    refine z_geti (pc' := 24) (x := (I 9 8)) dX3_push_21 rfl fl_X3_51 rfl rfl rfl ?_
    refine z_iconst (pc' := 25) (v := 1) dX3_push_24 rfl (by decide) ?_
    refine z_iadd (pc' := 26) dX3_push_25 rfl ?_
    refine z_puti (pc' := 29) (w' := zs (xI (xI I 13 j2 x1) 9 8 ((I 9 8) + (1 : Int32))) L) dX3_push_26 rfl fl_X3_51 rfl rfl rfl rfl rfl rfl ?_
    exact z_vret dX3_push_29 rfl ⟨Nat.le_refl _, Nat.le_refl _⟩ ⟨_, _, rfl, rfl, h⟩
set_option maxHeartbeats 4000000 in
set_option maxRecDepth 100000 in
theorem t_X3_pop {l : Launch} {G : zG} {d : Nat} {P : Int32 → zIM → zLM → Prop} {I : zIM} {L : zLM}   (h : ((0 < (I 9 8) → (∃ j2 : Nat, ((I 9 8) - (1 : Int32)) = nI j2 ∧ j2 < 120 ∧ (P (I 13 j2) (xI I 9 8 ((I 9 8) - (1 : Int32))) L))) ∧ (¬ 0 < (I 9 8) → (P (0 : Int32) I L)))) : zCi l G d mX3_pop [.ref 9] I L P := by
  refine zCn.of (ls := [some (.ref 9)]) (by decide) (Nat.le_of_ble_eq_true rfl) rfl ?_
  refine z_aload_n (pc' := 1) (x := 9) dX3_pop_0 rfl rfl ?_
  refine z_geti (pc' := 4) (x := (I 9 8)) dX3_pop_1 rfl fl_X3_51 rfl rfl rfl ?_
  refine z_if_gt (pc' := 7) (tgt := 9) dX3_pop_4 rfl (by decide) (fun c1 => ?_) (fun c1 => ?_)
  · replace h := h.1 c1
    refine z_aload_n (pc' := 10) (x := 9) dX3_pop_9 rfl rfl ?_
    refine z_dup (pc' := 11) dX3_pop_10 rfl rfl ?_
    refine z_geti (pc' := 14) (x := (I 9 8)) dX3_pop_11 rfl fl_X3_51 rfl rfl rfl ?_
    refine z_iconst (pc' := 15) (v := 1) dX3_pop_14 rfl (by decide) ?_
    refine z_isub (pc' := 16) dX3_pop_15 rfl ?_
    refine z_puti (pc' := 19) (w' := zs (xI I 9 8 ((I 9 8) - (1 : Int32))) L) dX3_pop_16 rfl fl_X3_51 rfl rfl rfl rfl rfl rfl ?_
    refine z_aload_n (pc' := 20) (x := 9) dX3_pop_19 rfl rfl ?_
    refine z_getr (pc' := 23) (x := 13) dX3_pop_20 rfl fl_X3_28 rfl rfl rfl ?_
    refine z_aload_n (pc' := 24) (x := 9) dX3_pop_23 rfl rfl ?_
    refine z_geti (pc' := 27) (x := ((I 9 8) - (1 : Int32))) dX3_pop_24 rfl fl_X3_51 rfl rfl rfl ?_
    obtain ⟨j2, ha2, hb2, h⟩ := h
    refine z_iald (pc' := 28) (x := (I 13 j2)) (j := j2) dX3_pop_27 rfl rfl (by decide) ha2 hb2 rfl ?_
    exact z_iret dX3_pop_28 rfl rfl ⟨Nat.le_refl _, Nat.le_refl _⟩ ⟨_, _, _, rfl, rfl, h⟩
  · replace h := h.2 c1
    refine z_iconst (pc' := 8) (v := 0) dX3_pop_7 rfl (by decide) ?_
    exact z_iret dX3_pop_8 rfl rfl ⟨Nat.le_refl _, Nat.le_refl _⟩ ⟨_, _, _, rfl, rfl, h⟩
set_option maxHeartbeats 4000000 in
set_option maxRecDepth 100000 in
theorem t_X3_next {l : Launch} {G : zG} {d : Nat} {P : Int32 → zIM → zLM → Prop} {I : zIM} {L : zLM}   (h : (((I 9 0) ≤ (I 9 2) → (P (-1 : Int32) I L)) ∧ (¬ (I 9 0) ≤ (I 9 2) → (∃ j2 : Nat, (I 9 2) = nI j2 ∧ j2 < 120 ∧ (P (I 10 j2) I L))))) : zCi l G d mX3_next [.ref 9] I L P := by
  refine zCn.of (ls := [some (.ref 9)]) (by decide) (Nat.le_of_ble_eq_true rfl) rfl ?_
  refine z_aload_n (pc' := 1) (x := 9) dX3_next_0 rfl rfl ?_
  refine z_geti (pc' := 4) (x := (I 9 2)) dX3_next_1 rfl fl_X3_31 rfl rfl rfl ?_
  refine z_aload_n (pc' := 5) (x := 9) dX3_next_4 rfl rfl ?_
  refine z_geti (pc' := 8) (x := (I 9 0)) dX3_next_5 rfl fl_X3_9 rfl rfl rfl ?_
  refine z_icmp_ge (pc' := 11) (tgt := 23) dX3_next_8 rfl (by decide) (fun c1 => ?_) (fun c1 => ?_)
  · replace h := h.1 c1
    refine z_iconst (pc' := 24) (v := -1) dX3_next_23 rfl (by decide) ?_
    exact z_iret dX3_next_24 rfl rfl ⟨Nat.le_refl _, Nat.le_refl _⟩ ⟨_, _, _, rfl, rfl, h⟩
  · replace h := h.2 c1
    refine z_aload_n (pc' := 12) (x := 9) dX3_next_11 rfl rfl ?_
    refine z_getr (pc' := 15) (x := 10) dX3_next_12 rfl fl_X3_15 rfl rfl rfl ?_
    refine z_aload_n (pc' := 16) (x := 9) dX3_next_15 rfl rfl ?_
    refine z_geti (pc' := 19) (x := (I 9 2)) dX3_next_16 rfl fl_X3_31 rfl rfl rfl ?_
    obtain ⟨j2, ha2, hb2, h⟩ := h
    refine z_iald (pc' := 20) (x := (I 10 j2)) (j := j2) dX3_next_19 rfl rfl (by decide) ha2 hb2 rfl ?_
    refine z_goto (pc' := 24) dX3_next_20 (by decide) ?_
    exact z_iret dX3_next_24 rfl rfl ⟨Nat.le_refl _, Nat.le_refl _⟩ ⟨_, _, _, rfl, rfl, h⟩
set_option maxHeartbeats 4000000 in
set_option maxRecDepth 100000 in
theorem t_X3_write {l : Launch} {G : zG} {d : Nat} {P : zIM → zLM → Prop} {I : zIM} {L : zLM} {x1 : Int32}  (h : (((256 : Int32) ≤ (I 9 4) → (P I L)) ∧ (¬ (256 : Int32) ≤ (I 9 4) → (∃ j2 : Nat, (I 9 4) = nI j2 ∧ j2 < 256 ∧ (P (xI (xI I 11 j2 x1) 9 4 ((I 9 4) + (1 : Int32))) L))))) : zCv l G d mX3_write [.ref 9, .int x1] I L P := by
  refine zCn.of (ls := [some (.ref 9), some (.int x1)]) (by decide) (Nat.le_of_ble_eq_true rfl) rfl ?_
  refine z_aload_n (pc' := 1) (x := 9) dX3_write_0 rfl rfl ?_
  refine z_geti (pc' := 4) (x := (I 9 4)) dX3_write_1 rfl fl_X3_34 rfl rfl rfl ?_
  refine z_sipush (pc' := 7) (v := 256) dX3_write_4 rfl (by decide) ?_
  refine z_icmp_ge (pc' := 10) (tgt := 30) dX3_write_7 rfl (by decide) (fun c1 => ?_) (fun c1 => ?_)
  · replace h := h.1 c1
    exact z_vret dX3_write_30 rfl ⟨Nat.le_refl _, Nat.le_refl _⟩ ⟨_, _, rfl, rfl, h⟩
  · replace h := h.2 c1
    refine z_aload_n (pc' := 11) (x := 9) dX3_write_10 rfl rfl ?_
    refine z_getr (pc' := 14) (x := 11) dX3_write_11 rfl fl_X3_19 rfl rfl rfl ?_
    refine z_aload_n (pc' := 15) (x := 9) dX3_write_14 rfl rfl ?_
    refine z_geti (pc' := 18) (x := (I 9 4)) dX3_write_15 rfl fl_X3_34 rfl rfl rfl ?_
    refine z_iload_n (pc' := 19) (x := x1) dX3_write_18 rfl rfl ?_
    obtain ⟨j2, ha2, hb2, h⟩ := h
    refine z_iast (pc' := 20) (j := j2) (w' := zs (xI I 11 j2 x1) L) dX3_write_19 rfl rfl (by decide) ha2 hb2 rfl ?_
    refine z_aload_n (pc' := 21) (x := 9) dX3_write_20 rfl rfl ?_
    refine z_dup (pc' := 22) dX3_write_21 rfl rfl ?_
    refine z_geti (pc' := 25) (x := (I 9 4)) dX3_write_22 rfl fl_X3_34 rfl rfl rfl ?_
    refine z_iconst (pc' := 26) (v := 1) dX3_write_25 rfl (by decide) ?_
    refine z_iadd (pc' := 27) dX3_write_26 rfl ?_
    refine z_puti (pc' := 30) (w' := zs (xI (xI I 11 j2 x1) 9 4 ((I 9 4) + (1 : Int32))) L) dX3_write_27 rfl fl_X3_34 rfl rfl rfl rfl rfl rfl ?_
    exact z_vret dX3_write_30 rfl ⟨Nat.le_refl _, Nat.le_refl _⟩ ⟨_, _, rfl, rfl, h⟩
set_option maxHeartbeats 4000000 in
set_option maxRecDepth 100000 in
theorem t_X3_readLine {l : Launch} {G : zG} {d : Nat} {P : Int32 → zIM → zLM → Prop} {I : zIM} {L : zLM}   (h : ∃ (d1 : Nat) (P1 : Int32 → zIM → zLM → Prop), d1 + 1 ≤ d ∧ zCi l G d1 mX3_readJoined [.ref 9, .int (0 : Int32), .int (0 : Int32)] I L P1 ∧ ∀ (y1 : Int32) (I1 : zIM) (L1 : zLM), P1 y1 I1 L1 → (((¬ y1 = 0 → (∃ (d3 : Nat) (P3 : Int32 → zIM → zLM → Prop), d3 + 1 ≤ d ∧ zCi l G d3 mX3_next [.ref 9] I1 L1 P3 ∧ ∀ (y3 : Int32) (I3 : zIM) (L3 : zLM), P3 y3 I3 L3 → (((¬ y3 = (63 : Int32) → (∃ (d5 : Nat) (P5 : zIM → zLM → Prop), d5 + 1 ≤ d ∧ zCv l G d5 mX3_write [.ref 9, .int (-59 : Int32)] I3 L3 P5 ∧ ∀ (I5 : zIM) (L5 : zLM), P5 I5 L5 → (P (1 : Int32) I5 L5))) ∧ (y3 = (63 : Int32) → (∃ (d6 : Nat) (P6 : zIM → zLM → Prop), d6 + 1 ≤ d ∧ zCv l G d6 mX3_write [.ref 9, .int (-63 : Int32)] (xI I3 9 2 ((I3 9 2) + (1 : Int32))) L3 P6 ∧ ∀ (I6 : zIM) (L6 : zLM), P6 I6 L6 → (∃ (d7 : Nat) (P7 : zIM → zLM → Prop), d7 + 1 ≤ d ∧ zCv l G d7 mX3_write [.ref 9, .int (0 : Int32)] I6 L6 P7 ∧ ∀ (I7 : zIM) (L7 : zLM), P7 I7 L7 → (∃ (d8 : Nat) (P8 : Int32 → zIM → zLM → Prop), d8 + 1 ≤ d ∧ zCi l G d8 mX3_readJoined [.ref 9, .int (0 : Int32), .int (0 : Int32)] I7 L7 P8 ∧ ∀ (y8 : Int32) (I8 : zIM) (L8 : zLM), P8 y8 I8 L8 → (((¬ y8 = 0 → (∃ (d10 : Nat) (P10 : zIM → zLM → Prop), d10 + 1 ≤ d ∧ zCv l G d10 mX3_write [.ref 9, .int (-59 : Int32)] I8 L8 P10 ∧ ∀ (I10 : zIM) (L10 : zLM), P10 I10 L10 → ((((I6 9 4) < 0 → (P (1 : Int32) I10 L10)) ∧ (¬ (I6 9 4) < 0 → ((((256 : Int32) ≤ (I6 9 4) → (P (1 : Int32) I10 L10)) ∧ (¬ (256 : Int32) ≤ (I6 9 4) → (∃ j13 : Nat, (I6 9 4) = nI j13 ∧ j13 < 256 ∧ (P (1 : Int32) (xI I10 11 j13 (I10 9 4)) L10)))))))))) ∧ (y8 = 0 → (P (0 : Int32) I8 L8)))))))))))) ∧ (y1 = 0 → (P (0 : Int32) I1 L1))))) : zCi l G d mX3_readLine [.ref 9] I L P := by
  refine zCn.of (ls := [some (.ref 9), none]) (by decide) (Nat.le_of_ble_eq_true rfl) rfl ?_
  refine z_aload_n (pc' := 1) (x := 9) dX3_readLine_0 rfl rfl ?_
  refine z_iconst (pc' := 2) (v := 0) dX3_readLine_1 rfl (by decide) ?_
  refine z_iconst (pc' := 3) (v := 0) dX3_readLine_2 rfl (by decide) ?_
  obtain ⟨d1, P1, hd1, hC1, h⟩ := h
  refine z_callV (pc' := 6) (M' := mX3_readJoined) (As := [.int (0 : Int32), .int (0 : Int32)]) dX3_readLine_3 rfl ml_X3_78 me_X3_readJoined hC1 rfl (by decide) rfl rfl hd1 (Nat.le_of_ble_eq_true rfl) ⟨Nat.le_refl _, Nat.le_refl _⟩ rfl ?_
  rintro _ _ ⟨y1, I1, L1, rfl, rfl, hP1⟩
  replace h := h y1 I1 L1 hP1
  refine z_if_ne (pc' := 9) (tgt := 11) dX3_readLine_6 rfl (by decide) (fun c2 => ?_) (fun c2 => ?_)
  · replace h := h.1 c2
    refine z_bipush (pc' := 13) (v := -2) dX3_readLine_11 rfl (by decide) ?_
    refine z_istore_n (pc' := 14) (ls' := [some (.ref 9), some (.int (-2 : Int32))]) dX3_readLine_13 rfl (by decide) rfl ?_
    refine z_aload_n (pc' := 15) (x := 9) dX3_readLine_14 rfl rfl ?_
    obtain ⟨d3, P3, hd3, hC3, h⟩ := h
    refine z_callV (pc' := 18) (M' := mX3_next) (As := []) dX3_readLine_15 rfl ml_X3_41 me_X3_next hC3 rfl (by decide) rfl rfl hd3 (Nat.le_of_ble_eq_true rfl) ⟨Nat.le_refl _, Nat.le_refl _⟩ rfl ?_
    rintro _ _ ⟨y3, I3, L3, rfl, rfl, hP3⟩
    replace h := h y3 I3 L3 hP3
    refine z_bipush (pc' := 20) (v := 63) dX3_readLine_18 rfl (by decide) ?_
    refine z_icmp_ne (pc' := 23) (tgt := 60) dX3_readLine_20 rfl (by decide) (fun c4 => ?_) (fun c4 => ?_)
    · replace h := h.1 c4
      refine z_aload_n (pc' := 61) (x := 9) dX3_readLine_60 rfl rfl ?_
      refine z_bipush (pc' := 63) (v := -59) dX3_readLine_61 rfl (by decide) ?_
      obtain ⟨d5, P5, hd5, hC5, h⟩ := h
      refine z_callV (pc' := 66) (M' := mX3_write) (As := [.int (-59 : Int32)]) dX3_readLine_63 rfl ml_X3_82 me_X3_write hC5 rfl (by decide) rfl rfl hd5 (Nat.le_of_ble_eq_true rfl) ⟨Nat.le_refl _, Nat.le_refl _⟩ rfl ?_
      rintro _ _ ⟨I5, L5, rfl, rfl, hP5⟩
      replace h := h I5 L5 hP5
      refine z_iload_n (pc' := 67) (x := (-2 : Int32)) dX3_readLine_66 rfl rfl ?_
      refine z_if_lt (pc' := 70) (tgt := 87) dX3_readLine_67 rfl (by decide) (fun _ => ?_) (fun c => absurd c (by decide))
      refine z_iconst (pc' := 88) (v := 1) dX3_readLine_87 rfl (by decide) ?_
      exact z_iret dX3_readLine_88 rfl rfl ⟨Nat.le_refl _, Nat.le_refl _⟩ ⟨_, _, _, rfl, rfl, h⟩
    · replace h := h.2 c4
      refine z_aload_n (pc' := 24) (x := 9) dX3_readLine_23 rfl rfl ?_
      refine z_dup (pc' := 25) dX3_readLine_24 rfl rfl ?_
      refine z_geti (pc' := 28) (x := (I3 9 2)) dX3_readLine_25 rfl fl_X3_31 rfl rfl rfl ?_
      refine z_iconst (pc' := 29) (v := 1) dX3_readLine_28 rfl (by decide) ?_
      refine z_iadd (pc' := 30) dX3_readLine_29 rfl ?_
      refine z_puti (pc' := 33) (w' := zs (xI I3 9 2 ((I3 9 2) + (1 : Int32))) L3) dX3_readLine_30 rfl fl_X3_31 rfl rfl rfl rfl rfl rfl ?_
      refine z_aload_n (pc' := 34) (x := 9) dX3_readLine_33 rfl rfl ?_
      refine z_bipush (pc' := 36) (v := -63) dX3_readLine_34 rfl (by decide) ?_
      obtain ⟨d6, P6, hd6, hC6, h⟩ := h
      refine z_callV (pc' := 39) (M' := mX3_write) (As := [.int (-63 : Int32)]) dX3_readLine_36 rfl ml_X3_82 me_X3_write hC6 rfl (by decide) rfl rfl hd6 (Nat.le_of_ble_eq_true rfl) ⟨Nat.le_refl _, Nat.le_refl _⟩ rfl ?_
      rintro _ _ ⟨I6, L6, rfl, rfl, hP6⟩
      replace h := h I6 L6 hP6
      refine z_aload_n (pc' := 40) (x := 9) dX3_readLine_39 rfl rfl ?_
      refine z_geti (pc' := 43) (x := (I6 9 4)) dX3_readLine_40 rfl fl_X3_34 rfl rfl rfl ?_
      refine z_istore_n (pc' := 44) (ls' := [some (.ref 9), some (.int (I6 9 4))]) dX3_readLine_43 rfl (by decide) rfl ?_
      refine z_aload_n (pc' := 45) (x := 9) dX3_readLine_44 rfl rfl ?_
      refine z_iconst (pc' := 46) (v := 0) dX3_readLine_45 rfl (by decide) ?_
      obtain ⟨d7, P7, hd7, hC7, h⟩ := h
      refine z_callV (pc' := 49) (M' := mX3_write) (As := [.int (0 : Int32)]) dX3_readLine_46 rfl ml_X3_82 me_X3_write hC7 rfl (by decide) rfl rfl hd7 (Nat.le_of_ble_eq_true rfl) ⟨Nat.le_refl _, Nat.le_refl _⟩ rfl ?_
      rintro _ _ ⟨I7, L7, rfl, rfl, hP7⟩
      replace h := h I7 L7 hP7
      refine z_aload_n (pc' := 50) (x := 9) dX3_readLine_49 rfl rfl ?_
      refine z_iconst (pc' := 51) (v := 0) dX3_readLine_50 rfl (by decide) ?_
      refine z_iconst (pc' := 52) (v := 0) dX3_readLine_51 rfl (by decide) ?_
      obtain ⟨d8, P8, hd8, hC8, h⟩ := h
      refine z_callV (pc' := 55) (M' := mX3_readJoined) (As := [.int (0 : Int32), .int (0 : Int32)]) dX3_readLine_52 rfl ml_X3_78 me_X3_readJoined hC8 rfl (by decide) rfl rfl hd8 (Nat.le_of_ble_eq_true rfl) ⟨Nat.le_refl _, Nat.le_refl _⟩ rfl ?_
      rintro _ _ ⟨y8, I8, L8, rfl, rfl, hP8⟩
      replace h := h y8 I8 L8 hP8
      refine z_if_ne (pc' := 58) (tgt := 60) dX3_readLine_55 rfl (by decide) (fun c9 => ?_) (fun c9 => ?_)
      · replace h := h.1 c9
        refine z_aload_n (pc' := 61) (x := 9) dX3_readLine_60 rfl rfl ?_
        refine z_bipush (pc' := 63) (v := -59) dX3_readLine_61 rfl (by decide) ?_
        obtain ⟨d10, P10, hd10, hC10, h⟩ := h
        refine z_callV (pc' := 66) (M' := mX3_write) (As := [.int (-59 : Int32)]) dX3_readLine_63 rfl ml_X3_82 me_X3_write hC10 rfl (by decide) rfl rfl hd10 (Nat.le_of_ble_eq_true rfl) ⟨Nat.le_refl _, Nat.le_refl _⟩ rfl ?_
        rintro _ _ ⟨I10, L10, rfl, rfl, hP10⟩
        replace h := h I10 L10 hP10
        refine z_iload_n (pc' := 67) (x := (I6 9 4)) dX3_readLine_66 rfl rfl ?_
        refine z_if_lt (pc' := 70) (tgt := 87) dX3_readLine_67 rfl (by decide) (fun c11 => ?_) (fun c11 => ?_)
        · replace h := h.1 c11
          refine z_iconst (pc' := 88) (v := 1) dX3_readLine_87 rfl (by decide) ?_
          exact z_iret dX3_readLine_88 rfl rfl ⟨Nat.le_refl _, Nat.le_refl _⟩ ⟨_, _, _, rfl, rfl, h⟩
        · replace h := h.2 c11
          refine z_iload_n (pc' := 71) (x := (I6 9 4)) dX3_readLine_70 rfl rfl ?_
          refine z_sipush (pc' := 74) (v := 256) dX3_readLine_71 rfl (by decide) ?_
          refine z_icmp_ge (pc' := 77) (tgt := 87) dX3_readLine_74 rfl (by decide) (fun c12 => ?_) (fun c12 => ?_)
          · replace h := h.1 c12
            refine z_iconst (pc' := 88) (v := 1) dX3_readLine_87 rfl (by decide) ?_
            exact z_iret dX3_readLine_88 rfl rfl ⟨Nat.le_refl _, Nat.le_refl _⟩ ⟨_, _, _, rfl, rfl, h⟩
          · replace h := h.2 c12
            refine z_aload_n (pc' := 78) (x := 9) dX3_readLine_77 rfl rfl ?_
            refine z_getr (pc' := 81) (x := 11) dX3_readLine_78 rfl fl_X3_19 rfl rfl rfl ?_
            refine z_iload_n (pc' := 82) (x := (I6 9 4)) dX3_readLine_81 rfl rfl ?_
            refine z_aload_n (pc' := 83) (x := 9) dX3_readLine_82 rfl rfl ?_
            refine z_geti (pc' := 86) (x := (I10 9 4)) dX3_readLine_83 rfl fl_X3_34 rfl rfl rfl ?_
            obtain ⟨j13, ha13, hb13, h⟩ := h
            refine z_iast (pc' := 87) (j := j13) (w' := zs (xI I10 11 j13 (I10 9 4)) L10) dX3_readLine_86 rfl rfl (by decide) ha13 hb13 rfl ?_
            refine z_iconst (pc' := 88) (v := 1) dX3_readLine_87 rfl (by decide) ?_
            exact z_iret dX3_readLine_88 rfl rfl ⟨Nat.le_refl _, Nat.le_refl _⟩ ⟨_, _, _, rfl, rfl, h⟩
      · replace h := h.2 c9
        refine z_iconst (pc' := 59) (v := 0) dX3_readLine_58 rfl (by decide) ?_
        exact z_iret dX3_readLine_59 rfl rfl ⟨Nat.le_refl _, Nat.le_refl _⟩ ⟨_, _, _, rfl, rfl, h⟩
  · replace h := h.2 c2
    refine z_iconst (pc' := 10) (v := 0) dX3_readLine_9 rfl (by decide) ?_
    exact z_iret dX3_readLine_10 rfl rfl ⟨Nat.le_refl _, Nat.le_refl _⟩ ⟨_, _, _, rfl, rfl, h⟩
set_option maxHeartbeats 4000000 in
set_option maxRecDepth 100000 in
theorem t_X3_readJoined {l : Launch} {G : zG} {d : Nat} {P : Int32 → zIM → zLM → Prop} {I : zIM} {L : zLM} {x1 : Int32} {x2 : Int32}  (h : ((x1 < (5 : Int32) → (∃ (d2 : Nat) (P2 : Int32 → zIM → zLM → Prop), d2 + 1 ≤ d ∧ zCi l G d2 mX3_readJoined [.ref 9, .int (x1 + (1 : Int32)), .int x2] I L P2 ∧ ∀ (y2 : Int32) (I2 : zIM) (L2 : zLM), P2 y2 I2 L2 → (K_X3_readJoined_23 l G d P I2 L2 x1 x2 y2 (0 : Int32)))) ∧ (¬ x1 < (5 : Int32) → (∃ (d3 : Nat) (P3 : Int32 → zIM → zLM → Prop), d3 + 1 ≤ d ∧ zCi l G d3 mX3_readOperand [.ref 9, .int x2] I L P3 ∧ ∀ (y3 : Int32) (I3 : zIM) (L3 : zLM), P3 y3 I3 L3 → ((y3 = 0 ∨ y3 = 1) ∧ P y3 I3 L3))))) : zCi l G d mX3_readJoined [.ref 9, .int x1, .int x2] I L P := by
  refine zCn.of (ls := [some (.ref 9), some (.int x1), some (.int x2), none, none, none]) (by decide) (Nat.le_of_ble_eq_true rfl) rfl ?_
  refine z_iload_n (pc' := 1) (x := x1) dX3_readJoined_0 rfl rfl ?_
  refine z_iconst (pc' := 2) (v := 5) dX3_readJoined_1 rfl (by decide) ?_
  refine z_icmp_lt (pc' := 5) (tgt := 11) dX3_readJoined_2 rfl (by decide) (fun c1 => ?_) (fun c1 => ?_)
  · replace h := h.1 c1
    refine z_aload_n (pc' := 12) (x := 9) dX3_readJoined_11 rfl rfl ?_
    refine z_iload_n (pc' := 13) (x := x1) dX3_readJoined_12 rfl rfl ?_
    refine z_iconst (pc' := 14) (v := 1) dX3_readJoined_13 rfl (by decide) ?_
    refine z_iadd (pc' := 15) dX3_readJoined_14 rfl ?_
    refine z_iload_n (pc' := 16) (x := x2) dX3_readJoined_15 rfl rfl ?_
    obtain ⟨d2, P2, hd2, hC2, h⟩ := h
    refine z_callV (pc' := 19) (M' := mX3_readJoined) (As := [.int (x1 + (1 : Int32)), .int x2]) dX3_readJoined_16 rfl ml_X3_78 me_X3_readJoined hC2 rfl (by decide) rfl rfl hd2 (Nat.le_of_ble_eq_true rfl) ⟨Nat.le_refl _, Nat.le_refl _⟩ rfl ?_
    rintro _ _ ⟨y2, I2, L2, rfl, rfl, hP2⟩
    replace h := h y2 I2 L2 hP2
    refine z_istore_n (pc' := 20) (ls' := [some (.ref 9), some (.int x1), some (.int x2), some (.int y2), none, none]) dX3_readJoined_19 rfl (by decide) rfl ?_
    refine z_iconst (pc' := 21) (v := 0) dX3_readJoined_20 rfl (by decide) ?_
    refine z_istore (pc' := 23) (ls' := [some (.ref 9), some (.int x1), some (.int x2), some (.int y2), some (.int (0 : Int32)), none]) dX3_readJoined_21 rfl (by decide) rfl ?_
    exact h
  · replace h := h.2 c1
    refine z_aload_n (pc' := 6) (x := 9) dX3_readJoined_5 rfl rfl ?_
    refine z_iload_n (pc' := 7) (x := x2) dX3_readJoined_6 rfl rfl ?_
    obtain ⟨d3, P3, hd3, hC3, h⟩ := h
    refine z_callV (pc' := 10) (M' := mX3_readOperand) (As := [.int x2]) dX3_readJoined_7 rfl ml_X3_85 me_X3_readOperand hC3 rfl (by decide) rfl rfl hd3 (Nat.le_of_ble_eq_true rfl) ⟨Nat.le_refl _, Nat.le_refl _⟩ rfl ?_
    rintro _ _ ⟨y3, I3, L3, rfl, rfl, hP3⟩
    replace h := h y3 I3 L3 hP3
    exact z_iret dX3_readJoined_10 rfl (znb h.1) ⟨Nat.le_refl _, Nat.le_refl _⟩ ⟨_, _, _, rfl, rfl, h.2⟩
set_option maxHeartbeats 4000000 in
set_option maxRecDepth 100000 in
theorem t_X3_readJoined_23 {l : Launch} {G : zG} {d : Nat} {P : Int32 → zIM → zLM → Prop} {I : zIM} {L : zLM} {x1 : Int32} {x2 : Int32} {x3 : Int32} {x4 : Int32}   (h : (((120 : Int32) ≤ x4 → ((x3 = 0 ∨ x3 = 1) ∧ P x3 I L)) ∧ (¬ (120 : Int32) ≤ x4 → (((x3 = 0 → ((x3 = 0 ∨ x3 = 1) ∧ P x3 I L)) ∧ (¬ x3 = 0 → (∃ (d5 : Nat) (P5 : Int32 → zIM → zLM → Prop), d5 + 1 ≤ d ∧ zCi l G d5 mX3_next [.ref 9] I L P5 ∧ ∀ (y5 : Int32) (I5 : zIM) (L5 : zLM), P5 y5 I5 L5 → (∃ (d6 : Nat) (P6 : Int32 → zIM → zLM → Prop), d6 + 1 ≤ d ∧ zCi l G d6 mX3_isSign [.int y5, .int x1] I5 L5 P6 ∧ ∀ (y6 : Int32) (I6 : zIM) (L6 : zLM), P6 y6 I6 L6 → (((y6 = 0 → ((x3 = 0 ∨ x3 = 1) ∧ P x3 I6 L6)) ∧ (¬ y6 = 0 → (∃ (d9 : Nat) (P9 : Int32 → zIM → zLM → Prop), d9 + 1 ≤ d ∧ zCi l G d9 mX3_next [.ref 9] I6 L6 P9 ∧ ∀ (y9 : Int32) (I9 : zIM) (L9 : zLM), P9 y9 I9 L9 → (∃ (d10 : Nat) (P10 : Int32 → zIM → zLM → Prop), d10 + 1 ≤ d ∧ zCi l G d10 mX3_readJoined [.ref 9, .int (x1 + (1 : Int32)), .int x2] (xI I9 9 2 ((I9 9 2) + (1 : Int32))) L9 P10 ∧ ∀ (y10 : Int32) (I10 : zIM) (L10 : zLM), P10 y10 I10 L10 → (∃ (d11 : Nat) (P11 : zIM → zLM → Prop), d11 + 1 ≤ d ∧ zCv l G d11 mX3_write [.ref 9, .int (-y9)] I10 L10 P11 ∧ ∀ (I11 : zIM) (L11 : zLM), P11 I11 L11 → (((¬ x1 = (2 : Int32) → (K_X3_readJoined_23 l G d P I11 L11 x1 x2 y10 (x4 + (1 : Int32)))) ∧ (x1 = (2 : Int32) → ((y10 = 0 ∨ y10 = 1) ∧ P y10 I11 L11)))))))))))))))))) : K_X3_readJoined_23 l G d P I L x1 x2 x3 x4  := by
  refine z_iload (pc' := 25) (x := x4) dX3_readJoined_23 rfl rfl ?_
  refine z_bipush (pc' := 27) (v := 120) dX3_readJoined_25 rfl (by decide) ?_
  refine z_icmp_ge (pc' := 30) (tgt := 91) dX3_readJoined_27 rfl (by decide) (fun c1 => ?_) (fun c1 => ?_)
  · replace h := h.1 c1
    refine z_iload_n (pc' := 92) (x := x3) dX3_readJoined_91 rfl rfl ?_
    exact z_iret dX3_readJoined_92 rfl (znb h.1) ⟨Nat.le_refl _, Nat.le_refl _⟩ ⟨_, _, _, rfl, rfl, h.2⟩
  · replace h := h.2 c1
    refine z_iload_n (pc' := 31) (x := x3) dX3_readJoined_30 rfl rfl ?_
    refine z_if_eq (pc' := 34) (tgt := 91) dX3_readJoined_31 rfl (by decide) (fun c3 => ?_) (fun c3 => ?_)
    · replace h := h.1 c3
      refine z_iload_n (pc' := 92) (x := x3) dX3_readJoined_91 rfl rfl ?_
      exact z_iret dX3_readJoined_92 rfl (znb h.1) ⟨Nat.le_refl _, Nat.le_refl _⟩ ⟨_, _, _, rfl, rfl, h.2⟩
    · replace h := h.2 c3
      refine z_aload_n (pc' := 35) (x := 9) dX3_readJoined_34 rfl rfl ?_
      obtain ⟨d5, P5, hd5, hC5, h⟩ := h
      refine z_callV (pc' := 38) (M' := mX3_next) (As := []) dX3_readJoined_35 rfl ml_X3_41 me_X3_next hC5 rfl (by decide) rfl rfl hd5 (Nat.le_of_ble_eq_true rfl) ⟨Nat.le_refl _, Nat.le_refl _⟩ rfl ?_
      rintro _ _ ⟨y5, I5, L5, rfl, rfl, hP5⟩
      replace h := h y5 I5 L5 hP5
      refine z_iload_n (pc' := 39) (x := x1) dX3_readJoined_38 rfl rfl ?_
      obtain ⟨d6, P6, hd6, hC6, h⟩ := h
      refine z_callS (pc' := 42) (M' := mX3_isSign) (As := [.int y5, .int x1]) dX3_readJoined_39 rfl ml_X3_89 me_X3_isSign hC6 rfl hd6 (Nat.le_of_ble_eq_true rfl) ⟨Nat.le_refl _, Nat.le_refl _⟩ rfl ?_
      rintro _ _ ⟨y6, I6, L6, rfl, rfl, hP6⟩
      replace h := h y6 I6 L6 hP6
      refine z_if_eq (pc' := 45) (tgt := 91) dX3_readJoined_42 rfl (by decide) (fun c7 => ?_) (fun c7 => ?_)
      · replace h := h.1 c7
        refine z_iload_n (pc' := 92) (x := x3) dX3_readJoined_91 rfl rfl ?_
        exact z_iret dX3_readJoined_92 rfl (znb h.1) ⟨Nat.le_refl _, Nat.le_refl _⟩ ⟨_, _, _, rfl, rfl, h.2⟩
      · replace h := h.2 c7
        refine z_aload_n (pc' := 46) (x := 9) dX3_readJoined_45 rfl rfl ?_
        obtain ⟨d9, P9, hd9, hC9, h⟩ := h
        refine z_callV (pc' := 49) (M' := mX3_next) (As := []) dX3_readJoined_46 rfl ml_X3_41 me_X3_next hC9 rfl (by decide) rfl rfl hd9 (Nat.le_of_ble_eq_true rfl) ⟨Nat.le_refl _, Nat.le_refl _⟩ rfl ?_
        rintro _ _ ⟨y9, I9, L9, rfl, rfl, hP9⟩
        replace h := h y9 I9 L9 hP9
        refine z_istore (pc' := 51) (ls' := [some (.ref 9), some (.int x1), some (.int x2), some (.int x3), some (.int x4), some (.int y9)]) dX3_readJoined_49 rfl (by decide) rfl ?_
        refine z_aload_n (pc' := 52) (x := 9) dX3_readJoined_51 rfl rfl ?_
        refine z_dup (pc' := 53) dX3_readJoined_52 rfl rfl ?_
        refine z_geti (pc' := 56) (x := (I9 9 2)) dX3_readJoined_53 rfl fl_X3_31 rfl rfl rfl ?_
        refine z_iconst (pc' := 57) (v := 1) dX3_readJoined_56 rfl (by decide) ?_
        refine z_iadd (pc' := 58) dX3_readJoined_57 rfl ?_
        refine z_puti (pc' := 61) (w' := zs (xI I9 9 2 ((I9 9 2) + (1 : Int32))) L9) dX3_readJoined_58 rfl fl_X3_31 rfl rfl rfl rfl rfl rfl ?_
        refine z_aload_n (pc' := 62) (x := 9) dX3_readJoined_61 rfl rfl ?_
        refine z_iload_n (pc' := 63) (x := x1) dX3_readJoined_62 rfl rfl ?_
        refine z_iconst (pc' := 64) (v := 1) dX3_readJoined_63 rfl (by decide) ?_
        refine z_iadd (pc' := 65) dX3_readJoined_64 rfl ?_
        refine z_iload_n (pc' := 66) (x := x2) dX3_readJoined_65 rfl rfl ?_
        obtain ⟨d10, P10, hd10, hC10, h⟩ := h
        refine z_callV (pc' := 69) (M' := mX3_readJoined) (As := [.int (x1 + (1 : Int32)), .int x2]) dX3_readJoined_66 rfl ml_X3_78 me_X3_readJoined hC10 rfl (by decide) rfl rfl hd10 (Nat.le_of_ble_eq_true rfl) ⟨Nat.le_refl _, Nat.le_refl _⟩ rfl ?_
        rintro _ _ ⟨y10, I10, L10, rfl, rfl, hP10⟩
        replace h := h y10 I10 L10 hP10
        refine z_istore_n (pc' := 70) (ls' := [some (.ref 9), some (.int x1), some (.int x2), some (.int y10), some (.int x4), some (.int y9)]) dX3_readJoined_69 rfl (by decide) rfl ?_
        refine z_aload_n (pc' := 71) (x := 9) dX3_readJoined_70 rfl rfl ?_
        refine z_iload (pc' := 73) (x := y9) dX3_readJoined_71 rfl rfl ?_
        refine z_ineg (pc' := 74) dX3_readJoined_73 rfl ?_
        obtain ⟨d11, P11, hd11, hC11, h⟩ := h
        refine z_callV (pc' := 77) (M' := mX3_write) (As := [.int (-y9)]) dX3_readJoined_74 rfl ml_X3_82 me_X3_write hC11 rfl (by decide) rfl rfl hd11 (Nat.le_of_ble_eq_true rfl) ⟨Nat.le_refl _, Nat.le_refl _⟩ rfl ?_
        rintro _ _ ⟨I11, L11, rfl, rfl, hP11⟩
        replace h := h I11 L11 hP11
        refine z_iload_n (pc' := 78) (x := x1) dX3_readJoined_77 rfl rfl ?_
        refine z_iconst (pc' := 79) (v := 2) dX3_readJoined_78 rfl (by decide) ?_
        refine z_icmp_ne (pc' := 82) (tgt := 85) dX3_readJoined_79 rfl (by decide) (fun c12 => ?_) (fun c12 => ?_)
        · replace h := h.1 c12
          refine z_iinc (pc' := 88) (x := x4) (v := (x4 + (1 : Int32))) (ls' := [some (.ref 9), some (.int x1), some (.int x2), some (.int y10), some (.int (x4 + (1 : Int32))), some (.int y9)]) dX3_readJoined_85 rfl rfl (by rfl) (by decide) rfl ?_
          refine z_goto (pc' := 23) dX3_readJoined_88 (by decide) ?_
          refine z_sub (pc' := 0) [some (.ref 9), some (.int x1), some (.int x2), some (.int y10), some (.int (x4 + (1 : Int32))), none] (zsub_s (zsub_s (zsub_s (zsub_s (zsub_s (zsub_n zsub_nil)))))) ?_
          exact h
        · replace h := h.2 c12
          refine z_goto (pc' := 91) dX3_readJoined_82 (by decide) ?_
          refine z_iload_n (pc' := 92) (x := y10) dX3_readJoined_91 rfl rfl ?_
          exact z_iret dX3_readJoined_92 rfl (znb h.1) ⟨Nat.le_refl _, Nat.le_refl _⟩ ⟨_, _, _, rfl, rfl, h.2⟩
set_option maxHeartbeats 4000000 in
set_option maxRecDepth 100000 in
theorem t_X3_isSign {l : Launch} {G : zG} {d : Nat} {P : Int32 → zIM → zLM → Prop} {I : zIM} {L : zLM} {x0 : Int32} {x1 : Int32}  (h : ((x1 = (0 : Int32) → (((¬ x0 = (124 : Int32) → (K_X3_isSign_43 l G d P I L  (0 : Int32))) ∧ (x0 = (124 : Int32) → (K_X3_isSign_43 l G d P I L  (1 : Int32)))))) ∧ (x1 = (1 : Int32) → (((¬ x0 = (38 : Int32) → (K_X3_isSign_55 l G d P I L  (0 : Int32))) ∧ (x0 = (38 : Int32) → (K_X3_isSign_55 l G d P I L  (1 : Int32)))))) ∧ (x1 = (2 : Int32) → (((x0 = (60 : Int32) → (K_X3_isSign_74 l G d P I L)) ∧ (¬ x0 = (60 : Int32) → (((x0 = (61 : Int32) → (K_X3_isSign_74 l G d P I L)) ∧ (¬ x0 = (61 : Int32) → (((¬ x0 = (62 : Int32) → (K_X3_isSign_79 l G d P I L  (0 : Int32))) ∧ (x0 = (62 : Int32) → (K_X3_isSign_74 l G d P I L))))))))))) ∧ (x1 = (3 : Int32) → (((x0 = (43 : Int32) → (K_X3_isSign_92 l G d P I L)) ∧ (¬ x0 = (43 : Int32) → (((¬ x0 = (45 : Int32) → (K_X3_isSign_97 l G d P I L  (0 : Int32))) ∧ (x0 = (45 : Int32) → (K_X3_isSign_92 l G d P I L)))))))) ∧ (¬ x1 = (0 : Int32) → ¬ x1 = (1 : Int32) → ¬ x1 = (2 : Int32) → ¬ x1 = (3 : Int32) → (((x0 = (42 : Int32) → (K_X3_isSign_116 l G d P I L)) ∧ (¬ x0 = (42 : Int32) → (((x0 = (47 : Int32) → (K_X3_isSign_116 l G d P I L)) ∧ (¬ x0 = (47 : Int32) → (((¬ x0 = (37 : Int32) → (K_X3_isSign_121 l G d P I L  (0 : Int32))) ∧ (x0 = (37 : Int32) → (K_X3_isSign_116 l G d P I L))))))))))))) : zCi l G d mX3_isSign [.int x0, .int x1] I L P := by
  refine zCn.of (ls := [some (.int x0), some (.int x1)]) (by decide) (Nat.le_of_ble_eq_true rfl) rfl ?_
  refine z_iload_n (pc' := 1) (x := x1) dX3_isSign_0 rfl rfl ?_
  by_cases c1_0 : x1 = (0 : Int32)
  · replace h := h.1 c1_0
    refine z_tableIn (pc' := 32) dX3_isSign_1 (by rw [c1_0]; decide) (by rw [c1_0]; decide) (by rw [c1_0]; rfl) (by decide) ?_
    refine z_iload_n (pc' := 33) (x := x0) dX3_isSign_32 rfl rfl ?_
    refine z_bipush (pc' := 35) (v := 124) dX3_isSign_33 rfl (by decide) ?_
    refine z_icmp_ne (pc' := 38) (tgt := 42) dX3_isSign_35 rfl (by decide) (fun c2 => ?_) (fun c2 => ?_)
    · replace h := h.1 c2
      refine z_iconst (pc' := 43) (v := 0) dX3_isSign_42 rfl (by decide) ?_
      refine z_sub (pc' := 0) [none, none] (zsub_n (zsub_n zsub_nil)) ?_
      exact h
    · replace h := h.2 c2
      refine z_iconst (pc' := 39) (v := 1) dX3_isSign_38 rfl (by decide) ?_
      refine z_goto (pc' := 43) dX3_isSign_39 (by decide) ?_
      refine z_sub (pc' := 0) [none, none] (zsub_n (zsub_n zsub_nil)) ?_
      exact h
  by_cases c1_1 : x1 = (1 : Int32)
  · replace h := h.2.1 c1_1
    refine z_tableIn (pc' := 44) dX3_isSign_1 (by rw [c1_1]; decide) (by rw [c1_1]; decide) (by rw [c1_1]; rfl) (by decide) ?_
    refine z_iload_n (pc' := 45) (x := x0) dX3_isSign_44 rfl rfl ?_
    refine z_bipush (pc' := 47) (v := 38) dX3_isSign_45 rfl (by decide) ?_
    refine z_icmp_ne (pc' := 50) (tgt := 54) dX3_isSign_47 rfl (by decide) (fun c3 => ?_) (fun c3 => ?_)
    · replace h := h.1 c3
      refine z_iconst (pc' := 55) (v := 0) dX3_isSign_54 rfl (by decide) ?_
      refine z_sub (pc' := 0) [none, none] (zsub_n (zsub_n zsub_nil)) ?_
      exact h
    · replace h := h.2 c3
      refine z_iconst (pc' := 51) (v := 1) dX3_isSign_50 rfl (by decide) ?_
      refine z_goto (pc' := 55) dX3_isSign_51 (by decide) ?_
      refine z_sub (pc' := 0) [none, none] (zsub_n (zsub_n zsub_nil)) ?_
      exact h
  by_cases c1_2 : x1 = (2 : Int32)
  · replace h := h.2.2.1 c1_2
    refine z_tableIn (pc' := 56) dX3_isSign_1 (by rw [c1_2]; decide) (by rw [c1_2]; decide) (by rw [c1_2]; rfl) (by decide) ?_
    refine z_iload_n (pc' := 57) (x := x0) dX3_isSign_56 rfl rfl ?_
    refine z_bipush (pc' := 59) (v := 60) dX3_isSign_57 rfl (by decide) ?_
    refine z_icmp_eq (pc' := 62) (tgt := 74) dX3_isSign_59 rfl (by decide) (fun c4 => ?_) (fun c4 => ?_)
    · replace h := h.1 c4
      refine z_sub (pc' := 0) [none, none] (zsub_n (zsub_n zsub_nil)) ?_
      exact h
    · replace h := h.2 c4
      refine z_iload_n (pc' := 63) (x := x0) dX3_isSign_62 rfl rfl ?_
      refine z_bipush (pc' := 65) (v := 61) dX3_isSign_63 rfl (by decide) ?_
      refine z_icmp_eq (pc' := 68) (tgt := 74) dX3_isSign_65 rfl (by decide) (fun c5 => ?_) (fun c5 => ?_)
      · replace h := h.1 c5
        refine z_sub (pc' := 0) [none, none] (zsub_n (zsub_n zsub_nil)) ?_
        exact h
      · replace h := h.2 c5
        refine z_iload_n (pc' := 69) (x := x0) dX3_isSign_68 rfl rfl ?_
        refine z_bipush (pc' := 71) (v := 62) dX3_isSign_69 rfl (by decide) ?_
        refine z_icmp_ne (pc' := 74) (tgt := 78) dX3_isSign_71 rfl (by decide) (fun c6 => ?_) (fun c6 => ?_)
        · replace h := h.1 c6
          refine z_iconst (pc' := 79) (v := 0) dX3_isSign_78 rfl (by decide) ?_
          refine z_sub (pc' := 0) [none, none] (zsub_n (zsub_n zsub_nil)) ?_
          exact h
        · replace h := h.2 c6
          refine z_sub (pc' := 0) [none, none] (zsub_n (zsub_n zsub_nil)) ?_
          exact h
  by_cases c1_3 : x1 = (3 : Int32)
  · replace h := h.2.2.2.1 c1_3
    refine z_tableIn (pc' := 80) dX3_isSign_1 (by rw [c1_3]; decide) (by rw [c1_3]; decide) (by rw [c1_3]; rfl) (by decide) ?_
    refine z_iload_n (pc' := 81) (x := x0) dX3_isSign_80 rfl rfl ?_
    refine z_bipush (pc' := 83) (v := 43) dX3_isSign_81 rfl (by decide) ?_
    refine z_icmp_eq (pc' := 86) (tgt := 92) dX3_isSign_83 rfl (by decide) (fun c7 => ?_) (fun c7 => ?_)
    · replace h := h.1 c7
      refine z_sub (pc' := 0) [none, none] (zsub_n (zsub_n zsub_nil)) ?_
      exact h
    · replace h := h.2 c7
      refine z_iload_n (pc' := 87) (x := x0) dX3_isSign_86 rfl rfl ?_
      refine z_bipush (pc' := 89) (v := 45) dX3_isSign_87 rfl (by decide) ?_
      refine z_icmp_ne (pc' := 92) (tgt := 96) dX3_isSign_89 rfl (by decide) (fun c8 => ?_) (fun c8 => ?_)
      · replace h := h.1 c8
        refine z_iconst (pc' := 97) (v := 0) dX3_isSign_96 rfl (by decide) ?_
        refine z_sub (pc' := 0) [none, none] (zsub_n (zsub_n zsub_nil)) ?_
        exact h
      · replace h := h.2 c8
        refine z_sub (pc' := 0) [none, none] (zsub_n (zsub_n zsub_nil)) ?_
        exact h
  replace h := h.2.2.2.2 c1_0 c1_1 c1_2 c1_3
  have hne1 : x1.toInt < 0 ∨ 3 < x1.toInt := by
    have nc1_0 := lv_neT c1_0 (a := 0) (by decide); have nc1_1 := lv_neT c1_1 (a := 1) (by decide); have nc1_2 := lv_neT c1_2 (a := 2) (by decide); have nc1_3 := lv_neT c1_3 (a := 3) (by decide); omega
  refine z_tableOut (pc' := 98) dX3_isSign_1 hne1 (by decide) ?_
  refine z_iload_n (pc' := 99) (x := x0) dX3_isSign_98 rfl rfl ?_
  refine z_bipush (pc' := 101) (v := 42) dX3_isSign_99 rfl (by decide) ?_
  refine z_icmp_eq (pc' := 104) (tgt := 116) dX3_isSign_101 rfl (by decide) (fun c9 => ?_) (fun c9 => ?_)
  · replace h := h.1 c9
    refine z_sub (pc' := 0) [none, none] (zsub_n (zsub_n zsub_nil)) ?_
    exact h
  · replace h := h.2 c9
    refine z_iload_n (pc' := 105) (x := x0) dX3_isSign_104 rfl rfl ?_
    refine z_bipush (pc' := 107) (v := 47) dX3_isSign_105 rfl (by decide) ?_
    refine z_icmp_eq (pc' := 110) (tgt := 116) dX3_isSign_107 rfl (by decide) (fun c10 => ?_) (fun c10 => ?_)
    · replace h := h.1 c10
      refine z_sub (pc' := 0) [none, none] (zsub_n (zsub_n zsub_nil)) ?_
      exact h
    · replace h := h.2 c10
      refine z_iload_n (pc' := 111) (x := x0) dX3_isSign_110 rfl rfl ?_
      refine z_bipush (pc' := 113) (v := 37) dX3_isSign_111 rfl (by decide) ?_
      refine z_icmp_ne (pc' := 116) (tgt := 120) dX3_isSign_113 rfl (by decide) (fun c11 => ?_) (fun c11 => ?_)
      · replace h := h.1 c11
        refine z_iconst (pc' := 121) (v := 0) dX3_isSign_120 rfl (by decide) ?_
        refine z_sub (pc' := 0) [none, none] (zsub_n (zsub_n zsub_nil)) ?_
        exact h
      · replace h := h.2 c11
        refine z_sub (pc' := 0) [none, none] (zsub_n (zsub_n zsub_nil)) ?_
        exact h
set_option maxHeartbeats 4000000 in
set_option maxRecDepth 100000 in
theorem t_X3_isSign_43 {l : Launch} {G : zG} {d : Nat} {P : Int32 → zIM → zLM → Prop} {I : zIM} {L : zLM} {s0 : Int32}   (h : (s0 = 0 ∨ s0 = 1) ∧ P s0 I L) : K_X3_isSign_43 l G d P I L s0  := by
  exact z_iret dX3_isSign_43 rfl (znb h.1) ⟨Nat.le_refl _, Nat.le_refl _⟩ ⟨_, _, _, rfl, rfl, h.2⟩
set_option maxHeartbeats 4000000 in
set_option maxRecDepth 100000 in
theorem t_X3_isSign_55 {l : Launch} {G : zG} {d : Nat} {P : Int32 → zIM → zLM → Prop} {I : zIM} {L : zLM} {s0 : Int32}   (h : (s0 = 0 ∨ s0 = 1) ∧ P s0 I L) : K_X3_isSign_55 l G d P I L s0  := by
  exact z_iret dX3_isSign_55 rfl (znb h.1) ⟨Nat.le_refl _, Nat.le_refl _⟩ ⟨_, _, _, rfl, rfl, h.2⟩
set_option maxHeartbeats 4000000 in
set_option maxRecDepth 100000 in
theorem t_X3_isSign_74 {l : Launch} {G : zG} {d : Nat} {P : Int32 → zIM → zLM → Prop} {I : zIM} {L : zLM}    (h : K_X3_isSign_79 l G d P I L  (1 : Int32)) : K_X3_isSign_74 l G d P I L   := by
  refine z_iconst (pc' := 75) (v := 1) dX3_isSign_74 rfl (by decide) ?_
  refine z_goto (pc' := 79) dX3_isSign_75 (by decide) ?_
  exact h
set_option maxHeartbeats 4000000 in
set_option maxRecDepth 100000 in
theorem t_X3_isSign_79 {l : Launch} {G : zG} {d : Nat} {P : Int32 → zIM → zLM → Prop} {I : zIM} {L : zLM} {s0 : Int32}   (h : (s0 = 0 ∨ s0 = 1) ∧ P s0 I L) : K_X3_isSign_79 l G d P I L s0  := by
  exact z_iret dX3_isSign_79 rfl (znb h.1) ⟨Nat.le_refl _, Nat.le_refl _⟩ ⟨_, _, _, rfl, rfl, h.2⟩
set_option maxHeartbeats 4000000 in
set_option maxRecDepth 100000 in
theorem t_X3_isSign_92 {l : Launch} {G : zG} {d : Nat} {P : Int32 → zIM → zLM → Prop} {I : zIM} {L : zLM}    (h : K_X3_isSign_97 l G d P I L  (1 : Int32)) : K_X3_isSign_92 l G d P I L   := by
  refine z_iconst (pc' := 93) (v := 1) dX3_isSign_92 rfl (by decide) ?_
  refine z_goto (pc' := 97) dX3_isSign_93 (by decide) ?_
  exact h
set_option maxHeartbeats 4000000 in
set_option maxRecDepth 100000 in
theorem t_X3_isSign_97 {l : Launch} {G : zG} {d : Nat} {P : Int32 → zIM → zLM → Prop} {I : zIM} {L : zLM} {s0 : Int32}   (h : (s0 = 0 ∨ s0 = 1) ∧ P s0 I L) : K_X3_isSign_97 l G d P I L s0  := by
  exact z_iret dX3_isSign_97 rfl (znb h.1) ⟨Nat.le_refl _, Nat.le_refl _⟩ ⟨_, _, _, rfl, rfl, h.2⟩
set_option maxHeartbeats 4000000 in
set_option maxRecDepth 100000 in
theorem t_X3_isSign_116 {l : Launch} {G : zG} {d : Nat} {P : Int32 → zIM → zLM → Prop} {I : zIM} {L : zLM}    (h : K_X3_isSign_121 l G d P I L  (1 : Int32)) : K_X3_isSign_116 l G d P I L   := by
  refine z_iconst (pc' := 117) (v := 1) dX3_isSign_116 rfl (by decide) ?_
  refine z_goto (pc' := 121) dX3_isSign_117 (by decide) ?_
  exact h
set_option maxHeartbeats 4000000 in
set_option maxRecDepth 100000 in
theorem t_X3_isSign_121 {l : Launch} {G : zG} {d : Nat} {P : Int32 → zIM → zLM → Prop} {I : zIM} {L : zLM} {s0 : Int32}   (h : (s0 = 0 ∨ s0 = 1) ∧ P s0 I L) : K_X3_isSign_121 l G d P I L s0  := by
  exact z_iret dX3_isSign_121 rfl (znb h.1) ⟨Nat.le_refl _, Nat.le_refl _⟩ ⟨_, _, _, rfl, rfl, h.2⟩
set_option maxHeartbeats 4000000 in
set_option maxRecDepth 100000 in
theorem t_X3_readOperand {l : Launch} {G : zG} {d : Nat} {P : Int32 → zIM → zLM → Prop} {I : zIM} {L : zLM} {x1 : Int32}  (h : ∃ (d1 : Nat) (P1 : Int32 → zIM → zLM → Prop), d1 + 1 ≤ d ∧ zCi l G d1 mX3_next [.ref 9] I L P1 ∧ ∀ (y1 : Int32) (I1 : zIM) (L1 : zLM), P1 y1 I1 L1 → (∃ (d2 : Nat) (P2 : Int32 → zIM → zLM → Prop), d2 + 1 ≤ d ∧ zCi l G d2 mX3_isDigit [.int y1] I1 L1 P2 ∧ ∀ (y2 : Int32) (I2 : zIM) (L2 : zLM), P2 y2 I2 L2 → (((y2 = 0 → (((y1 = (104 : Int32) → (K_X3_readOperand_47 l G d P I2 L2 y1)) ∧ (¬ y1 = (104 : Int32) → (((y1 = (97 : Int32) → (K_X3_readOperand_47 l G d P I2 L2 y1)) ∧ (¬ y1 = (97 : Int32) → (((y1 = (116 : Int32) → (K_X3_readOperand_47 l G d P I2 L2 y1)) ∧ (¬ y1 = (116 : Int32) → (((y1 = (109 : Int32) → (K_X3_readOperand_47 l G d P I2 L2 y1)) ∧ (¬ y1 = (109 : Int32) → (((¬ y1 = (110 : Int32) → (((x1 < (6 : Int32) → (((¬ y1 = (40 : Int32) → (((y1 = (33 : Int32) → (K_X3_readOperand_137 l G d P I2 L2 x1 y1)) ∧ (¬ y1 = (33 : Int32) → (((y1 = (45 : Int32) → (K_X3_readOperand_137 l G d P I2 L2 x1 y1)) ∧ (¬ y1 = (45 : Int32) → (P (0 : Int32) I2 L2)))))))) ∧ (y1 = (40 : Int32) → (∃ (d13 : Nat) (P13 : Int32 → zIM → zLM → Prop), d13 + 1 ≤ d ∧ zCi l G d13 mX3_readJoined [.ref 9, .int (0 : Int32), .int (x1 + (1 : Int32))] (xI I2 9 2 ((I2 9 2) + (1 : Int32))) L2 P13 ∧ ∀ (y13 : Int32) (I13 : zIM) (L13 : zLM), P13 y13 I13 L13 → (((y13 = 0 → (K_X3_readOperand_109 l G d P I13 L13)) ∧ (¬ y13 = 0 → (∃ (d15 : Nat) (P15 : Int32 → zIM → zLM → Prop), d15 + 1 ≤ d ∧ zCi l G d15 mX3_next [.ref 9] I13 L13 P15 ∧ ∀ (y15 : Int32) (I15 : zIM) (L15 : zLM), P15 y15 I15 L15 → (((y15 = (41 : Int32) → (P (1 : Int32) (xI I15 9 2 ((I15 9 2) + (1 : Int32))) L15)) ∧ (¬ y15 = (41 : Int32) → (K_X3_readOperand_109 l G d P I15 L15))))))))))))) ∧ (¬ x1 < (6 : Int32) → (P (0 : Int32) I2 L2))))) ∧ (y1 = (110 : Int32) → (K_X3_readOperand_47 l G d P I2 L2 y1))))))))))))))))) ∧ (¬ y2 = 0 → (∃ (d17 : Nat) (P17 : Int32 → zIM → zLM → Prop), d17 + 1 ≤ d ∧ zCi l G d17 mX3_readNumber [.ref 9] I2 L2 P17 ∧ ∀ (y17 : Int32) (I17 : zIM) (L17 : zLM), P17 y17 I17 L17 → ((y17 = 0 ∨ y17 = 1) ∧ P y17 I17 L17))))))) : zCi l G d mX3_readOperand [.ref 9, .int x1] I L P := by
  refine zCn.of (ls := [some (.ref 9), some (.int x1), none, none]) (by decide) (Nat.le_of_ble_eq_true rfl) rfl ?_
  refine z_aload_n (pc' := 1) (x := 9) dX3_readOperand_0 rfl rfl ?_
  obtain ⟨d1, P1, hd1, hC1, h⟩ := h
  refine z_callV (pc' := 4) (M' := mX3_next) (As := []) dX3_readOperand_1 rfl ml_X3_41 me_X3_next hC1 rfl (by decide) rfl rfl hd1 (Nat.le_of_ble_eq_true rfl) ⟨Nat.le_refl _, Nat.le_refl _⟩ rfl ?_
  rintro _ _ ⟨y1, I1, L1, rfl, rfl, hP1⟩
  replace h := h y1 I1 L1 hP1
  refine z_istore_n (pc' := 5) (ls' := [some (.ref 9), some (.int x1), some (.int y1), none]) dX3_readOperand_4 rfl (by decide) rfl ?_
  refine z_iload_n (pc' := 6) (x := y1) dX3_readOperand_5 rfl rfl ?_
  obtain ⟨d2, P2, hd2, hC2, h⟩ := h
  refine z_callS (pc' := 9) (M' := mX3_isDigit) (As := [.int y1]) dX3_readOperand_6 rfl ml_X3_92 me_X3_isDigit hC2 rfl hd2 (Nat.le_of_ble_eq_true rfl) ⟨Nat.le_refl _, Nat.le_refl _⟩ rfl ?_
  rintro _ _ ⟨y2, I2, L2, rfl, rfl, hP2⟩
  replace h := h y2 I2 L2 hP2
  refine z_if_eq (pc' := 12) (tgt := 17) dX3_readOperand_9 rfl (by decide) (fun c3 => ?_) (fun c3 => ?_)
  · replace h := h.1 c3
    refine z_iload_n (pc' := 18) (x := y1) dX3_readOperand_17 rfl rfl ?_
    refine z_bipush (pc' := 20) (v := 104) dX3_readOperand_18 rfl (by decide) ?_
    refine z_icmp_eq (pc' := 23) (tgt := 47) dX3_readOperand_20 rfl (by decide) (fun c4 => ?_) (fun c4 => ?_)
    · replace h := h.1 c4
      refine z_sub (pc' := 0) [some (.ref 9), none, some (.int y1), none] (zsub_s (zsub_n (zsub_s (zsub_n zsub_nil)))) ?_
      exact h
    · replace h := h.2 c4
      refine z_iload_n (pc' := 24) (x := y1) dX3_readOperand_23 rfl rfl ?_
      refine z_bipush (pc' := 26) (v := 97) dX3_readOperand_24 rfl (by decide) ?_
      refine z_icmp_eq (pc' := 29) (tgt := 47) dX3_readOperand_26 rfl (by decide) (fun c5 => ?_) (fun c5 => ?_)
      · replace h := h.1 c5
        refine z_sub (pc' := 0) [some (.ref 9), none, some (.int y1), none] (zsub_s (zsub_n (zsub_s (zsub_n zsub_nil)))) ?_
        exact h
      · replace h := h.2 c5
        refine z_iload_n (pc' := 30) (x := y1) dX3_readOperand_29 rfl rfl ?_
        refine z_bipush (pc' := 32) (v := 116) dX3_readOperand_30 rfl (by decide) ?_
        refine z_icmp_eq (pc' := 35) (tgt := 47) dX3_readOperand_32 rfl (by decide) (fun c6 => ?_) (fun c6 => ?_)
        · replace h := h.1 c6
          refine z_sub (pc' := 0) [some (.ref 9), none, some (.int y1), none] (zsub_s (zsub_n (zsub_s (zsub_n zsub_nil)))) ?_
          exact h
        · replace h := h.2 c6
          refine z_iload_n (pc' := 36) (x := y1) dX3_readOperand_35 rfl rfl ?_
          refine z_bipush (pc' := 38) (v := 109) dX3_readOperand_36 rfl (by decide) ?_
          refine z_icmp_eq (pc' := 41) (tgt := 47) dX3_readOperand_38 rfl (by decide) (fun c7 => ?_) (fun c7 => ?_)
          · replace h := h.1 c7
            refine z_sub (pc' := 0) [some (.ref 9), none, some (.int y1), none] (zsub_s (zsub_n (zsub_s (zsub_n zsub_nil)))) ?_
            exact h
          · replace h := h.2 c7
            refine z_iload_n (pc' := 42) (x := y1) dX3_readOperand_41 rfl rfl ?_
            refine z_bipush (pc' := 44) (v := 110) dX3_readOperand_42 rfl (by decide) ?_
            refine z_icmp_ne (pc' := 47) (tgt := 65) dX3_readOperand_44 rfl (by decide) (fun c8 => ?_) (fun c8 => ?_)
            · replace h := h.1 c8
              refine z_iload_n (pc' := 66) (x := x1) dX3_readOperand_65 rfl rfl ?_
              refine z_bipush (pc' := 68) (v := 6) dX3_readOperand_66 rfl (by decide) ?_
              refine z_icmp_lt (pc' := 71) (tgt := 73) dX3_readOperand_68 rfl (by decide) (fun c9 => ?_) (fun c9 => ?_)
              · replace h := h.1 c9
                refine z_iload_n (pc' := 74) (x := y1) dX3_readOperand_73 rfl rfl ?_
                refine z_bipush (pc' := 76) (v := 40) dX3_readOperand_74 rfl (by decide) ?_
                refine z_icmp_ne (pc' := 79) (tgt := 123) dX3_readOperand_76 rfl (by decide) (fun c10 => ?_) (fun c10 => ?_)
                · replace h := h.1 c10
                  refine z_iload_n (pc' := 124) (x := y1) dX3_readOperand_123 rfl rfl ?_
                  refine z_bipush (pc' := 126) (v := 33) dX3_readOperand_124 rfl (by decide) ?_
                  refine z_icmp_eq (pc' := 129) (tgt := 137) dX3_readOperand_126 rfl (by decide) (fun c11 => ?_) (fun c11 => ?_)
                  · replace h := h.1 c11
                    exact h
                  · replace h := h.2 c11
                    refine z_iload_n (pc' := 130) (x := y1) dX3_readOperand_129 rfl rfl ?_
                    refine z_bipush (pc' := 132) (v := 45) dX3_readOperand_130 rfl (by decide) ?_
                    refine z_icmp_eq (pc' := 135) (tgt := 137) dX3_readOperand_132 rfl (by decide) (fun c12 => ?_) (fun c12 => ?_)
                    · replace h := h.1 c12
                      exact h
                    · replace h := h.2 c12
                      refine z_iconst (pc' := 136) (v := 0) dX3_readOperand_135 rfl (by decide) ?_
                      exact z_iret dX3_readOperand_136 rfl rfl ⟨Nat.le_refl _, Nat.le_refl _⟩ ⟨_, _, _, rfl, rfl, h⟩
                · replace h := h.2 c10
                  refine z_aload_n (pc' := 80) (x := 9) dX3_readOperand_79 rfl rfl ?_
                  refine z_dup (pc' := 81) dX3_readOperand_80 rfl rfl ?_
                  refine z_geti (pc' := 84) (x := (I2 9 2)) dX3_readOperand_81 rfl fl_X3_31 rfl rfl rfl ?_
                  refine z_iconst (pc' := 85) (v := 1) dX3_readOperand_84 rfl (by decide) ?_
                  refine z_iadd (pc' := 86) dX3_readOperand_85 rfl ?_
                  refine z_puti (pc' := 89) (w' := zs (xI I2 9 2 ((I2 9 2) + (1 : Int32))) L2) dX3_readOperand_86 rfl fl_X3_31 rfl rfl rfl rfl rfl rfl ?_
                  refine z_aload_n (pc' := 90) (x := 9) dX3_readOperand_89 rfl rfl ?_
                  refine z_iconst (pc' := 91) (v := 0) dX3_readOperand_90 rfl (by decide) ?_
                  refine z_iload_n (pc' := 92) (x := x1) dX3_readOperand_91 rfl rfl ?_
                  refine z_iconst (pc' := 93) (v := 1) dX3_readOperand_92 rfl (by decide) ?_
                  refine z_iadd (pc' := 94) dX3_readOperand_93 rfl ?_
                  obtain ⟨d13, P13, hd13, hC13, h⟩ := h
                  refine z_callV (pc' := 97) (M' := mX3_readJoined) (As := [.int (0 : Int32), .int (x1 + (1 : Int32))]) dX3_readOperand_94 rfl ml_X3_78 me_X3_readJoined hC13 rfl (by decide) rfl rfl hd13 (Nat.le_of_ble_eq_true rfl) ⟨Nat.le_refl _, Nat.le_refl _⟩ rfl ?_
                  rintro _ _ ⟨y13, I13, L13, rfl, rfl, hP13⟩
                  replace h := h y13 I13 L13 hP13
                  refine z_if_eq (pc' := 100) (tgt := 109) dX3_readOperand_97 rfl (by decide) (fun c14 => ?_) (fun c14 => ?_)
                  · replace h := h.1 c14
                    refine z_sub (pc' := 0) [none, none, none, none] (zsub_n (zsub_n (zsub_n (zsub_n zsub_nil)))) ?_
                    exact h
                  · replace h := h.2 c14
                    refine z_aload_n (pc' := 101) (x := 9) dX3_readOperand_100 rfl rfl ?_
                    obtain ⟨d15, P15, hd15, hC15, h⟩ := h
                    refine z_callV (pc' := 104) (M' := mX3_next) (As := []) dX3_readOperand_101 rfl ml_X3_41 me_X3_next hC15 rfl (by decide) rfl rfl hd15 (Nat.le_of_ble_eq_true rfl) ⟨Nat.le_refl _, Nat.le_refl _⟩ rfl ?_
                    rintro _ _ ⟨y15, I15, L15, rfl, rfl, hP15⟩
                    replace h := h y15 I15 L15 hP15
                    refine z_bipush (pc' := 106) (v := 41) dX3_readOperand_104 rfl (by decide) ?_
                    refine z_icmp_eq (pc' := 109) (tgt := 111) dX3_readOperand_106 rfl (by decide) (fun c16 => ?_) (fun c16 => ?_)
                    · replace h := h.1 c16
                      refine z_aload_n (pc' := 112) (x := 9) dX3_readOperand_111 rfl rfl ?_
                      refine z_dup (pc' := 113) dX3_readOperand_112 rfl rfl ?_
                      refine z_geti (pc' := 116) (x := (I15 9 2)) dX3_readOperand_113 rfl fl_X3_31 rfl rfl rfl ?_
                      refine z_iconst (pc' := 117) (v := 1) dX3_readOperand_116 rfl (by decide) ?_
                      refine z_iadd (pc' := 118) dX3_readOperand_117 rfl ?_
                      refine z_puti (pc' := 121) (w' := zs (xI I15 9 2 ((I15 9 2) + (1 : Int32))) L15) dX3_readOperand_118 rfl fl_X3_31 rfl rfl rfl rfl rfl rfl ?_
                      refine z_iconst (pc' := 122) (v := 1) dX3_readOperand_121 rfl (by decide) ?_
                      exact z_iret dX3_readOperand_122 rfl rfl ⟨Nat.le_refl _, Nat.le_refl _⟩ ⟨_, _, _, rfl, rfl, h⟩
                    · replace h := h.2 c16
                      refine z_sub (pc' := 0) [none, none, none, none] (zsub_n (zsub_n (zsub_n (zsub_n zsub_nil)))) ?_
                      exact h
              · replace h := h.2 c9
                refine z_iconst (pc' := 72) (v := 0) dX3_readOperand_71 rfl (by decide) ?_
                exact z_iret dX3_readOperand_72 rfl rfl ⟨Nat.le_refl _, Nat.le_refl _⟩ ⟨_, _, _, rfl, rfl, h⟩
            · replace h := h.2 c8
              refine z_sub (pc' := 0) [some (.ref 9), none, some (.int y1), none] (zsub_s (zsub_n (zsub_s (zsub_n zsub_nil)))) ?_
              exact h
  · replace h := h.2 c3
    refine z_aload_n (pc' := 13) (x := 9) dX3_readOperand_12 rfl rfl ?_
    obtain ⟨d17, P17, hd17, hC17, h⟩ := h
    refine z_callV (pc' := 16) (M' := mX3_readNumber) (As := []) dX3_readOperand_13 rfl ml_X3_95 me_X3_readNumber hC17 rfl (by decide) rfl rfl hd17 (Nat.le_of_ble_eq_true rfl) ⟨Nat.le_refl _, Nat.le_refl _⟩ rfl ?_
    rintro _ _ ⟨y17, I17, L17, rfl, rfl, hP17⟩
    replace h := h y17 I17 L17 hP17
    exact z_iret dX3_readOperand_16 rfl (znb h.1) ⟨Nat.le_refl _, Nat.le_refl _⟩ ⟨_, _, _, rfl, rfl, h.2⟩
set_option maxHeartbeats 4000000 in
set_option maxRecDepth 100000 in
theorem t_X3_readOperand_47 {l : Launch} {G : zG} {d : Nat} {P : Int32 → zIM → zLM → Prop} {I : zIM} {L : zLM} {x2 : Int32}   (h : ∃ (d1 : Nat) (P1 : zIM → zLM → Prop), d1 + 1 ≤ d ∧ zCv l G d1 mX3_write [.ref 9, .int (-x2)] (xI I 9 2 ((I 9 2) + (1 : Int32))) L P1 ∧ ∀ (I1 : zIM) (L1 : zLM), P1 I1 L1 → (P (1 : Int32) I1 L1)) : K_X3_readOperand_47 l G d P I L x2  := by
  refine z_aload_n (pc' := 48) (x := 9) dX3_readOperand_47 rfl rfl ?_
  refine z_dup (pc' := 49) dX3_readOperand_48 rfl rfl ?_
  refine z_geti (pc' := 52) (x := (I 9 2)) dX3_readOperand_49 rfl fl_X3_31 rfl rfl rfl ?_
  refine z_iconst (pc' := 53) (v := 1) dX3_readOperand_52 rfl (by decide) ?_
  refine z_iadd (pc' := 54) dX3_readOperand_53 rfl ?_
  refine z_puti (pc' := 57) (w' := zs (xI I 9 2 ((I 9 2) + (1 : Int32))) L) dX3_readOperand_54 rfl fl_X3_31 rfl rfl rfl rfl rfl rfl ?_
  refine z_aload_n (pc' := 58) (x := 9) dX3_readOperand_57 rfl rfl ?_
  refine z_iload_n (pc' := 59) (x := x2) dX3_readOperand_58 rfl rfl ?_
  refine z_ineg (pc' := 60) dX3_readOperand_59 rfl ?_
  obtain ⟨d1, P1, hd1, hC1, h⟩ := h
  refine z_callV (pc' := 63) (M' := mX3_write) (As := [.int (-x2)]) dX3_readOperand_60 rfl ml_X3_82 me_X3_write hC1 rfl (by decide) rfl rfl hd1 (Nat.le_of_ble_eq_true rfl) ⟨Nat.le_refl _, Nat.le_refl _⟩ rfl ?_
  rintro _ _ ⟨I1, L1, rfl, rfl, hP1⟩
  replace h := h I1 L1 hP1
  refine z_iconst (pc' := 64) (v := 1) dX3_readOperand_63 rfl (by decide) ?_
  exact z_iret dX3_readOperand_64 rfl rfl ⟨Nat.le_refl _, Nat.le_refl _⟩ ⟨_, _, _, rfl, rfl, h⟩
set_option maxHeartbeats 4000000 in
set_option maxRecDepth 100000 in
theorem t_X3_readOperand_137 {l : Launch} {G : zG} {d : Nat} {P : Int32 → zIM → zLM → Prop} {I : zIM} {L : zLM} {x1 : Int32} {x2 : Int32}   (h : ∃ (d1 : Nat) (P1 : Int32 → zIM → zLM → Prop), d1 + 1 ≤ d ∧ zCi l G d1 mX3_readOperand [.ref 9, .int (x1 + (1 : Int32))] (xI I 9 2 ((I 9 2) + (1 : Int32))) L P1 ∧ ∀ (y1 : Int32) (I1 : zIM) (L1 : zLM), P1 y1 I1 L1 → (((¬ x2 = (33 : Int32) → (K_X3_readOperand_169 l G d P I1 L1 y1 (-126 : Int32))) ∧ (x2 = (33 : Int32) → (K_X3_readOperand_169 l G d P I1 L1 y1 (-33 : Int32)))))) : K_X3_readOperand_137 l G d P I L x1 x2  := by
  refine z_aload_n (pc' := 138) (x := 9) dX3_readOperand_137 rfl rfl ?_
  refine z_dup (pc' := 139) dX3_readOperand_138 rfl rfl ?_
  refine z_geti (pc' := 142) (x := (I 9 2)) dX3_readOperand_139 rfl fl_X3_31 rfl rfl rfl ?_
  refine z_iconst (pc' := 143) (v := 1) dX3_readOperand_142 rfl (by decide) ?_
  refine z_iadd (pc' := 144) dX3_readOperand_143 rfl ?_
  refine z_puti (pc' := 147) (w' := zs (xI I 9 2 ((I 9 2) + (1 : Int32))) L) dX3_readOperand_144 rfl fl_X3_31 rfl rfl rfl rfl rfl rfl ?_
  refine z_aload_n (pc' := 148) (x := 9) dX3_readOperand_147 rfl rfl ?_
  refine z_iload_n (pc' := 149) (x := x1) dX3_readOperand_148 rfl rfl ?_
  refine z_iconst (pc' := 150) (v := 1) dX3_readOperand_149 rfl (by decide) ?_
  refine z_iadd (pc' := 151) dX3_readOperand_150 rfl ?_
  obtain ⟨d1, P1, hd1, hC1, h⟩ := h
  refine z_callV (pc' := 154) (M' := mX3_readOperand) (As := [.int (x1 + (1 : Int32))]) dX3_readOperand_151 rfl ml_X3_85 me_X3_readOperand hC1 rfl (by decide) rfl rfl hd1 (Nat.le_of_ble_eq_true rfl) ⟨Nat.le_refl _, Nat.le_refl _⟩ rfl ?_
  rintro _ _ ⟨y1, I1, L1, rfl, rfl, hP1⟩
  replace h := h y1 I1 L1 hP1
  refine z_istore_n (pc' := 155) (ls' := [some (.ref 9), some (.int x1), some (.int x2), some (.int y1)]) dX3_readOperand_154 rfl (by decide) rfl ?_
  refine z_aload_n (pc' := 156) (x := 9) dX3_readOperand_155 rfl rfl ?_
  refine z_iload_n (pc' := 157) (x := x2) dX3_readOperand_156 rfl rfl ?_
  refine z_bipush (pc' := 159) (v := 33) dX3_readOperand_157 rfl (by decide) ?_
  refine z_icmp_ne (pc' := 162) (tgt := 167) dX3_readOperand_159 rfl (by decide) (fun c2 => ?_) (fun c2 => ?_)
  · replace h := h.1 c2
    refine z_bipush (pc' := 169) (v := -126) dX3_readOperand_167 rfl (by decide) ?_
    refine z_sub (pc' := 0) [none, none, none, some (.int y1)] (zsub_n (zsub_n (zsub_n (zsub_s zsub_nil)))) ?_
    exact h
  · replace h := h.2 c2
    refine z_bipush (pc' := 164) (v := -33) dX3_readOperand_162 rfl (by decide) ?_
    refine z_goto (pc' := 169) dX3_readOperand_164 (by decide) ?_
    refine z_sub (pc' := 0) [none, none, none, some (.int y1)] (zsub_n (zsub_n (zsub_n (zsub_s zsub_nil)))) ?_
    exact h
set_option maxHeartbeats 4000000 in
set_option maxRecDepth 100000 in
theorem t_X3_readOperand_109 {l : Launch} {G : zG} {d : Nat} {P : Int32 → zIM → zLM → Prop} {I : zIM} {L : zLM}    (h : P (0 : Int32) I L) : K_X3_readOperand_109 l G d P I L   := by
  refine z_iconst (pc' := 110) (v := 0) dX3_readOperand_109 rfl (by decide) ?_
  exact z_iret dX3_readOperand_110 rfl rfl ⟨Nat.le_refl _, Nat.le_refl _⟩ ⟨_, _, _, rfl, rfl, h⟩
set_option maxHeartbeats 4000000 in
set_option maxRecDepth 100000 in
theorem t_X3_readOperand_169 {l : Launch} {G : zG} {d : Nat} {P : Int32 → zIM → zLM → Prop} {I : zIM} {L : zLM} {x3 : Int32} {s1 : Int32}   (h : ∃ (d1 : Nat) (P1 : zIM → zLM → Prop), d1 + 1 ≤ d ∧ zCv l G d1 mX3_write [.ref 9, .int s1] I L P1 ∧ ∀ (I1 : zIM) (L1 : zLM), P1 I1 L1 → ((x3 = 0 ∨ x3 = 1) ∧ P x3 I1 L1)) : K_X3_readOperand_169 l G d P I L x3 s1  := by
  obtain ⟨d1, P1, hd1, hC1, h⟩ := h
  refine z_callV (pc' := 172) (M' := mX3_write) (As := [.int s1]) dX3_readOperand_169 rfl ml_X3_82 me_X3_write hC1 rfl (by decide) rfl rfl hd1 (Nat.le_of_ble_eq_true rfl) ⟨Nat.le_refl _, Nat.le_refl _⟩ rfl ?_
  rintro _ _ ⟨I1, L1, rfl, rfl, hP1⟩
  replace h := h I1 L1 hP1
  refine z_iload_n (pc' := 173) (x := x3) dX3_readOperand_172 rfl rfl ?_
  exact z_iret dX3_readOperand_173 rfl (znb h.1) ⟨Nat.le_refl _, Nat.le_refl _⟩ ⟨_, _, _, rfl, rfl, h.2⟩
set_option maxHeartbeats 4000000 in
set_option maxRecDepth 100000 in
theorem t_X3_readNumber {l : Launch} {G : zG} {d : Nat} {P : Int32 → zIM → zLM → Prop} {I : zIM} {L : zLM}   (h : K_X3_readNumber_4 l G d P I L (0 : Int32) (0 : Int32)) : zCi l G d mX3_readNumber [.ref 9] I L P := by
  refine zCn.of (ls := [some (.ref 9), none, none]) (by decide) (Nat.le_of_ble_eq_true rfl) rfl ?_
  refine z_iconst (pc' := 1) (v := 0) dX3_readNumber_0 rfl (by decide) ?_
  refine z_istore_n (pc' := 2) (ls' := [some (.ref 9), some (.int (0 : Int32)), none]) dX3_readNumber_1 rfl (by decide) rfl ?_
  refine z_iconst (pc' := 3) (v := 0) dX3_readNumber_2 rfl (by decide) ?_
  refine z_istore_n (pc' := 4) (ls' := [some (.ref 9), some (.int (0 : Int32)), some (.int (0 : Int32))]) dX3_readNumber_3 rfl (by decide) rfl ?_
  exact h
set_option maxHeartbeats 4000000 in
set_option maxRecDepth 100000 in
theorem t_X3_readNumber_4 {l : Launch} {G : zG} {d : Nat} {P : Int32 → zIM → zLM → Prop} {I : zIM} {L : zLM} {x1 : Int32} {x2 : Int32}   (h : (((4 : Int32) ≤ x2 → (∃ (d2 : Nat) (P2 : zIM → zLM → Prop), d2 + 1 ≤ d ∧ zCv l G d2 mX3_write [.ref 9, .int x1] I L P2 ∧ ∀ (I2 : zIM) (L2 : zLM), P2 I2 L2 → (P (1 : Int32) I2 L2))) ∧ (¬ (4 : Int32) ≤ x2 → (∃ (d3 : Nat) (P3 : Int32 → zIM → zLM → Prop), d3 + 1 ≤ d ∧ zCi l G d3 mX3_next [.ref 9] I L P3 ∧ ∀ (y3 : Int32) (I3 : zIM) (L3 : zLM), P3 y3 I3 L3 → (∃ (d4 : Nat) (P4 : Int32 → zIM → zLM → Prop), d4 + 1 ≤ d ∧ zCi l G d4 mX3_isDigit [.int y3] I3 L3 P4 ∧ ∀ (y4 : Int32) (I4 : zIM) (L4 : zLM), P4 y4 I4 L4 → (((y4 = 0 → (∃ (d6 : Nat) (P6 : zIM → zLM → Prop), d6 + 1 ≤ d ∧ zCv l G d6 mX3_write [.ref 9, .int x1] I4 L4 P6 ∧ ∀ (I6 : zIM) (L6 : zLM), P6 I6 L6 → (P (1 : Int32) I6 L6))) ∧ (¬ y4 = 0 → (∃ (d7 : Nat) (P7 : Int32 → zIM → zLM → Prop), d7 + 1 ≤ d ∧ zCi l G d7 mX3_next [.ref 9] I4 L4 P7 ∧ ∀ (y7 : Int32) (I7 : zIM) (L7 : zLM), P7 y7 I7 L7 → (K_X3_readNumber_4 l G d P (xI I7 9 2 ((I7 9 2) + (1 : Int32))) L7 (((x1 * (10 : Int32)) + y7) - (48 : Int32)) (x2 + (1 : Int32)))))))))))) : K_X3_readNumber_4 l G d P I L x1 x2  := by
  refine z_iload_n (pc' := 5) (x := x2) dX3_readNumber_4 rfl rfl ?_
  refine z_iconst (pc' := 6) (v := 4) dX3_readNumber_5 rfl (by decide) ?_
  refine z_icmp_ge (pc' := 9) (tgt := 48) dX3_readNumber_6 rfl (by decide) (fun c1 => ?_) (fun c1 => ?_)
  · replace h := h.1 c1
    refine z_aload_n (pc' := 49) (x := 9) dX3_readNumber_48 rfl rfl ?_
    refine z_iload_n (pc' := 50) (x := x1) dX3_readNumber_49 rfl rfl ?_
    obtain ⟨d2, P2, hd2, hC2, h⟩ := h
    refine z_callV (pc' := 53) (M' := mX3_write) (As := [.int x1]) dX3_readNumber_50 rfl ml_X3_82 me_X3_write hC2 rfl (by decide) rfl rfl hd2 (Nat.le_of_ble_eq_true rfl) ⟨Nat.le_refl _, Nat.le_refl _⟩ rfl ?_
    rintro _ _ ⟨I2, L2, rfl, rfl, hP2⟩
    replace h := h I2 L2 hP2
    refine z_iconst (pc' := 54) (v := 1) dX3_readNumber_53 rfl (by decide) ?_
    exact z_iret dX3_readNumber_54 rfl rfl ⟨Nat.le_refl _, Nat.le_refl _⟩ ⟨_, _, _, rfl, rfl, h⟩
  · replace h := h.2 c1
    refine z_aload_n (pc' := 10) (x := 9) dX3_readNumber_9 rfl rfl ?_
    obtain ⟨d3, P3, hd3, hC3, h⟩ := h
    refine z_callV (pc' := 13) (M' := mX3_next) (As := []) dX3_readNumber_10 rfl ml_X3_41 me_X3_next hC3 rfl (by decide) rfl rfl hd3 (Nat.le_of_ble_eq_true rfl) ⟨Nat.le_refl _, Nat.le_refl _⟩ rfl ?_
    rintro _ _ ⟨y3, I3, L3, rfl, rfl, hP3⟩
    replace h := h y3 I3 L3 hP3
    obtain ⟨d4, P4, hd4, hC4, h⟩ := h
    refine z_callS (pc' := 16) (M' := mX3_isDigit) (As := [.int y3]) dX3_readNumber_13 rfl ml_X3_92 me_X3_isDigit hC4 rfl hd4 (Nat.le_of_ble_eq_true rfl) ⟨Nat.le_refl _, Nat.le_refl _⟩ rfl ?_
    rintro _ _ ⟨y4, I4, L4, rfl, rfl, hP4⟩
    replace h := h y4 I4 L4 hP4
    refine z_if_eq (pc' := 19) (tgt := 48) dX3_readNumber_16 rfl (by decide) (fun c5 => ?_) (fun c5 => ?_)
    · replace h := h.1 c5
      refine z_aload_n (pc' := 49) (x := 9) dX3_readNumber_48 rfl rfl ?_
      refine z_iload_n (pc' := 50) (x := x1) dX3_readNumber_49 rfl rfl ?_
      obtain ⟨d6, P6, hd6, hC6, h⟩ := h
      refine z_callV (pc' := 53) (M' := mX3_write) (As := [.int x1]) dX3_readNumber_50 rfl ml_X3_82 me_X3_write hC6 rfl (by decide) rfl rfl hd6 (Nat.le_of_ble_eq_true rfl) ⟨Nat.le_refl _, Nat.le_refl _⟩ rfl ?_
      rintro _ _ ⟨I6, L6, rfl, rfl, hP6⟩
      replace h := h I6 L6 hP6
      refine z_iconst (pc' := 54) (v := 1) dX3_readNumber_53 rfl (by decide) ?_
      exact z_iret dX3_readNumber_54 rfl rfl ⟨Nat.le_refl _, Nat.le_refl _⟩ ⟨_, _, _, rfl, rfl, h⟩
    · replace h := h.2 c5
      refine z_iload_n (pc' := 20) (x := x1) dX3_readNumber_19 rfl rfl ?_
      refine z_bipush (pc' := 22) (v := 10) dX3_readNumber_20 rfl (by decide) ?_
      refine z_imul (pc' := 23) dX3_readNumber_22 rfl ?_
      refine z_aload_n (pc' := 24) (x := 9) dX3_readNumber_23 rfl rfl ?_
      obtain ⟨d7, P7, hd7, hC7, h⟩ := h
      refine z_callV (pc' := 27) (M' := mX3_next) (As := []) dX3_readNumber_24 rfl ml_X3_41 me_X3_next hC7 rfl (by decide) rfl rfl hd7 (Nat.le_of_ble_eq_true rfl) ⟨Nat.le_refl _, Nat.le_refl _⟩ rfl ?_
      rintro _ _ ⟨y7, I7, L7, rfl, rfl, hP7⟩
      replace h := h y7 I7 L7 hP7
      refine z_iadd (pc' := 28) dX3_readNumber_27 rfl ?_
      refine z_bipush (pc' := 30) (v := 48) dX3_readNumber_28 rfl (by decide) ?_
      refine z_isub (pc' := 31) dX3_readNumber_30 rfl ?_
      refine z_istore_n (pc' := 32) (ls' := [some (.ref 9), some (.int (((x1 * (10 : Int32)) + y7) - (48 : Int32))), some (.int x2)]) dX3_readNumber_31 rfl (by decide) rfl ?_
      refine z_aload_n (pc' := 33) (x := 9) dX3_readNumber_32 rfl rfl ?_
      refine z_dup (pc' := 34) dX3_readNumber_33 rfl rfl ?_
      refine z_geti (pc' := 37) (x := (I7 9 2)) dX3_readNumber_34 rfl fl_X3_31 rfl rfl rfl ?_
      refine z_iconst (pc' := 38) (v := 1) dX3_readNumber_37 rfl (by decide) ?_
      refine z_iadd (pc' := 39) dX3_readNumber_38 rfl ?_
      refine z_puti (pc' := 42) (w' := zs (xI I7 9 2 ((I7 9 2) + (1 : Int32))) L7) dX3_readNumber_39 rfl fl_X3_31 rfl rfl rfl rfl rfl rfl ?_
      refine z_iinc (pc' := 45) (x := x2) (v := (x2 + (1 : Int32))) (ls' := [some (.ref 9), some (.int (((x1 * (10 : Int32)) + y7) - (48 : Int32))), some (.int (x2 + (1 : Int32)))]) dX3_readNumber_42 rfl rfl (by rfl) (by decide) rfl ?_
      refine z_goto (pc' := 4) dX3_readNumber_45 (by decide) ?_
      exact h
set_option maxHeartbeats 4000000 in
set_option maxRecDepth 100000 in
theorem t_X3_isDigit {l : Launch} {G : zG} {d : Nat} {P : Int32 → zIM → zLM → Prop} {I : zIM} {L : zLM} {x0 : Int32}  (h : ((x0 < (48 : Int32) → (P (0 : Int32) I L)) ∧ (¬ x0 < (48 : Int32) → ((((57 : Int32) < x0 → (P (0 : Int32) I L)) ∧ (¬ (57 : Int32) < x0 → (P (1 : Int32) I L))))))) : zCi l G d mX3_isDigit [.int x0] I L P := by
  refine zCn.of (ls := [some (.int x0)]) (by decide) (Nat.le_of_ble_eq_true rfl) rfl ?_
  refine z_iload_n (pc' := 1) (x := x0) dX3_isDigit_0 rfl rfl ?_
  refine z_bipush (pc' := 3) (v := 48) dX3_isDigit_1 rfl (by decide) ?_
  refine z_icmp_lt (pc' := 6) (tgt := 16) dX3_isDigit_3 rfl (by decide) (fun c1 => ?_) (fun c1 => ?_)
  · replace h := h.1 c1
    refine z_iconst (pc' := 17) (v := 0) dX3_isDigit_16 rfl (by decide) ?_
    exact z_iret dX3_isDigit_17 rfl rfl ⟨Nat.le_refl _, Nat.le_refl _⟩ ⟨_, _, _, rfl, rfl, h⟩
  · replace h := h.2 c1
    refine z_iload_n (pc' := 7) (x := x0) dX3_isDigit_6 rfl rfl ?_
    refine z_bipush (pc' := 9) (v := 57) dX3_isDigit_7 rfl (by decide) ?_
    refine z_icmp_gt (pc' := 12) (tgt := 16) dX3_isDigit_9 rfl (by decide) (fun c2 => ?_) (fun c2 => ?_)
    · replace h := h.1 c2
      refine z_iconst (pc' := 17) (v := 0) dX3_isDigit_16 rfl (by decide) ?_
      exact z_iret dX3_isDigit_17 rfl rfl ⟨Nat.le_refl _, Nat.le_refl _⟩ ⟨_, _, _, rfl, rfl, h⟩
    · replace h := h.2 c2
      refine z_iconst (pc' := 13) (v := 1) dX3_isDigit_12 rfl (by decide) ?_
      refine z_goto (pc' := 17) dX3_isDigit_13 (by decide) ?_
      exact z_iret dX3_isDigit_17 rfl rfl ⟨Nat.le_refl _, Nat.le_refl _⟩ ⟨_, _, _, rfl, rfl, h⟩
set_option maxHeartbeats 4000000 in
set_option maxRecDepth 100000 in
theorem t_X6_come {l : Launch} {G : zG} {d : Nat} {P : Int32 → zIM → zLM → Prop} {I : zIM} {L : zLM} {x1 : Int32}  (h : (((I 27 1) < (50 : Int32) → (∃ j2 : Nat, (I 27 1) = nI j2 ∧ j2 < 50 ∧ (P (((I 27 1) + (1 : Int32)) - (1 : Int32)) (xI (xI I 28 j2 x1) 27 1 ((I 27 1) + (1 : Int32))) L))) ∧ (¬ (I 27 1) < (50 : Int32) → (P (-3 : Int32) I L)))) : zCi l G d mX6_come [.ref 27, .int x1] I L P := by
  refine zCn.of (ls := [some (.ref 27), some (.int x1)]) (by decide) (Nat.le_of_ble_eq_true rfl) rfl ?_
  refine z_aload_n (pc' := 1) (x := 27) dX6_come_0 rfl rfl ?_
  refine z_geti (pc' := 4) (x := (I 27 1)) dX6_come_1 rfl fl_X6_15 rfl rfl rfl ?_
  refine z_bipush (pc' := 6) (v := 50) dX6_come_4 rfl (by decide) ?_
  refine z_icmp_lt (pc' := 9) (tgt := 12) dX6_come_6 rfl (by decide) (fun c1 => ?_) (fun c1 => ?_)
  · replace h := h.1 c1
    refine z_aload_n (pc' := 13) (x := 27) dX6_come_12 rfl rfl ?_
    refine z_getr (pc' := 16) (x := 28) dX6_come_13 rfl fl_X6_11 rfl rfl rfl ?_
    refine z_aload_n (pc' := 17) (x := 27) dX6_come_16 rfl rfl ?_
    refine z_geti (pc' := 20) (x := (I 27 1)) dX6_come_17 rfl fl_X6_15 rfl rfl rfl ?_
    refine z_iload_n (pc' := 21) (x := x1) dX6_come_20 rfl rfl ?_
    obtain ⟨j2, ha2, hb2, h⟩ := h
    refine z_iast (pc' := 22) (j := j2) (w' := zs (xI I 28 j2 x1) L) dX6_come_21 rfl rfl (by decide) ha2 hb2 rfl ?_
    refine z_aload_n (pc' := 23) (x := 27) dX6_come_22 rfl rfl ?_
    refine z_dup (pc' := 24) dX6_come_23 rfl rfl ?_
    refine z_geti (pc' := 27) (x := (I 27 1)) dX6_come_24 rfl fl_X6_15 rfl rfl rfl ?_
    refine z_iconst (pc' := 28) (v := 1) dX6_come_27 rfl (by decide) ?_
    refine z_iadd (pc' := 29) dX6_come_28 rfl ?_
    refine z_puti (pc' := 32) (w' := zs (xI (xI I 28 j2 x1) 27 1 ((I 27 1) + (1 : Int32))) L) dX6_come_29 rfl fl_X6_15 rfl rfl rfl rfl rfl rfl ?_
    refine z_aload_n (pc' := 33) (x := 27) dX6_come_32 rfl rfl ?_
    refine z_geti (pc' := 36) (x := ((I 27 1) + (1 : Int32))) dX6_come_33 rfl fl_X6_15 rfl rfl rfl ?_
    refine z_iconst (pc' := 37) (v := 1) dX6_come_36 rfl (by decide) ?_
    refine z_isub (pc' := 38) dX6_come_37 rfl ?_
    exact z_iret dX6_come_38 rfl rfl ⟨Nat.le_refl _, Nat.le_refl _⟩ ⟨_, _, _, rfl, rfl, h⟩
  · replace h := h.2 c1
    refine z_bipush (pc' := 11) (v := -3) dX6_come_9 rfl (by decide) ?_
    exact z_iret dX6_come_11 rfl rfl ⟨Nat.le_refl _, Nat.le_refl _⟩ ⟨_, _, _, rfl, rfl, h⟩
set_option maxHeartbeats 4000000 in
set_option maxRecDepth 100000 in
theorem t_X6_isUnder {l : Launch} {G : zG} {d : Nat} {P : Int32 → zIM → zLM → Prop} {I : zIM} {L : zLM} {x0 : Int32} {x1 : Int32}  (h : K_X6_isUnder_4 l G d P I L x1 x0 (0 : Int32)) : zCi l G d mX6_isUnder [.int x0, .int x1] I L P := by
  refine zCn.of (ls := [some (.int x0), some (.int x1), none, none]) (by decide) (Nat.le_of_ble_eq_true rfl) rfl ?_
  refine z_iload_n (pc' := 1) (x := x0) dX6_isUnder_0 rfl rfl ?_
  refine z_istore_n (pc' := 2) (ls' := [some (.int x0), some (.int x1), some (.int x0), none]) dX6_isUnder_1 rfl (by decide) rfl ?_
  refine z_iconst (pc' := 3) (v := 0) dX6_isUnder_2 rfl (by decide) ?_
  refine z_istore_n (pc' := 4) (ls' := [some (.int x0), some (.int x1), some (.int x0), some (.int (0 : Int32))]) dX6_isUnder_3 rfl (by decide) rfl ?_
  refine z_sub (pc' := 0) [none, some (.int x1), some (.int x0), some (.int (0 : Int32))] (zsub_n (zsub_s (zsub_s (zsub_s zsub_nil)))) ?_
  exact h
set_option maxHeartbeats 4000000 in
set_option maxRecDepth 100000 in
theorem t_X6_isUnder_4 {l : Launch} {G : zG} {d : Nat} {P : Int32 → zIM → zLM → Prop} {I : zIM} {L : zLM} {x1 : Int32} {x2 : Int32} {x3 : Int32}   (h : (((8 : Int32) ≤ x3 → (((¬ x2 = x1 → (P (0 : Int32) I L)) ∧ (x2 = x1 → (P (1 : Int32) I L))))) ∧ (¬ (8 : Int32) ≤ x3 → (((x2 < 0 → (((¬ x2 = x1 → (P (0 : Int32) I L)) ∧ (x2 = x1 → (P (1 : Int32) I L))))) ∧ (¬ x2 < 0 → (((x2 = x1 → (((¬ x2 = x1 → (P (0 : Int32) I L)) ∧ (x2 = x1 → (P (1 : Int32) I L))))) ∧ (¬ x2 = x1 → (∃ j7 : Nat, x2 = nI j7 ∧ j7 < 8 ∧ (K_X6_isUnder_4 l G d P I L x1 (zABO j7) (x3 + (1 : Int32))))))))))))) : K_X6_isUnder_4 l G d P I L x1 x2 x3  := by
  refine z_iload_n (pc' := 5) (x := x3) dX6_isUnder_4 rfl rfl ?_
  refine z_bipush (pc' := 7) (v := 8) dX6_isUnder_5 rfl (by decide) ?_
  refine z_icmp_ge (pc' := 10) (tgt := 31) dX6_isUnder_7 rfl (by decide) (fun c1 => ?_) (fun c1 => ?_)
  · replace h := h.1 c1
    refine z_iload_n (pc' := 32) (x := x2) dX6_isUnder_31 rfl rfl ?_
    refine z_iload_n (pc' := 33) (x := x1) dX6_isUnder_32 rfl rfl ?_
    refine z_icmp_ne (pc' := 36) (tgt := 40) dX6_isUnder_33 rfl (by decide) (fun c2 => ?_) (fun c2 => ?_)
    · replace h := h.1 c2
      refine z_iconst (pc' := 41) (v := 0) dX6_isUnder_40 rfl (by decide) ?_
      exact z_iret dX6_isUnder_41 rfl rfl ⟨Nat.le_refl _, Nat.le_refl _⟩ ⟨_, _, _, rfl, rfl, h⟩
    · replace h := h.2 c2
      refine z_iconst (pc' := 37) (v := 1) dX6_isUnder_36 rfl (by decide) ?_
      refine z_goto (pc' := 41) dX6_isUnder_37 (by decide) ?_
      exact z_iret dX6_isUnder_41 rfl rfl ⟨Nat.le_refl _, Nat.le_refl _⟩ ⟨_, _, _, rfl, rfl, h⟩
  · replace h := h.2 c1
    refine z_iload_n (pc' := 11) (x := x2) dX6_isUnder_10 rfl rfl ?_
    refine z_if_lt (pc' := 14) (tgt := 31) dX6_isUnder_11 rfl (by decide) (fun c3 => ?_) (fun c3 => ?_)
    · replace h := h.1 c3
      refine z_iload_n (pc' := 32) (x := x2) dX6_isUnder_31 rfl rfl ?_
      refine z_iload_n (pc' := 33) (x := x1) dX6_isUnder_32 rfl rfl ?_
      refine z_icmp_ne (pc' := 36) (tgt := 40) dX6_isUnder_33 rfl (by decide) (fun c4 => ?_) (fun c4 => ?_)
      · replace h := h.1 c4
        refine z_iconst (pc' := 41) (v := 0) dX6_isUnder_40 rfl (by decide) ?_
        exact z_iret dX6_isUnder_41 rfl rfl ⟨Nat.le_refl _, Nat.le_refl _⟩ ⟨_, _, _, rfl, rfl, h⟩
      · replace h := h.2 c4
        refine z_iconst (pc' := 37) (v := 1) dX6_isUnder_36 rfl (by decide) ?_
        refine z_goto (pc' := 41) dX6_isUnder_37 (by decide) ?_
        exact z_iret dX6_isUnder_41 rfl rfl ⟨Nat.le_refl _, Nat.le_refl _⟩ ⟨_, _, _, rfl, rfl, h⟩
    · replace h := h.2 c3
      refine z_iload_n (pc' := 15) (x := x2) dX6_isUnder_14 rfl rfl ?_
      refine z_iload_n (pc' := 16) (x := x1) dX6_isUnder_15 rfl rfl ?_
      refine z_icmp_eq (pc' := 19) (tgt := 31) dX6_isUnder_16 rfl (by decide) (fun c5 => ?_) (fun c5 => ?_)
      · replace h := h.1 c5
        refine z_iload_n (pc' := 32) (x := x2) dX6_isUnder_31 rfl rfl ?_
        refine z_iload_n (pc' := 33) (x := x1) dX6_isUnder_32 rfl rfl ?_
        refine z_icmp_ne (pc' := 36) (tgt := 40) dX6_isUnder_33 rfl (by decide) (fun c6 => ?_) (fun c6 => ?_)
        · replace h := h.1 c6
          refine z_iconst (pc' := 41) (v := 0) dX6_isUnder_40 rfl (by decide) ?_
          exact z_iret dX6_isUnder_41 rfl rfl ⟨Nat.le_refl _, Nat.le_refl _⟩ ⟨_, _, _, rfl, rfl, h⟩
        · replace h := h.2 c6
          refine z_iconst (pc' := 37) (v := 1) dX6_isUnder_36 rfl (by decide) ?_
          refine z_goto (pc' := 41) dX6_isUnder_37 (by decide) ?_
          exact z_iret dX6_isUnder_41 rfl rfl ⟨Nat.le_refl _, Nat.le_refl _⟩ ⟨_, _, _, rfl, rfl, h⟩
      · replace h := h.2 c5
        refine z_gabo (pc' := 22) dX6_isUnder_19 rfl gs_X6_25 ?_
        refine z_iload_n (pc' := 23) (x := x2) dX6_isUnder_22 rfl rfl ?_
        obtain ⟨j7, ha7, hb7, h⟩ := h
        refine z_tabo (pc' := 24) (j := j7) dX6_isUnder_23 rfl ha7 hb7 ?_
        refine z_istore_n (pc' := 25) (ls' := [none, some (.int x1), some (.int (zABO j7)), some (.int x3)]) dX6_isUnder_24 rfl (by decide) rfl ?_
        refine z_iinc (pc' := 28) (x := x3) (v := (x3 + (1 : Int32))) (ls' := [none, some (.int x1), some (.int (zABO j7)), some (.int (x3 + (1 : Int32)))]) dX6_isUnder_25 rfl rfl (by rfl) (by decide) rfl ?_
        refine z_goto (pc' := 4) dX6_isUnder_28 (by decide) ?_
        exact h
set_option maxHeartbeats 4000000 in
set_option maxRecDepth 100000 in
theorem t_X6_doAct {l : Launch} {G : zG} {d : Nat} {P : Int32 → zIM → zLM → Prop} {I : zIM} {L : zLM} {x1 : Int32} {x2 : Int32} {x3 : Int32}  (h : ((x1 < 0 → (P (0 : Int32) (xI I 27 3 (0 : Int32)) L)) ∧ (¬ x1 < 0 → ((((I 27 1) ≤ x1 → (P (0 : Int32) (xI I 27 3 (0 : Int32)) L)) ∧ (¬ (I 27 1) ≤ x1 → (((x2 < 0 → (P (0 : Int32) (xI I 27 3 (0 : Int32)) L)) ∧ (¬ x2 < 0 → (((x2 < (4 : Int32) → (∃ (d5 : Nat) (P5 : Int32 → zIM → zLM → Prop), d5 + 1 ≤ d ∧ zCi l G d5 mX6_own [.ref 27, .int x2, .int x3, .int (0 : Int32)] (xI (xI I 27 3 (0 : Int32)) 27 4 x1) L P5 ∧ ∀ (y5 : Int32) (I5 : zIM) (L5 : zLM), P5 y5 I5 L5 → (P y5 I5 L5))) ∧ (¬ x2 < (4 : Int32) → (P (0 : Int32) (xI I 27 3 (0 : Int32)) L))))))))))))) : zCi l G d mX6_doAct [.ref 27, .int x1, .int x2, .int x3] I L P := by
  refine zCn.of (ls := [some (.ref 27), some (.int x1), some (.int x2), some (.int x3)]) (by decide) (Nat.le_of_ble_eq_true rfl) rfl ?_
  refine z_aload_n (pc' := 1) (x := 27) dX6_doAct_0 rfl rfl ?_
  refine z_iconst (pc' := 2) (v := 0) dX6_doAct_1 rfl (by decide) ?_
  refine z_puti (pc' := 5) (w' := zs (xI I 27 3 (0 : Int32)) L) dX6_doAct_2 rfl fl_X6_22 rfl rfl rfl rfl rfl rfl ?_
  refine z_iload_n (pc' := 6) (x := x1) dX6_doAct_5 rfl rfl ?_
  refine z_if_lt (pc' := 9) (tgt := 26) dX6_doAct_6 rfl (by decide) (fun c1 => ?_) (fun c1 => ?_)
  · replace h := h.1 c1
    refine z_iconst (pc' := 27) (v := 0) dX6_doAct_26 rfl (by decide) ?_
    exact z_iret dX6_doAct_27 rfl rfl ⟨Nat.le_refl _, Nat.le_refl _⟩ ⟨_, _, _, rfl, rfl, h⟩
  · replace h := h.2 c1
    refine z_iload_n (pc' := 10) (x := x1) dX6_doAct_9 rfl rfl ?_
    refine z_aload_n (pc' := 11) (x := 27) dX6_doAct_10 rfl rfl ?_
    refine z_geti (pc' := 14) (x := (I 27 1)) dX6_doAct_11 rfl fl_X6_15 rfl rfl rfl ?_
    refine z_icmp_ge (pc' := 17) (tgt := 26) dX6_doAct_14 rfl (by decide) (fun c2 => ?_) (fun c2 => ?_)
    · replace h := h.1 c2
      refine z_iconst (pc' := 27) (v := 0) dX6_doAct_26 rfl (by decide) ?_
      exact z_iret dX6_doAct_27 rfl rfl ⟨Nat.le_refl _, Nat.le_refl _⟩ ⟨_, _, _, rfl, rfl, h⟩
    · replace h := h.2 c2
      refine z_iload_n (pc' := 18) (x := x2) dX6_doAct_17 rfl rfl ?_
      refine z_if_lt (pc' := 21) (tgt := 26) dX6_doAct_18 rfl (by decide) (fun c3 => ?_) (fun c3 => ?_)
      · replace h := h.1 c3
        refine z_iconst (pc' := 27) (v := 0) dX6_doAct_26 rfl (by decide) ?_
        exact z_iret dX6_doAct_27 rfl rfl ⟨Nat.le_refl _, Nat.le_refl _⟩ ⟨_, _, _, rfl, rfl, h⟩
      · replace h := h.2 c3
        refine z_iload_n (pc' := 22) (x := x2) dX6_doAct_21 rfl rfl ?_
        refine z_iconst (pc' := 23) (v := 4) dX6_doAct_22 rfl (by decide) ?_
        refine z_icmp_lt (pc' := 26) (tgt := 28) dX6_doAct_23 rfl (by decide) (fun c4 => ?_) (fun c4 => ?_)
        · replace h := h.1 c4
          refine z_aload_n (pc' := 29) (x := 27) dX6_doAct_28 rfl rfl ?_
          refine z_iload_n (pc' := 30) (x := x1) dX6_doAct_29 rfl rfl ?_
          refine z_puti (pc' := 33) (w' := zs (xI (xI I 27 3 (0 : Int32)) 27 4 x1) L) dX6_doAct_30 rfl fl_X6_28 rfl rfl rfl rfl rfl rfl ?_
          refine z_aload_n (pc' := 34) (x := 27) dX6_doAct_33 rfl rfl ?_
          refine z_iload_n (pc' := 35) (x := x2) dX6_doAct_34 rfl rfl ?_
          refine z_iload_n (pc' := 36) (x := x3) dX6_doAct_35 rfl rfl ?_
          refine z_iconst (pc' := 37) (v := 0) dX6_doAct_36 rfl (by decide) ?_
          obtain ⟨d5, P5, hd5, hC5, h⟩ := h
          refine z_callV (pc' := 40) (M' := mX6_own) (As := [.int x2, .int x3, .int (0 : Int32)]) dX6_doAct_37 rfl ml_X6_31 me_X6_own hC5 rfl (by decide) rfl rfl hd5 (Nat.le_of_ble_eq_true rfl) ⟨Nat.le_refl _, Nat.le_refl _⟩ rfl ?_
          rintro _ _ ⟨y5, I5, L5, rfl, rfl, hP5⟩
          replace h := h y5 I5 L5 hP5
          exact z_iret dX6_doAct_40 rfl rfl ⟨Nat.le_refl _, Nat.le_refl _⟩ ⟨_, _, _, rfl, rfl, h⟩
        · replace h := h.2 c4
          refine z_iconst (pc' := 27) (v := 0) dX6_doAct_26 rfl (by decide) ?_
          exact z_iret dX6_doAct_27 rfl rfl ⟨Nat.le_refl _, Nat.le_refl _⟩ ⟨_, _, _, rfl, rfl, h⟩
set_option maxHeartbeats 4000000 in
set_option maxRecDepth 100000 in
theorem t_X6_own {l : Launch} {G : zG} {d : Nat} {P : Int32 → zIM → zLM → Prop} {I : zIM} {L : zLM} {x1 : Int32} {x2 : Int32} {x3 : Int32}  (h : ∃ j1 : Nat, (I 27 4) = nI j1 ∧ j1 < 50 ∧ (∃ (d2 : Nat) (P2 : Int32 → zIM → zLM → Prop), d2 + 1 ≤ d ∧ zCi l G d2 mX6_run [.ref 27, .int (I 28 j1), .int x1, .int x2, .int x3] I L P2 ∧ ∀ (y2 : Int32) (I2 : zIM) (L2 : zLM), P2 y2 I2 L2 → (P y2 I2 L2))) : zCi l G d mX6_own [.ref 27, .int x1, .int x2, .int x3] I L P := by
  refine zCn.of (ls := [some (.ref 27), some (.int x1), some (.int x2), some (.int x3)]) (by decide) (Nat.le_of_ble_eq_true rfl) rfl ?_
  refine z_aload_n (pc' := 1) (x := 27) dX6_own_0 rfl rfl ?_
  refine z_aload_n (pc' := 2) (x := 27) dX6_own_1 rfl rfl ?_
  refine z_getr (pc' := 5) (x := 28) dX6_own_2 rfl fl_X6_11 rfl rfl rfl ?_
  refine z_aload_n (pc' := 6) (x := 27) dX6_own_5 rfl rfl ?_
  refine z_geti (pc' := 9) (x := (I 27 4)) dX6_own_6 rfl fl_X6_28 rfl rfl rfl ?_
  obtain ⟨j1, ha1, hb1, h⟩ := h
  refine z_iald (pc' := 10) (x := (I 28 j1)) (j := j1) dX6_own_9 rfl rfl (by decide) ha1 hb1 rfl ?_
  refine z_iload_n (pc' := 11) (x := x1) dX6_own_10 rfl rfl ?_
  refine z_iload_n (pc' := 12) (x := x2) dX6_own_11 rfl rfl ?_
  refine z_iload_n (pc' := 13) (x := x3) dX6_own_12 rfl rfl ?_
  obtain ⟨d2, P2, hd2, hC2, h⟩ := h
  refine z_callV (pc' := 16) (M' := mX6_run) (As := [.int (I 28 j1), .int x1, .int x2, .int x3]) dX6_own_13 rfl ml_X6_35 me_X6_run hC2 rfl (by decide) rfl rfl hd2 (Nat.le_of_ble_eq_true rfl) ⟨Nat.le_refl _, Nat.le_refl _⟩ rfl ?_
  rintro _ _ ⟨y2, I2, L2, rfl, rfl, hP2⟩
  replace h := h y2 I2 L2 hP2
  exact z_iret dX6_own_16 rfl rfl ⟨Nat.le_refl _, Nat.le_refl _⟩ ⟨_, _, _, rfl, rfl, h⟩
set_option maxHeartbeats 4000000 in
set_option maxRecDepth 100000 in
theorem t_X6_run {l : Launch} {G : zG} {d : Nat} {P : Int32 → zIM → zLM → Prop} {I : zIM} {L : zLM} {x1 : Int32} {x2 : Int32} {x3 : Int32} {x4 : Int32}  (h : K_X6_run_6 l G d P I L x2 x3 x4 x1 (0 : Int32)) : zCi l G d mX6_run [.ref 27, .int x1, .int x2, .int x3, .int x4] I L P := by
  refine zCn.of (ls := [some (.ref 27), some (.int x1), some (.int x2), some (.int x3), some (.int x4), none, none]) (by decide) (Nat.le_of_ble_eq_true rfl) rfl ?_
  refine z_iload_n (pc' := 1) (x := x1) dX6_run_0 rfl rfl ?_
  refine z_istore (pc' := 3) (ls' := [some (.ref 27), some (.int x1), some (.int x2), some (.int x3), some (.int x4), some (.int x1), none]) dX6_run_1 rfl (by decide) rfl ?_
  refine z_iconst (pc' := 4) (v := 0) dX6_run_3 rfl (by decide) ?_
  refine z_istore (pc' := 6) (ls' := [some (.ref 27), some (.int x1), some (.int x2), some (.int x3), some (.int x4), some (.int x1), some (.int (0 : Int32))]) dX6_run_4 rfl (by decide) rfl ?_
  refine z_sub (pc' := 0) [some (.ref 27), none, some (.int x2), some (.int x3), some (.int x4), some (.int x1), some (.int (0 : Int32))] (zsub_s (zsub_n (zsub_s (zsub_s (zsub_s (zsub_s (zsub_s zsub_nil))))))) ?_
  exact h
set_option maxHeartbeats 4000000 in
set_option maxRecDepth 100000 in
theorem t_X6_run_6 {l : Launch} {G : zG} {d : Nat} {P : Int32 → zIM → zLM → Prop} {I : zIM} {L : zLM} {x2 : Int32} {x3 : Int32} {x4 : Int32} {x5 : Int32} {x6 : Int32}   (h : (((8 : Int32) ≤ x6 → (K_X6_run_45 l G d P I L x2 x3 x4 x5)) ∧ (¬ (8 : Int32) ≤ x6 → (((x5 ≤ 0 → (K_X6_run_45 l G d P I L x2 x3 x4 x5)) ∧ (¬ x5 ≤ 0 → (∃ j3 : Nat, ((x5 * (4 : Int32)) + x2) = nI j3 ∧ j3 < 32 ∧ (((¬ (zOWN j3) = 0 → (K_X6_run_45 l G d P I L x2 x3 x4 x5)) ∧ ((zOWN j3) = 0 → (∃ j5 : Nat, x5 = nI j5 ∧ j5 < 8 ∧ (K_X6_run_6 l G d P I L x2 x3 x4 (zABO j5) (x6 + (1 : Int32)))))))))))))) : K_X6_run_6 l G d P I L x2 x3 x4 x5 x6  := by
  refine z_iload (pc' := 8) (x := x6) dX6_run_6 rfl rfl ?_
  refine z_bipush (pc' := 10) (v := 8) dX6_run_8 rfl (by decide) ?_
  refine z_icmp_ge (pc' := 13) (tgt := 45) dX6_run_10 rfl (by decide) (fun c1 => ?_) (fun c1 => ?_)
  · replace h := h.1 c1
    refine z_sub (pc' := 0) [some (.ref 27), none, some (.int x2), some (.int x3), some (.int x4), some (.int x5), none] (zsub_s (zsub_n (zsub_s (zsub_s (zsub_s (zsub_s (zsub_n zsub_nil))))))) ?_
    exact h
  · replace h := h.2 c1
    refine z_iload (pc' := 15) (x := x5) dX6_run_13 rfl rfl ?_
    refine z_if_le (pc' := 18) (tgt := 45) dX6_run_15 rfl (by decide) (fun c2 => ?_) (fun c2 => ?_)
    · replace h := h.1 c2
      refine z_sub (pc' := 0) [some (.ref 27), none, some (.int x2), some (.int x3), some (.int x4), some (.int x5), none] (zsub_s (zsub_n (zsub_s (zsub_s (zsub_s (zsub_s (zsub_n zsub_nil))))))) ?_
      exact h
    · replace h := h.2 c2
      refine z_gown (pc' := 21) dX6_run_18 rfl gs_X6_39 ?_
      refine z_iload (pc' := 23) (x := x5) dX6_run_21 rfl rfl ?_
      refine z_iconst (pc' := 24) (v := 4) dX6_run_23 rfl (by decide) ?_
      refine z_imul (pc' := 25) dX6_run_24 rfl ?_
      refine z_iload_n (pc' := 26) (x := x2) dX6_run_25 rfl rfl ?_
      refine z_iadd (pc' := 27) dX6_run_26 rfl ?_
      obtain ⟨j3, ha3, hb3, h⟩ := h
      refine z_town (pc' := 28) (j := j3) dX6_run_27 rfl ha3 hb3 ?_
      refine z_if_ne (pc' := 31) (tgt := 45) dX6_run_28 rfl (by decide) (fun c4 => ?_) (fun c4 => ?_)
      · replace h := h.1 c4
        refine z_sub (pc' := 0) [some (.ref 27), none, some (.int x2), some (.int x3), some (.int x4), some (.int x5), none] (zsub_s (zsub_n (zsub_s (zsub_s (zsub_s (zsub_s (zsub_n zsub_nil))))))) ?_
        exact h
      · replace h := h.2 c4
        refine z_gabo (pc' := 34) dX6_run_31 rfl gs_X6_25 ?_
        refine z_iload (pc' := 36) (x := x5) dX6_run_34 rfl rfl ?_
        obtain ⟨j5, ha5, hb5, h⟩ := h
        refine z_tabo (pc' := 37) (j := j5) dX6_run_36 rfl ha5 hb5 ?_
        refine z_istore (pc' := 39) (ls' := [some (.ref 27), none, some (.int x2), some (.int x3), some (.int x4), some (.int (zABO j5)), some (.int x6)]) dX6_run_37 rfl (by decide) rfl ?_
        refine z_iinc (pc' := 42) (x := x6) (v := (x6 + (1 : Int32))) (ls' := [some (.ref 27), none, some (.int x2), some (.int x3), some (.int x4), some (.int (zABO j5)), some (.int (x6 + (1 : Int32)))]) dX6_run_39 rfl rfl (by rfl) (by decide) rfl ?_
        refine z_goto (pc' := 6) dX6_run_42 (by decide) ?_
        exact h
set_option maxHeartbeats 4000000 in
set_option maxRecDepth 100000 in
theorem t_X6_run_45 {l : Launch} {G : zG} {d : Nat} {P : Int32 → zIM → zLM → Prop} {I : zIM} {L : zLM} {x2 : Int32} {x3 : Int32} {x4 : Int32} {x5 : Int32}   (h : ((x5 < 0 → (K_X6_run_57 l G d P I L)) ∧ (¬ x5 < 0 → (((x4 ≤ (40 : Int32) → (∃ j3 : Nat, ((x5 * (4 : Int32)) + x2) = nI j3 ∧ j3 < 32 ∧ ((((24 : Int32) ≤ (I 27 3) → (K_X6_run_91 l G d P I L x3 x4 x5 (zOWN j3))) ∧ (¬ (24 : Int32) ≤ (I 27 3) → (∃ j5 : Nat, (I 27 3) = nI j5 ∧ j5 < 24 ∧ (K_X6_run_91 l G d P (xI I 29 j5 (zOWN j3)) L x3 x4 x5 (zOWN j3)))))))) ∧ (¬ x4 ≤ (40 : Int32) → (K_X6_run_57 l G d P I L))))))) : K_X6_run_45 l G d P I L x2 x3 x4 x5  := by
  refine z_iload (pc' := 47) (x := x5) dX6_run_45 rfl rfl ?_
  refine z_if_lt (pc' := 50) (tgt := 57) dX6_run_47 rfl (by decide) (fun c1 => ?_) (fun c1 => ?_)
  · replace h := h.1 c1
    refine z_sub (pc' := 0) [none, none, none, none, none, none, none] (zsub_n (zsub_n (zsub_n (zsub_n (zsub_n (zsub_n (zsub_n zsub_nil))))))) ?_
    exact h
  · replace h := h.2 c1
    refine z_iload (pc' := 52) (x := x4) dX6_run_50 rfl rfl ?_
    refine z_bipush (pc' := 54) (v := 40) dX6_run_52 rfl (by decide) ?_
    refine z_icmp_le (pc' := 57) (tgt := 59) dX6_run_54 rfl (by decide) (fun c2 => ?_) (fun c2 => ?_)
    · replace h := h.1 c2
      refine z_gown (pc' := 62) dX6_run_59 rfl gs_X6_39 ?_
      refine z_iload (pc' := 64) (x := x5) dX6_run_62 rfl rfl ?_
      refine z_iconst (pc' := 65) (v := 4) dX6_run_64 rfl (by decide) ?_
      refine z_imul (pc' := 66) dX6_run_65 rfl ?_
      refine z_iload_n (pc' := 67) (x := x2) dX6_run_66 rfl rfl ?_
      refine z_iadd (pc' := 68) dX6_run_67 rfl ?_
      obtain ⟨j3, ha3, hb3, h⟩ := h
      refine z_town (pc' := 69) (j := j3) dX6_run_68 rfl ha3 hb3 ?_
      refine z_istore (pc' := 71) (ls' := [some (.ref 27), none, some (.int x2), some (.int x3), some (.int x4), some (.int x5), some (.int (zOWN j3))]) dX6_run_69 rfl (by decide) rfl ?_
      refine z_aload_n (pc' := 72) (x := 27) dX6_run_71 rfl rfl ?_
      refine z_geti (pc' := 75) (x := (I 27 3)) dX6_run_72 rfl fl_X6_22 rfl rfl rfl ?_
      refine z_bipush (pc' := 77) (v := 24) dX6_run_75 rfl (by decide) ?_
      refine z_icmp_ge (pc' := 80) (tgt := 91) dX6_run_77 rfl (by decide) (fun c4 => ?_) (fun c4 => ?_)
      · replace h := h.1 c4
        refine z_sub (pc' := 0) [some (.ref 27), none, none, some (.int x3), some (.int x4), some (.int x5), some (.int (zOWN j3))] (zsub_s (zsub_n (zsub_n (zsub_s (zsub_s (zsub_s (zsub_s zsub_nil))))))) ?_
        exact h
      · replace h := h.2 c4
        refine z_aload_n (pc' := 81) (x := 27) dX6_run_80 rfl rfl ?_
        refine z_getr (pc' := 84) (x := 29) dX6_run_81 rfl fl_X6_19 rfl rfl rfl ?_
        refine z_aload_n (pc' := 85) (x := 27) dX6_run_84 rfl rfl ?_
        refine z_geti (pc' := 88) (x := (I 27 3)) dX6_run_85 rfl fl_X6_22 rfl rfl rfl ?_
        refine z_iload (pc' := 90) (x := (zOWN j3)) dX6_run_88 rfl rfl ?_
        obtain ⟨j5, ha5, hb5, h⟩ := h
        refine z_iast (pc' := 91) (j := j5) (w' := zs (xI I 29 j5 (zOWN j3)) L) dX6_run_90 rfl rfl (by decide) ha5 hb5 rfl ?_
        refine z_sub (pc' := 0) [some (.ref 27), none, none, some (.int x3), some (.int x4), some (.int x5), some (.int (zOWN j3))] (zsub_s (zsub_n (zsub_n (zsub_s (zsub_s (zsub_s (zsub_s zsub_nil))))))) ?_
        exact h
    · replace h := h.2 c2
      refine z_sub (pc' := 0) [none, none, none, none, none, none, none] (zsub_n (zsub_n (zsub_n (zsub_n (zsub_n (zsub_n (zsub_n zsub_nil))))))) ?_
      exact h
set_option maxHeartbeats 4000000 in
set_option maxRecDepth 100000 in
theorem t_X6_run_57 {l : Launch} {G : zG} {d : Nat} {P : Int32 → zIM → zLM → Prop} {I : zIM} {L : zLM}    (h : P (0 : Int32) I L) : K_X6_run_57 l G d P I L   := by
  refine z_iconst (pc' := 58) (v := 0) dX6_run_57 rfl (by decide) ?_
  exact z_iret dX6_run_58 rfl rfl ⟨Nat.le_refl _, Nat.le_refl _⟩ ⟨_, _, _, rfl, rfl, h⟩
set_option maxHeartbeats 4000000 in
set_option maxRecDepth 100000 in
theorem t_X6_run_91 {l : Launch} {G : zG} {d : Nat} {P : Int32 → zIM → zLM → Prop} {I : zIM} {L : zLM} {x3 : Int32} {x4 : Int32} {x5 : Int32} {x6 : Int32}   (h : ∃ j1 : Nat, x5 = nI j1 ∧ j1 < 8 ∧ (∃ (d2 : Nat) (P2 : Int32 → zIM → zLM → Prop), d2 + 1 ≤ d ∧ zCi l G d2 mX6_runBody [.ref 27, .int x6, .int (zABO j1), .int x3, .int (x4 + (1 : Int32))] (xI I 27 3 ((I 27 3) + (1 : Int32))) L P2 ∧ ∀ (y2 : Int32) (I2 : zIM) (L2 : zLM), P2 y2 I2 L2 → (P y2 I2 L2))) : K_X6_run_91 l G d P I L x3 x4 x5 x6  := by
  refine z_aload_n (pc' := 92) (x := 27) dX6_run_91 rfl rfl ?_
  refine z_dup (pc' := 93) dX6_run_92 rfl rfl ?_
  refine z_geti (pc' := 96) (x := (I 27 3)) dX6_run_93 rfl fl_X6_22 rfl rfl rfl ?_
  refine z_iconst (pc' := 97) (v := 1) dX6_run_96 rfl (by decide) ?_
  refine z_iadd (pc' := 98) dX6_run_97 rfl ?_
  refine z_puti (pc' := 101) (w' := zs (xI I 27 3 ((I 27 3) + (1 : Int32))) L) dX6_run_98 rfl fl_X6_22 rfl rfl rfl rfl rfl rfl ?_
  refine z_aload_n (pc' := 102) (x := 27) dX6_run_101 rfl rfl ?_
  refine z_iload (pc' := 104) (x := x6) dX6_run_102 rfl rfl ?_
  refine z_gabo (pc' := 107) dX6_run_104 rfl gs_X6_25 ?_
  refine z_iload (pc' := 109) (x := x5) dX6_run_107 rfl rfl ?_
  obtain ⟨j1, ha1, hb1, h⟩ := h
  refine z_tabo (pc' := 110) (j := j1) dX6_run_109 rfl ha1 hb1 ?_
  refine z_iload_n (pc' := 111) (x := x3) dX6_run_110 rfl rfl ?_
  refine z_iload (pc' := 113) (x := x4) dX6_run_111 rfl rfl ?_
  refine z_iconst (pc' := 114) (v := 1) dX6_run_113 rfl (by decide) ?_
  refine z_iadd (pc' := 115) dX6_run_114 rfl ?_
  obtain ⟨d2, P2, hd2, hC2, h⟩ := h
  refine z_callV (pc' := 118) (M' := mX6_runBody) (As := [.int x6, .int (zABO j1), .int x3, .int (x4 + (1 : Int32))]) dX6_run_115 rfl ml_X6_42 me_X6_runBody hC2 rfl (by decide) rfl rfl hd2 (Nat.le_of_ble_eq_true rfl) ⟨Nat.le_refl _, Nat.le_refl _⟩ rfl ?_
  rintro _ _ ⟨y2, I2, L2, rfl, rfl, hP2⟩
  replace h := h y2 I2 L2 hP2
  exact z_iret dX6_run_118 rfl rfl ⟨Nat.le_refl _, Nat.le_refl _⟩ ⟨_, _, _, rfl, rfl, h⟩
set_option maxHeartbeats 4000000 in
set_option maxRecDepth 100000 in
theorem t_X6_runBody {l : Launch} {G : zG} {d : Nat} {P : Int32 → zIM → zLM → Prop} {I : zIM} {L : zLM} {x1 : Int32} {x2 : Int32} {x3 : Int32} {x4 : Int32}  (h : ((x1 = (1 : Int32) → (P (x3 + (I 27 4)) I L)) ∧ (x1 = (2 : Int32) → (∃ (d2 : Nat) (P2 : Int32 → zIM → zLM → Prop), d2 + 1 ≤ d ∧ zCi l G d2 mX6_own [.ref 27, .int (1 : Int32), .int x3, .int x4] I L P2 ∧ ∀ (y2 : Int32) (I2 : zIM) (L2 : zLM), P2 y2 I2 L2 → (∃ (d3 : Nat) (P3 : Int32 → zIM → zLM → Prop), d3 + 1 ≤ d ∧ zCi l G d3 mX6_own [.ref 27, .int (2 : Int32), .int (1 : Int32), .int x4] I2 L2 P3 ∧ ∀ (y3 : Int32) (I3 : zIM) (L3 : zLM), P3 y3 I3 L3 → (P (y2 - y3) I3 L3)))) ∧ (x1 = (10 : Int32) → (∃ (d4 : Nat) (P4 : Int32 → zIM → zLM → Prop), d4 + 1 ≤ d ∧ zCi l G d4 mX6_own [.ref 27, .int (0 : Int32), .int x3, .int x4] I L P4 ∧ ∀ (y4 : Int32) (I4 : zIM) (L4 : zLM), P4 y4 I4 L4 → (P (y4 * (2 : Int32)) I4 L4))) ∧ (x1 = (11 : Int32) → (P (x3 ^^^ (I 27 4)) I L)) ∧ (x1 = (20 : Int32) → (∃ (d5 : Nat) (P5 : Int32 → zIM → zLM → Prop), d5 + 1 ≤ d ∧ zCi l G d5 mX6_run [.ref 27, .int x2, .int (0 : Int32), .int x3, .int x4] I L P5 ∧ ∀ (y5 : Int32) (I5 : zIM) (L5 : zLM), P5 y5 I5 L5 → (P (y5 + (3 : Int32)) I5 L5))) ∧ (x1 = (30 : Int32) → (∃ (d6 : Nat) (P6 : Int32 → zIM → zLM → Prop), d6 + 1 ≤ d ∧ zCi l G d6 mX6_run [.ref 27, .int x2, .int (1 : Int32), .int x3, .int x4] I L P6 ∧ ∀ (y6 : Int32) (I6 : zIM) (L6 : zLM), P6 y6 I6 L6 → (P (-y6) I6 L6))) ∧ (x1 = (40 : Int32) → (∃ (d7 : Nat) (P7 : Int32 → zIM → zLM → Prop), d7 + 1 ≤ d ∧ zCi l G d7 mX6_run [.ref 27, .int x2, .int (2 : Int32), .int x3, .int x4] I L P7 ∧ ∀ (y7 : Int32) (I7 : zIM) (L7 : zLM), P7 y7 I7 L7 → (P (y7 * (3 : Int32)) I7 L7))) ∧ (x1 = (41 : Int32) → (∃ (d8 : Nat) (P8 : Int32 → zIM → zLM → Prop), d8 + 1 ≤ d ∧ zCi l G d8 mX6_run [.ref 27, .int x2, .int (1 : Int32), .int (x3 + (1 : Int32)), .int x4] I L P8 ∧ ∀ (y8 : Int32) (I8 : zIM) (L8 : zLM), P8 y8 I8 L8 → (P y8 I8 L8))) ∧ (x1 = (50 : Int32) → (∃ (d9 : Nat) (P9 : Int32 → zIM → zLM → Prop), d9 + 1 ≤ d ∧ zCi l G d9 mX6_run [.ref 27, .int x2, .int (2 : Int32), .int x3, .int x4] I L P9 ∧ ∀ (y9 : Int32) (I9 : zIM) (L9 : zLM), P9 y9 I9 L9 → (∃ (d10 : Nat) (P10 : Int32 → zIM → zLM → Prop), d10 + 1 ≤ d ∧ zCi l G d10 mX6_own [.ref 27, .int (0 : Int32), .int (2 : Int32), .int x4] I9 L9 P10 ∧ ∀ (y10 : Int32) (I10 : zIM) (L10 : zLM), P10 y10 I10 L10 → (P (y9 - y10) I10 L10)))) ∧ (x1 = (60 : Int32) → (∃ (d11 : Nat) (P11 : Int32 → zIM → zLM → Prop), d11 + 1 ≤ d ∧ zCi l G d11 mX6_run [.ref 27, .int x2, .int (3 : Int32), .int x3, .int x4] I L P11 ∧ ∀ (y11 : Int32) (I11 : zIM) (L11 : zLM), P11 y11 I11 L11 → (P (y11 ^^^ (5 : Int32)) I11 L11))) ∧ (x1 = (70 : Int32) → (∃ (d12 : Nat) (P12 : Int32 → zIM → zLM → Prop), d12 + 1 ≤ d ∧ zCi l G d12 mX6_run [.ref 27, .int x2, .int (0 : Int32), .int x3, .int x4] I L P12 ∧ ∀ (y12 : Int32) (I12 : zIM) (L12 : zLM), P12 y12 I12 L12 → (P (y12 * (2 : Int32)) I12 L12))) ∧ (x1 = (80 : Int32) → (∃ (d13 : Nat) (P13 : Int32 → zIM → zLM → Prop), d13 + 1 ≤ d ∧ zCi l G d13 mX6_run [.ref 27, .int x2, .int (1 : Int32), .int x3, .int x4] I L P13 ∧ ∀ (y13 : Int32) (I13 : zIM) (L13 : zLM), P13 y13 I13 L13 → (∃ (d14 : Nat) (P14 : Int32 → zIM → zLM → Prop), d14 + 1 ≤ d ∧ zCi l G d14 mX6_own [.ref 27, .int (2 : Int32), .int (2 : Int32), .int x4] I13 L13 P14 ∧ ∀ (y14 : Int32) (I14 : zIM) (L14 : zLM), P14 y14 I14 L14 → (P (y13 + y14) I14 L14)))) ∧ (¬ x1 = (1 : Int32) → ¬ x1 = (2 : Int32) → ¬ x1 = (10 : Int32) → ¬ x1 = (11 : Int32) → ¬ x1 = (20 : Int32) → ¬ x1 = (30 : Int32) → ¬ x1 = (40 : Int32) → ¬ x1 = (41 : Int32) → ¬ x1 = (50 : Int32) → ¬ x1 = (60 : Int32) → ¬ x1 = (70 : Int32) → ¬ x1 = (80 : Int32) → (∃ (d15 : Nat) (P15 : Int32 → zIM → zLM → Prop), d15 + 1 ≤ d ∧ zCi l G d15 mX6_run [.ref 27, .int x2, .int (3 : Int32), .int x3, .int x4] I L P15 ∧ ∀ (y15 : Int32) (I15 : zIM) (L15 : zLM), P15 y15 I15 L15 → (P (y15 - (1 : Int32)) I15 L15))))) : zCi l G d mX6_runBody [.ref 27, .int x1, .int x2, .int x3, .int x4] I L P := by
  refine zCn.of (ls := [some (.ref 27), some (.int x1), some (.int x2), some (.int x3), some (.int x4)]) (by decide) (Nat.le_of_ble_eq_true rfl) rfl ?_
  refine z_iload_n (pc' := 1) (x := x1) dX6_runBody_0 rfl rfl ?_
  by_cases c1_0 : x1 = (1 : Int32)
  · replace h := h.1 c1_0
    refine z_lookup (pc' := 108) dX6_runBody_1 (by decide) (by rw [c1_0]; decide) ?_
    refine z_iload_n (pc' := 109) (x := x3) dX6_runBody_108 rfl rfl ?_
    refine z_aload_n (pc' := 110) (x := 27) dX6_runBody_109 rfl rfl ?_
    refine z_geti (pc' := 113) (x := (I 27 4)) dX6_runBody_110 rfl fl_X6_28 rfl rfl rfl ?_
    refine z_iadd (pc' := 114) dX6_runBody_113 rfl ?_
    exact z_iret dX6_runBody_114 rfl rfl ⟨Nat.le_refl _, Nat.le_refl _⟩ ⟨_, _, _, rfl, rfl, h⟩
  by_cases c1_1 : x1 = (2 : Int32)
  · replace h := h.2.1 c1_1
    refine z_lookup (pc' := 115) dX6_runBody_1 (by decide) (by rw [c1_1]; decide) ?_
    refine z_aload_n (pc' := 116) (x := 27) dX6_runBody_115 rfl rfl ?_
    refine z_iconst (pc' := 117) (v := 1) dX6_runBody_116 rfl (by decide) ?_
    refine z_iload_n (pc' := 118) (x := x3) dX6_runBody_117 rfl rfl ?_
    refine z_iload (pc' := 120) (x := x4) dX6_runBody_118 rfl rfl ?_
    obtain ⟨d2, P2, hd2, hC2, h⟩ := h
    refine z_callV (pc' := 123) (M' := mX6_own) (As := [.int (1 : Int32), .int x3, .int x4]) dX6_runBody_120 rfl ml_X6_31 me_X6_own hC2 rfl (by decide) rfl rfl hd2 (Nat.le_of_ble_eq_true rfl) ⟨Nat.le_refl _, Nat.le_refl _⟩ rfl ?_
    rintro _ _ ⟨y2, I2, L2, rfl, rfl, hP2⟩
    replace h := h y2 I2 L2 hP2
    refine z_aload_n (pc' := 124) (x := 27) dX6_runBody_123 rfl rfl ?_
    refine z_iconst (pc' := 125) (v := 2) dX6_runBody_124 rfl (by decide) ?_
    refine z_iconst (pc' := 126) (v := 1) dX6_runBody_125 rfl (by decide) ?_
    refine z_iload (pc' := 128) (x := x4) dX6_runBody_126 rfl rfl ?_
    obtain ⟨d3, P3, hd3, hC3, h⟩ := h
    refine z_callV (pc' := 131) (M' := mX6_own) (As := [.int (2 : Int32), .int (1 : Int32), .int x4]) dX6_runBody_128 rfl ml_X6_31 me_X6_own hC3 rfl (by decide) rfl rfl hd3 (Nat.le_of_ble_eq_true rfl) ⟨Nat.le_refl _, Nat.le_refl _⟩ rfl ?_
    rintro _ _ ⟨y3, I3, L3, rfl, rfl, hP3⟩
    replace h := h y3 I3 L3 hP3
    refine z_isub (pc' := 132) dX6_runBody_131 rfl ?_
    exact z_iret dX6_runBody_132 rfl rfl ⟨Nat.le_refl _, Nat.le_refl _⟩ ⟨_, _, _, rfl, rfl, h⟩
  by_cases c1_2 : x1 = (10 : Int32)
  · replace h := h.2.2.1 c1_2
    refine z_lookup (pc' := 133) dX6_runBody_1 (by decide) (by rw [c1_2]; decide) ?_
    refine z_aload_n (pc' := 134) (x := 27) dX6_runBody_133 rfl rfl ?_
    refine z_iconst (pc' := 135) (v := 0) dX6_runBody_134 rfl (by decide) ?_
    refine z_iload_n (pc' := 136) (x := x3) dX6_runBody_135 rfl rfl ?_
    refine z_iload (pc' := 138) (x := x4) dX6_runBody_136 rfl rfl ?_
    obtain ⟨d4, P4, hd4, hC4, h⟩ := h
    refine z_callV (pc' := 141) (M' := mX6_own) (As := [.int (0 : Int32), .int x3, .int x4]) dX6_runBody_138 rfl ml_X6_31 me_X6_own hC4 rfl (by decide) rfl rfl hd4 (Nat.le_of_ble_eq_true rfl) ⟨Nat.le_refl _, Nat.le_refl _⟩ rfl ?_
    rintro _ _ ⟨y4, I4, L4, rfl, rfl, hP4⟩
    replace h := h y4 I4 L4 hP4
    refine z_iconst (pc' := 142) (v := 2) dX6_runBody_141 rfl (by decide) ?_
    refine z_imul (pc' := 143) dX6_runBody_142 rfl ?_
    exact z_iret dX6_runBody_143 rfl rfl ⟨Nat.le_refl _, Nat.le_refl _⟩ ⟨_, _, _, rfl, rfl, h⟩
  by_cases c1_3 : x1 = (11 : Int32)
  · replace h := h.2.2.2.1 c1_3
    refine z_lookup (pc' := 144) dX6_runBody_1 (by decide) (by rw [c1_3]; decide) ?_
    refine z_iload_n (pc' := 145) (x := x3) dX6_runBody_144 rfl rfl ?_
    refine z_aload_n (pc' := 146) (x := 27) dX6_runBody_145 rfl rfl ?_
    refine z_geti (pc' := 149) (x := (I 27 4)) dX6_runBody_146 rfl fl_X6_28 rfl rfl rfl ?_
    refine z_ixor (pc' := 150) dX6_runBody_149 rfl ?_
    exact z_iret dX6_runBody_150 rfl rfl ⟨Nat.le_refl _, Nat.le_refl _⟩ ⟨_, _, _, rfl, rfl, h⟩
  by_cases c1_4 : x1 = (20 : Int32)
  · replace h := h.2.2.2.2.1 c1_4
    refine z_lookup (pc' := 151) dX6_runBody_1 (by decide) (by rw [c1_4]; decide) ?_
    refine z_aload_n (pc' := 152) (x := 27) dX6_runBody_151 rfl rfl ?_
    refine z_iload_n (pc' := 153) (x := x2) dX6_runBody_152 rfl rfl ?_
    refine z_iconst (pc' := 154) (v := 0) dX6_runBody_153 rfl (by decide) ?_
    refine z_iload_n (pc' := 155) (x := x3) dX6_runBody_154 rfl rfl ?_
    refine z_iload (pc' := 157) (x := x4) dX6_runBody_155 rfl rfl ?_
    obtain ⟨d5, P5, hd5, hC5, h⟩ := h
    refine z_callV (pc' := 160) (M' := mX6_run) (As := [.int x2, .int (0 : Int32), .int x3, .int x4]) dX6_runBody_157 rfl ml_X6_35 me_X6_run hC5 rfl (by decide) rfl rfl hd5 (Nat.le_of_ble_eq_true rfl) ⟨Nat.le_refl _, Nat.le_refl _⟩ rfl ?_
    rintro _ _ ⟨y5, I5, L5, rfl, rfl, hP5⟩
    replace h := h y5 I5 L5 hP5
    refine z_iconst (pc' := 161) (v := 3) dX6_runBody_160 rfl (by decide) ?_
    refine z_iadd (pc' := 162) dX6_runBody_161 rfl ?_
    exact z_iret dX6_runBody_162 rfl rfl ⟨Nat.le_refl _, Nat.le_refl _⟩ ⟨_, _, _, rfl, rfl, h⟩
  by_cases c1_5 : x1 = (30 : Int32)
  · replace h := h.2.2.2.2.2.1 c1_5
    refine z_lookup (pc' := 163) dX6_runBody_1 (by decide) (by rw [c1_5]; decide) ?_
    refine z_aload_n (pc' := 164) (x := 27) dX6_runBody_163 rfl rfl ?_
    refine z_iload_n (pc' := 165) (x := x2) dX6_runBody_164 rfl rfl ?_
    refine z_iconst (pc' := 166) (v := 1) dX6_runBody_165 rfl (by decide) ?_
    refine z_iload_n (pc' := 167) (x := x3) dX6_runBody_166 rfl rfl ?_
    refine z_iload (pc' := 169) (x := x4) dX6_runBody_167 rfl rfl ?_
    obtain ⟨d6, P6, hd6, hC6, h⟩ := h
    refine z_callV (pc' := 172) (M' := mX6_run) (As := [.int x2, .int (1 : Int32), .int x3, .int x4]) dX6_runBody_169 rfl ml_X6_35 me_X6_run hC6 rfl (by decide) rfl rfl hd6 (Nat.le_of_ble_eq_true rfl) ⟨Nat.le_refl _, Nat.le_refl _⟩ rfl ?_
    rintro _ _ ⟨y6, I6, L6, rfl, rfl, hP6⟩
    replace h := h y6 I6 L6 hP6
    refine z_ineg (pc' := 173) dX6_runBody_172 rfl ?_
    exact z_iret dX6_runBody_173 rfl rfl ⟨Nat.le_refl _, Nat.le_refl _⟩ ⟨_, _, _, rfl, rfl, h⟩
  by_cases c1_6 : x1 = (40 : Int32)
  · replace h := h.2.2.2.2.2.2.1 c1_6
    refine z_lookup (pc' := 174) dX6_runBody_1 (by decide) (by rw [c1_6]; decide) ?_
    refine z_aload_n (pc' := 175) (x := 27) dX6_runBody_174 rfl rfl ?_
    refine z_iload_n (pc' := 176) (x := x2) dX6_runBody_175 rfl rfl ?_
    refine z_iconst (pc' := 177) (v := 2) dX6_runBody_176 rfl (by decide) ?_
    refine z_iload_n (pc' := 178) (x := x3) dX6_runBody_177 rfl rfl ?_
    refine z_iload (pc' := 180) (x := x4) dX6_runBody_178 rfl rfl ?_
    obtain ⟨d7, P7, hd7, hC7, h⟩ := h
    refine z_callV (pc' := 183) (M' := mX6_run) (As := [.int x2, .int (2 : Int32), .int x3, .int x4]) dX6_runBody_180 rfl ml_X6_35 me_X6_run hC7 rfl (by decide) rfl rfl hd7 (Nat.le_of_ble_eq_true rfl) ⟨Nat.le_refl _, Nat.le_refl _⟩ rfl ?_
    rintro _ _ ⟨y7, I7, L7, rfl, rfl, hP7⟩
    replace h := h y7 I7 L7 hP7
    refine z_iconst (pc' := 184) (v := 3) dX6_runBody_183 rfl (by decide) ?_
    refine z_imul (pc' := 185) dX6_runBody_184 rfl ?_
    exact z_iret dX6_runBody_185 rfl rfl ⟨Nat.le_refl _, Nat.le_refl _⟩ ⟨_, _, _, rfl, rfl, h⟩
  by_cases c1_7 : x1 = (41 : Int32)
  · replace h := h.2.2.2.2.2.2.2.1 c1_7
    refine z_lookup (pc' := 186) dX6_runBody_1 (by decide) (by rw [c1_7]; decide) ?_
    refine z_aload_n (pc' := 187) (x := 27) dX6_runBody_186 rfl rfl ?_
    refine z_iload_n (pc' := 188) (x := x2) dX6_runBody_187 rfl rfl ?_
    refine z_iconst (pc' := 189) (v := 1) dX6_runBody_188 rfl (by decide) ?_
    refine z_iload_n (pc' := 190) (x := x3) dX6_runBody_189 rfl rfl ?_
    refine z_iconst (pc' := 191) (v := 1) dX6_runBody_190 rfl (by decide) ?_
    refine z_iadd (pc' := 192) dX6_runBody_191 rfl ?_
    refine z_iload (pc' := 194) (x := x4) dX6_runBody_192 rfl rfl ?_
    obtain ⟨d8, P8, hd8, hC8, h⟩ := h
    refine z_callV (pc' := 197) (M' := mX6_run) (As := [.int x2, .int (1 : Int32), .int (x3 + (1 : Int32)), .int x4]) dX6_runBody_194 rfl ml_X6_35 me_X6_run hC8 rfl (by decide) rfl rfl hd8 (Nat.le_of_ble_eq_true rfl) ⟨Nat.le_refl _, Nat.le_refl _⟩ rfl ?_
    rintro _ _ ⟨y8, I8, L8, rfl, rfl, hP8⟩
    replace h := h y8 I8 L8 hP8
    exact z_iret dX6_runBody_197 rfl rfl ⟨Nat.le_refl _, Nat.le_refl _⟩ ⟨_, _, _, rfl, rfl, h⟩
  by_cases c1_8 : x1 = (50 : Int32)
  · replace h := h.2.2.2.2.2.2.2.2.1 c1_8
    refine z_lookup (pc' := 198) dX6_runBody_1 (by decide) (by rw [c1_8]; decide) ?_
    refine z_aload_n (pc' := 199) (x := 27) dX6_runBody_198 rfl rfl ?_
    refine z_iload_n (pc' := 200) (x := x2) dX6_runBody_199 rfl rfl ?_
    refine z_iconst (pc' := 201) (v := 2) dX6_runBody_200 rfl (by decide) ?_
    refine z_iload_n (pc' := 202) (x := x3) dX6_runBody_201 rfl rfl ?_
    refine z_iload (pc' := 204) (x := x4) dX6_runBody_202 rfl rfl ?_
    obtain ⟨d9, P9, hd9, hC9, h⟩ := h
    refine z_callV (pc' := 207) (M' := mX6_run) (As := [.int x2, .int (2 : Int32), .int x3, .int x4]) dX6_runBody_204 rfl ml_X6_35 me_X6_run hC9 rfl (by decide) rfl rfl hd9 (Nat.le_of_ble_eq_true rfl) ⟨Nat.le_refl _, Nat.le_refl _⟩ rfl ?_
    rintro _ _ ⟨y9, I9, L9, rfl, rfl, hP9⟩
    replace h := h y9 I9 L9 hP9
    refine z_aload_n (pc' := 208) (x := 27) dX6_runBody_207 rfl rfl ?_
    refine z_iconst (pc' := 209) (v := 0) dX6_runBody_208 rfl (by decide) ?_
    refine z_iconst (pc' := 210) (v := 2) dX6_runBody_209 rfl (by decide) ?_
    refine z_iload (pc' := 212) (x := x4) dX6_runBody_210 rfl rfl ?_
    obtain ⟨d10, P10, hd10, hC10, h⟩ := h
    refine z_callV (pc' := 215) (M' := mX6_own) (As := [.int (0 : Int32), .int (2 : Int32), .int x4]) dX6_runBody_212 rfl ml_X6_31 me_X6_own hC10 rfl (by decide) rfl rfl hd10 (Nat.le_of_ble_eq_true rfl) ⟨Nat.le_refl _, Nat.le_refl _⟩ rfl ?_
    rintro _ _ ⟨y10, I10, L10, rfl, rfl, hP10⟩
    replace h := h y10 I10 L10 hP10
    refine z_isub (pc' := 216) dX6_runBody_215 rfl ?_
    exact z_iret dX6_runBody_216 rfl rfl ⟨Nat.le_refl _, Nat.le_refl _⟩ ⟨_, _, _, rfl, rfl, h⟩
  by_cases c1_9 : x1 = (60 : Int32)
  · replace h := h.2.2.2.2.2.2.2.2.2.1 c1_9
    refine z_lookup (pc' := 217) dX6_runBody_1 (by decide) (by rw [c1_9]; decide) ?_
    refine z_aload_n (pc' := 218) (x := 27) dX6_runBody_217 rfl rfl ?_
    refine z_iload_n (pc' := 219) (x := x2) dX6_runBody_218 rfl rfl ?_
    refine z_iconst (pc' := 220) (v := 3) dX6_runBody_219 rfl (by decide) ?_
    refine z_iload_n (pc' := 221) (x := x3) dX6_runBody_220 rfl rfl ?_
    refine z_iload (pc' := 223) (x := x4) dX6_runBody_221 rfl rfl ?_
    obtain ⟨d11, P11, hd11, hC11, h⟩ := h
    refine z_callV (pc' := 226) (M' := mX6_run) (As := [.int x2, .int (3 : Int32), .int x3, .int x4]) dX6_runBody_223 rfl ml_X6_35 me_X6_run hC11 rfl (by decide) rfl rfl hd11 (Nat.le_of_ble_eq_true rfl) ⟨Nat.le_refl _, Nat.le_refl _⟩ rfl ?_
    rintro _ _ ⟨y11, I11, L11, rfl, rfl, hP11⟩
    replace h := h y11 I11 L11 hP11
    refine z_iconst (pc' := 227) (v := 5) dX6_runBody_226 rfl (by decide) ?_
    refine z_ixor (pc' := 228) dX6_runBody_227 rfl ?_
    exact z_iret dX6_runBody_228 rfl rfl ⟨Nat.le_refl _, Nat.le_refl _⟩ ⟨_, _, _, rfl, rfl, h⟩
  by_cases c1_10 : x1 = (70 : Int32)
  · replace h := h.2.2.2.2.2.2.2.2.2.2.1 c1_10
    refine z_lookup (pc' := 229) dX6_runBody_1 (by decide) (by rw [c1_10]; decide) ?_
    refine z_aload_n (pc' := 230) (x := 27) dX6_runBody_229 rfl rfl ?_
    refine z_iload_n (pc' := 231) (x := x2) dX6_runBody_230 rfl rfl ?_
    refine z_iconst (pc' := 232) (v := 0) dX6_runBody_231 rfl (by decide) ?_
    refine z_iload_n (pc' := 233) (x := x3) dX6_runBody_232 rfl rfl ?_
    refine z_iload (pc' := 235) (x := x4) dX6_runBody_233 rfl rfl ?_
    obtain ⟨d12, P12, hd12, hC12, h⟩ := h
    refine z_callV (pc' := 238) (M' := mX6_run) (As := [.int x2, .int (0 : Int32), .int x3, .int x4]) dX6_runBody_235 rfl ml_X6_35 me_X6_run hC12 rfl (by decide) rfl rfl hd12 (Nat.le_of_ble_eq_true rfl) ⟨Nat.le_refl _, Nat.le_refl _⟩ rfl ?_
    rintro _ _ ⟨y12, I12, L12, rfl, rfl, hP12⟩
    replace h := h y12 I12 L12 hP12
    refine z_iconst (pc' := 239) (v := 2) dX6_runBody_238 rfl (by decide) ?_
    refine z_imul (pc' := 240) dX6_runBody_239 rfl ?_
    exact z_iret dX6_runBody_240 rfl rfl ⟨Nat.le_refl _, Nat.le_refl _⟩ ⟨_, _, _, rfl, rfl, h⟩
  by_cases c1_11 : x1 = (80 : Int32)
  · replace h := h.2.2.2.2.2.2.2.2.2.2.2.1 c1_11
    refine z_lookup (pc' := 241) dX6_runBody_1 (by decide) (by rw [c1_11]; decide) ?_
    refine z_aload_n (pc' := 242) (x := 27) dX6_runBody_241 rfl rfl ?_
    refine z_iload_n (pc' := 243) (x := x2) dX6_runBody_242 rfl rfl ?_
    refine z_iconst (pc' := 244) (v := 1) dX6_runBody_243 rfl (by decide) ?_
    refine z_iload_n (pc' := 245) (x := x3) dX6_runBody_244 rfl rfl ?_
    refine z_iload (pc' := 247) (x := x4) dX6_runBody_245 rfl rfl ?_
    obtain ⟨d13, P13, hd13, hC13, h⟩ := h
    refine z_callV (pc' := 250) (M' := mX6_run) (As := [.int x2, .int (1 : Int32), .int x3, .int x4]) dX6_runBody_247 rfl ml_X6_35 me_X6_run hC13 rfl (by decide) rfl rfl hd13 (Nat.le_of_ble_eq_true rfl) ⟨Nat.le_refl _, Nat.le_refl _⟩ rfl ?_
    rintro _ _ ⟨y13, I13, L13, rfl, rfl, hP13⟩
    replace h := h y13 I13 L13 hP13
    refine z_aload_n (pc' := 251) (x := 27) dX6_runBody_250 rfl rfl ?_
    refine z_iconst (pc' := 252) (v := 2) dX6_runBody_251 rfl (by decide) ?_
    refine z_iconst (pc' := 253) (v := 2) dX6_runBody_252 rfl (by decide) ?_
    refine z_iload (pc' := 255) (x := x4) dX6_runBody_253 rfl rfl ?_
    obtain ⟨d14, P14, hd14, hC14, h⟩ := h
    refine z_callV (pc' := 258) (M' := mX6_own) (As := [.int (2 : Int32), .int (2 : Int32), .int x4]) dX6_runBody_255 rfl ml_X6_31 me_X6_own hC14 rfl (by decide) rfl rfl hd14 (Nat.le_of_ble_eq_true rfl) ⟨Nat.le_refl _, Nat.le_refl _⟩ rfl ?_
    rintro _ _ ⟨y14, I14, L14, rfl, rfl, hP14⟩
    replace h := h y14 I14 L14 hP14
    refine z_iadd (pc' := 259) dX6_runBody_258 rfl ?_
    exact z_iret dX6_runBody_259 rfl rfl ⟨Nat.le_refl _, Nat.le_refl _⟩ ⟨_, _, _, rfl, rfl, h⟩
  replace h := h.2.2.2.2.2.2.2.2.2.2.2.2 c1_0 c1_1 c1_2 c1_3 c1_4 c1_5 c1_6 c1_7 c1_8 c1_9 c1_10 c1_11
  refine z_lookup (pc' := 260) dX6_runBody_1 (by decide) (by rw [lv_osw c1_0 (a := 1) (by decide), lv_osw c1_1 (a := 2) (by decide), lv_osw c1_2 (a := 10) (by decide), lv_osw c1_3 (a := 11) (by decide), lv_osw c1_4 (a := 20) (by decide), lv_osw c1_5 (a := 30) (by decide), lv_osw c1_6 (a := 40) (by decide), lv_osw c1_7 (a := 41) (by decide), lv_osw c1_8 (a := 50) (by decide), lv_osw c1_9 (a := 60) (by decide), lv_osw c1_10 (a := 70) (by decide), lv_osw c1_11 (a := 80) (by decide)]; rfl) ?_
  refine z_aload_n (pc' := 261) (x := 27) dX6_runBody_260 rfl rfl ?_
  refine z_iload_n (pc' := 262) (x := x2) dX6_runBody_261 rfl rfl ?_
  refine z_iconst (pc' := 263) (v := 3) dX6_runBody_262 rfl (by decide) ?_
  refine z_iload_n (pc' := 264) (x := x3) dX6_runBody_263 rfl rfl ?_
  refine z_iload (pc' := 266) (x := x4) dX6_runBody_264 rfl rfl ?_
  obtain ⟨d15, P15, hd15, hC15, h⟩ := h
  refine z_callV (pc' := 269) (M' := mX6_run) (As := [.int x2, .int (3 : Int32), .int x3, .int x4]) dX6_runBody_266 rfl ml_X6_35 me_X6_run hC15 rfl (by decide) rfl rfl hd15 (Nat.le_of_ble_eq_true rfl) ⟨Nat.le_refl _, Nat.le_refl _⟩ rfl ?_
  rintro _ _ ⟨y15, I15, L15, rfl, rfl, hP15⟩
  replace h := h y15 I15 L15 hP15
  refine z_iconst (pc' := 270) (v := 1) dX6_runBody_269 rfl (by decide) ?_
  refine z_isub (pc' := 271) dX6_runBody_270 rfl ?_
  exact z_iret dX6_runBody_271 rfl rfl ⟨Nat.le_refl _, Nat.le_refl _⟩ ⟨_, _, _, rfl, rfl, h⟩
set_option maxHeartbeats 4000000 in
set_option maxRecDepth 100000 in
theorem t_X7_look {l : Launch} {G : zG} {d : Nat} {P : zIM → zLM → Prop} {I : zIM} {L : zLM} {q0 : Nat} (hq0 : q0 < 6) (h : ∃ (d1 : Nat) (P1 : Int32 → zIM → zLM → Prop), d1 + 1 ≤ d ∧ zCi l G d1 mX2_all [.ref 1] (xI (xI I 21 0 (-2 : Int32)) 21 1 (-2 : Int32)) (xL (xL L 21 2 (1 : Int64)) 21 3 (1 : Int64)) P1 ∧ ∀ (y1 : Int32) (I1 : zIM) (L1 : zLM), P1 y1 I1 L1 → (∃ (d2 : Nat) (P2 : Int32 → zIM → zLM → Prop), d2 + 1 ≤ d ∧ zCi l G d2 mX2_first [.ref 1, .int y1] (xI I1 21 6 y1) L1 P2 ∧ ∀ (y2 : Int32) (I2 : zIM) (L2 : zLM), P2 y2 I2 L2 → (K_X7_look_50 l G d P (xI I2 21 7 y2) L2 (0 : Int32)  q0))) : zCv l G d mX7_look [.ref 21, .ref (31 + 2 * q0)] I L P := by
  refine zCn.of (ls := [some (.ref 21), some (.ref (31 + 2 * q0)), none]) (by decide) (Nat.le_of_ble_eq_true rfl) rfl ?_
  refine z_aload_n (pc' := 1) (x := 21) dX7_look_0 rfl rfl ?_
  refine z_bipush (pc' := 3) (v := -2) dX7_look_1 rfl (by decide) ?_
  refine z_puti (pc' := 6) (w' := zs (xI I 21 0 (-2 : Int32)) L) dX7_look_3 rfl fl_X7_19 rfl rfl rfl rfl rfl rfl ?_
  refine z_aload_n (pc' := 7) (x := 21) dX7_look_6 rfl rfl ?_
  refine z_bipush (pc' := 9) (v := -2) dX7_look_7 rfl (by decide) ?_
  refine z_puti (pc' := 12) (w' := zs (xI (xI I 21 0 (-2 : Int32)) 21 1 (-2 : Int32)) L) dX7_look_9 rfl fl_X7_23 rfl rfl rfl rfl rfl rfl ?_
  refine z_aload_n (pc' := 13) (x := 21) dX7_look_12 rfl rfl ?_
  refine z_lconst (pc' := 14) (v := 1) dX7_look_13 rfl (by decide) ?_
  refine z_putl (pc' := 17) (w' := zs (xI (xI I 21 0 (-2 : Int32)) 21 1 (-2 : Int32)) (xL L 21 2 (1 : Int64))) dX7_look_14 rfl fl_X7_26 rfl rfl rfl rfl ?_
  refine z_aload_n (pc' := 18) (x := 21) dX7_look_17 rfl rfl ?_
  refine z_lconst (pc' := 19) (v := 1) dX7_look_18 rfl (by decide) ?_
  refine z_putl (pc' := 22) (w' := zs (xI (xI I 21 0 (-2 : Int32)) 21 1 (-2 : Int32)) (xL (xL L 21 2 (1 : Int64)) 21 3 (1 : Int64))) dX7_look_19 rfl fl_X7_30 rfl rfl rfl rfl ?_
  refine z_aload_n (pc' := 23) (x := 21) dX7_look_22 rfl rfl ?_
  refine z_aload_n (pc' := 24) (x := 21) dX7_look_23 rfl rfl ?_
  refine z_getr (pc' := 27) (x := 1) dX7_look_24 rfl fl_X7_9 rfl rfl rfl ?_
  obtain ⟨d1, P1, hd1, hC1, h⟩ := h
  refine z_callV (pc' := 30) (M' := mX2_all) (As := []) dX7_look_27 rfl ml_X7_33 me_X2_all hC1 rfl (by decide) rfl rfl hd1 (Nat.le_of_ble_eq_true rfl) ⟨Nat.le_refl _, Nat.le_refl _⟩ rfl ?_
  rintro _ _ ⟨y1, I1, L1, rfl, rfl, hP1⟩
  replace h := h y1 I1 L1 hP1
  refine z_puti (pc' := 33) (w' := zs (xI I1 21 6 y1) L1) dX7_look_30 rfl fl_X7_39 rfl rfl rfl rfl rfl rfl ?_
  refine z_aload_n (pc' := 34) (x := 21) dX7_look_33 rfl rfl ?_
  refine z_aload_n (pc' := 35) (x := 21) dX7_look_34 rfl rfl ?_
  refine z_getr (pc' := 38) (x := 1) dX7_look_35 rfl fl_X7_9 rfl rfl rfl ?_
  refine z_aload_n (pc' := 39) (x := 21) dX7_look_38 rfl rfl ?_
  refine z_geti (pc' := 42) (x := y1) dX7_look_39 rfl fl_X7_39 rfl rfl rfl ?_
  obtain ⟨d2, P2, hd2, hC2, h⟩ := h
  refine z_callV (pc' := 45) (M' := mX2_first) (As := [.int y1]) dX7_look_42 rfl ml_X7_42 me_X2_first hC2 rfl (by decide) rfl rfl hd2 (Nat.le_of_ble_eq_true rfl) ⟨Nat.le_refl _, Nat.le_refl _⟩ rfl ?_
  rintro _ _ ⟨y2, I2, L2, rfl, rfl, hP2⟩
  replace h := h y2 I2 L2 hP2
  refine z_puti (pc' := 48) (w' := zs (xI I2 21 7 y2) L2) dX7_look_45 rfl fl_X7_46 rfl rfl rfl rfl rfl rfl ?_
  refine z_iconst (pc' := 49) (v := 0) dX7_look_48 rfl (by decide) ?_
  refine z_istore_n (pc' := 50) (ls' := [some (.ref 21), some (.ref (31 + 2 * q0)), some (.int (0 : Int32))]) dX7_look_49 rfl (by decide) rfl ?_
  exact h
set_option maxHeartbeats 4000000 in
set_option maxRecDepth 100000 in
theorem t_X7_look_50 {l : Launch} {G : zG} {d : Nat} {P : zIM → zLM → Prop} {I : zIM} {L : zLM} {x2 : Int32} {q0 : Nat} (hq0 : q0 < 6) (h : (((I (31 + 2 * q0) 2) ≤ ((2 : Int32) * x2) → ((((I 21 0) = (-2 : Int32) → (P I L)) ∧ (¬ (I 21 0) = (-2 : Int32) → (P (xI I 21 1 (-2 : Int32)) (xL (xL L 21 2 (0 : Int64)) 21 3 (1 : Int64))))))) ∧ (¬ (I (31 + 2 * q0) 2) ≤ ((2 : Int32) * x2) → (((¬ (I 21 0) = (-2 : Int32) → ((((I 21 0) = (-2 : Int32) → (P I L)) ∧ (¬ (I 21 0) = (-2 : Int32) → (P (xI I 21 1 (-2 : Int32)) (xL (xL L 21 2 (0 : Int64)) 21 3 (1 : Int64))))))) ∧ ((I 21 0) = (-2 : Int32) → ((((I (31 + 2 * q0) 2) ≤ (((2 : Int32) * x2) + (1 : Int32)) → (K_X7_look_50 l G d P (xI I 21 0 x2) L (x2 + (1 : Int32))  q0)) ∧ (¬ (I (31 + 2 * q0) 2) ≤ (((2 : Int32) * x2) + (1 : Int32)) → (∃ j6 : Nat, ((2 : Int32) * x2) = nI j6 ∧ j6 < 60 ∧ (∃ j7 : Nat, (((2 : Int32) * x2) + (1 : Int32)) = nI j7 ∧ j7 < 60 ∧ (∃ (d8 : Nat) (P8 : Int32 → zIM → zLM → Prop), d8 + 1 ≤ d ∧ zCi l G d8 mX7_canBe [.ref 21, .int x2, .long (L (32 + 2 * q0) j6), .long (L (32 + 2 * q0) j7)] I L P8 ∧ ∀ (y8 : Int32) (I8 : zIM) (L8 : zLM), P8 y8 I8 L8 → (((y8 = 0 → (K_X7_look_50 l G d P (xI I8 21 0 x2) L8 (x2 + (1 : Int32))  q0)) ∧ (¬ y8 = 0 → (((¬ (L8 (32 + 2 * q0) j7) = (1 : Int64) → (∃ (d11 : Nat) (P11 : zIM → zLM → Prop), d11 + 1 ≤ d ∧ zCv l G d11 mX7_follow [.ref 21, .int x2, .int ((L8 (32 + 2 * q0) j6).toInt32), .int (0 : Int32)] I8 L8 P11 ∧ ∀ (I11 : zIM) (L11 : zLM), P11 I11 L11 → (K_X7_look_50 l G d P I11 L11 (x2 + (1 : Int32))  q0))) ∧ ((L8 (32 + 2 * q0) j7) = (1 : Int64) → (∃ (d12 : Nat) (P12 : zIM → zLM → Prop), d12 + 1 ≤ d ∧ zCv l G d12 mX7_follow [.ref 21, .int x2, .int ((L8 (32 + 2 * q0) j6).toInt32), .int (1 : Int32)] I8 L8 P12 ∧ ∀ (I12 : zIM) (L12 : zLM), P12 I12 L12 → (K_X7_look_50 l G d P I12 L12 (x2 + (1 : Int32))  q0)))))))))))))))))))) : K_X7_look_50 l G d P I L x2 q0 := by
  refine z_iconst (pc' := 51) (v := 2) dX7_look_50 rfl (by decide) ?_
  refine z_iload_n (pc' := 52) (x := x2) dX7_look_51 rfl rfl ?_
  refine z_imul (pc' := 53) dX7_look_52 rfl ?_
  refine z_aload_n (pc' := 54) (x := (31 + 2 * q0)) dX7_look_53 rfl rfl ?_
  refine z_geti (pc' := 57) (x := (I (31 + 2 * q0) 2)) dX7_look_54 rfl fl_X7_49 (zS_sh hq0) rfl rfl ?_
  refine z_icmp_ge (pc' := 60) (tgt := 155) dX7_look_57 rfl (by decide) (fun c1 => ?_) (fun c1 => ?_)
  · replace h := h.1 c1
    refine z_aload_n (pc' := 156) (x := 21) dX7_look_155 rfl rfl ?_
    refine z_geti (pc' := 159) (x := (I 21 0)) dX7_look_156 rfl fl_X7_19 rfl rfl rfl ?_
    refine z_bipush (pc' := 161) (v := -2) dX7_look_159 rfl (by decide) ?_
    refine z_icmp_eq (pc' := 164) (tgt := 180) dX7_look_161 rfl (by decide) (fun c2 => ?_) (fun c2 => ?_)
    · replace h := h.1 c2
      exact z_vret dX7_look_180 rfl ⟨Nat.le_refl _, Nat.le_refl _⟩ ⟨_, _, rfl, rfl, h⟩
    · replace h := h.2 c2
      refine z_aload_n (pc' := 165) (x := 21) dX7_look_164 rfl rfl ?_
      refine z_bipush (pc' := 167) (v := -2) dX7_look_165 rfl (by decide) ?_
      refine z_puti (pc' := 170) (w' := zs (xI I 21 1 (-2 : Int32)) L) dX7_look_167 rfl fl_X7_23 rfl rfl rfl rfl rfl rfl ?_
      refine z_aload_n (pc' := 171) (x := 21) dX7_look_170 rfl rfl ?_
      refine z_lconst (pc' := 172) (v := 0) dX7_look_171 rfl (by decide) ?_
      refine z_putl (pc' := 175) (w' := zs (xI I 21 1 (-2 : Int32)) (xL L 21 2 (0 : Int64))) dX7_look_172 rfl fl_X7_26 rfl rfl rfl rfl ?_
      refine z_aload_n (pc' := 176) (x := 21) dX7_look_175 rfl rfl ?_
      refine z_lconst (pc' := 177) (v := 1) dX7_look_176 rfl (by decide) ?_
      refine z_putl (pc' := 180) (w' := zs (xI I 21 1 (-2 : Int32)) (xL (xL L 21 2 (0 : Int64)) 21 3 (1 : Int64))) dX7_look_177 rfl fl_X7_30 rfl rfl rfl rfl ?_
      exact z_vret dX7_look_180 rfl ⟨Nat.le_refl _, Nat.le_refl _⟩ ⟨_, _, rfl, rfl, h⟩
  · replace h := h.2 c1
    refine z_aload_n (pc' := 61) (x := 21) dX7_look_60 rfl rfl ?_
    refine z_geti (pc' := 64) (x := (I 21 0)) dX7_look_61 rfl fl_X7_19 rfl rfl rfl ?_
    refine z_bipush (pc' := 66) (v := -2) dX7_look_64 rfl (by decide) ?_
    refine z_icmp_ne (pc' := 69) (tgt := 155) dX7_look_66 rfl (by decide) (fun c3 => ?_) (fun c3 => ?_)
    · replace h := h.1 c3
      refine z_aload_n (pc' := 156) (x := 21) dX7_look_155 rfl rfl ?_
      refine z_geti (pc' := 159) (x := (I 21 0)) dX7_look_156 rfl fl_X7_19 rfl rfl rfl ?_
      refine z_bipush (pc' := 161) (v := -2) dX7_look_159 rfl (by decide) ?_
      refine z_icmp_eq (pc' := 164) (tgt := 180) dX7_look_161 rfl (by decide) (fun c4 => ?_) (fun c4 => ?_)
      · replace h := h.1 c4
        exact z_vret dX7_look_180 rfl ⟨Nat.le_refl _, Nat.le_refl _⟩ ⟨_, _, rfl, rfl, h⟩
      · replace h := h.2 c4
        refine z_aload_n (pc' := 165) (x := 21) dX7_look_164 rfl rfl ?_
        refine z_bipush (pc' := 167) (v := -2) dX7_look_165 rfl (by decide) ?_
        refine z_puti (pc' := 170) (w' := zs (xI I 21 1 (-2 : Int32)) L) dX7_look_167 rfl fl_X7_23 rfl rfl rfl rfl rfl rfl ?_
        refine z_aload_n (pc' := 171) (x := 21) dX7_look_170 rfl rfl ?_
        refine z_lconst (pc' := 172) (v := 0) dX7_look_171 rfl (by decide) ?_
        refine z_putl (pc' := 175) (w' := zs (xI I 21 1 (-2 : Int32)) (xL L 21 2 (0 : Int64))) dX7_look_172 rfl fl_X7_26 rfl rfl rfl rfl ?_
        refine z_aload_n (pc' := 176) (x := 21) dX7_look_175 rfl rfl ?_
        refine z_lconst (pc' := 177) (v := 1) dX7_look_176 rfl (by decide) ?_
        refine z_putl (pc' := 180) (w' := zs (xI I 21 1 (-2 : Int32)) (xL (xL L 21 2 (0 : Int64)) 21 3 (1 : Int64))) dX7_look_177 rfl fl_X7_30 rfl rfl rfl rfl ?_
        exact z_vret dX7_look_180 rfl ⟨Nat.le_refl _, Nat.le_refl _⟩ ⟨_, _, rfl, rfl, h⟩
    · replace h := h.2 c3
      refine z_iconst (pc' := 70) (v := 2) dX7_look_69 rfl (by decide) ?_
      refine z_iload_n (pc' := 71) (x := x2) dX7_look_70 rfl rfl ?_
      refine z_imul (pc' := 72) dX7_look_71 rfl ?_
      refine z_iconst (pc' := 73) (v := 1) dX7_look_72 rfl (by decide) ?_
      refine z_iadd (pc' := 74) dX7_look_73 rfl ?_
      refine z_aload_n (pc' := 75) (x := (31 + 2 * q0)) dX7_look_74 rfl rfl ?_
      refine z_geti (pc' := 78) (x := (I (31 + 2 * q0) 2)) dX7_look_75 rfl fl_X7_49 (zS_sh hq0) rfl rfl ?_
      refine z_icmp_ge (pc' := 81) (tgt := 144) dX7_look_78 rfl (by decide) (fun c5 => ?_) (fun c5 => ?_)
      · replace h := h.1 c5
        refine z_aload_n (pc' := 145) (x := 21) dX7_look_144 rfl rfl ?_
        refine z_iload_n (pc' := 146) (x := x2) dX7_look_145 rfl rfl ?_
        refine z_puti (pc' := 149) (w' := zs (xI I 21 0 x2) L) dX7_look_146 rfl fl_X7_19 rfl rfl rfl rfl rfl rfl ?_
        refine z_iinc (pc' := 152) (x := x2) (v := (x2 + (1 : Int32))) (ls' := [some (.ref 21), some (.ref (31 + 2 * q0)), some (.int (x2 + (1 : Int32)))]) dX7_look_149 rfl rfl (by rfl) (by decide) rfl ?_
        refine z_goto (pc' := 50) dX7_look_152 (by decide) ?_
        exact h
      · replace h := h.2 c5
        refine z_aload_n (pc' := 82) (x := 21) dX7_look_81 rfl rfl ?_
        refine z_iload_n (pc' := 83) (x := x2) dX7_look_82 rfl rfl ?_
        refine z_aload_n (pc' := 84) (x := (31 + 2 * q0)) dX7_look_83 rfl rfl ?_
        refine z_getr (pc' := 87) (x := (32 + 2 * q0)) dX7_look_84 rfl fl_X7_54 (zS_sh hq0) rfl (zR_el hq0) ?_
        refine z_iconst (pc' := 88) (v := 2) dX7_look_87 rfl (by decide) ?_
        refine z_iload_n (pc' := 89) (x := x2) dX7_look_88 rfl rfl ?_
        refine z_imul (pc' := 90) dX7_look_89 rfl ?_
        obtain ⟨j6, ha6, hb6, h⟩ := h
        refine z_lald (pc' := 91) (x := (L (32 + 2 * q0) j6)) (j := j6) dX7_look_90 rfl (zS_el hq0) (by decide) ha6 hb6 rfl ?_
        refine z_aload_n (pc' := 92) (x := (31 + 2 * q0)) dX7_look_91 rfl rfl ?_
        refine z_getr (pc' := 95) (x := (32 + 2 * q0)) dX7_look_92 rfl fl_X7_54 (zS_sh hq0) rfl (zR_el hq0) ?_
        refine z_iconst (pc' := 96) (v := 2) dX7_look_95 rfl (by decide) ?_
        refine z_iload_n (pc' := 97) (x := x2) dX7_look_96 rfl rfl ?_
        refine z_imul (pc' := 98) dX7_look_97 rfl ?_
        refine z_iconst (pc' := 99) (v := 1) dX7_look_98 rfl (by decide) ?_
        refine z_iadd (pc' := 100) dX7_look_99 rfl ?_
        obtain ⟨j7, ha7, hb7, h⟩ := h
        refine z_lald (pc' := 101) (x := (L (32 + 2 * q0) j7)) (j := j7) dX7_look_100 rfl (zS_el hq0) (by decide) ha7 hb7 rfl ?_
        obtain ⟨d8, P8, hd8, hC8, h⟩ := h
        refine z_callV (pc' := 104) (M' := mX7_canBe) (As := [.int x2, .long (L (32 + 2 * q0) j6), .long (L (32 + 2 * q0) j7)]) dX7_look_101 rfl ml_X7_58 me_X7_canBe hC8 rfl (by decide) rfl rfl hd8 (Nat.le_of_ble_eq_true rfl) ⟨Nat.le_refl _, Nat.le_refl _⟩ rfl ?_
        rintro _ _ ⟨y8, I8, L8, rfl, rfl, hP8⟩
        replace h := h y8 I8 L8 hP8
        refine z_if_eq (pc' := 107) (tgt := 144) dX7_look_104 rfl (by decide) (fun c9 => ?_) (fun c9 => ?_)
        · replace h := h.1 c9
          refine z_aload_n (pc' := 145) (x := 21) dX7_look_144 rfl rfl ?_
          refine z_iload_n (pc' := 146) (x := x2) dX7_look_145 rfl rfl ?_
          refine z_puti (pc' := 149) (w' := zs (xI I8 21 0 x2) L8) dX7_look_146 rfl fl_X7_19 rfl rfl rfl rfl rfl rfl ?_
          refine z_iinc (pc' := 152) (x := x2) (v := (x2 + (1 : Int32))) (ls' := [some (.ref 21), some (.ref (31 + 2 * q0)), some (.int (x2 + (1 : Int32)))]) dX7_look_149 rfl rfl (by rfl) (by decide) rfl ?_
          refine z_goto (pc' := 50) dX7_look_152 (by decide) ?_
          exact h
        · replace h := h.2 c9
          refine z_aload_n (pc' := 108) (x := 21) dX7_look_107 rfl rfl ?_
          refine z_iload_n (pc' := 109) (x := x2) dX7_look_108 rfl rfl ?_
          refine z_aload_n (pc' := 110) (x := (31 + 2 * q0)) dX7_look_109 rfl rfl ?_
          refine z_getr (pc' := 113) (x := (32 + 2 * q0)) dX7_look_110 rfl fl_X7_54 (zS_sh hq0) rfl (zR_el hq0) ?_
          refine z_iconst (pc' := 114) (v := 2) dX7_look_113 rfl (by decide) ?_
          refine z_iload_n (pc' := 115) (x := x2) dX7_look_114 rfl rfl ?_
          refine z_imul (pc' := 116) dX7_look_115 rfl ?_
          refine z_lald (pc' := 117) (x := (L8 (32 + 2 * q0) j6)) (j := j6) dX7_look_116 rfl (zS_el hq0) (by decide) ha6 hb6 rfl ?_
          refine z_l2i (pc' := 118) dX7_look_117 rfl ?_
          refine z_aload_n (pc' := 119) (x := (31 + 2 * q0)) dX7_look_118 rfl rfl ?_
          refine z_getr (pc' := 122) (x := (32 + 2 * q0)) dX7_look_119 rfl fl_X7_54 (zS_sh hq0) rfl (zR_el hq0) ?_
          refine z_iconst (pc' := 123) (v := 2) dX7_look_122 rfl (by decide) ?_
          refine z_iload_n (pc' := 124) (x := x2) dX7_look_123 rfl rfl ?_
          refine z_imul (pc' := 125) dX7_look_124 rfl ?_
          refine z_iconst (pc' := 126) (v := 1) dX7_look_125 rfl (by decide) ?_
          refine z_iadd (pc' := 127) dX7_look_126 rfl ?_
          refine z_lald (pc' := 128) (x := (L8 (32 + 2 * q0) j7)) (j := j7) dX7_look_127 rfl (zS_el hq0) (by decide) ha7 hb7 rfl ?_
          refine z_lconst (pc' := 129) (v := 1) dX7_look_128 rfl (by decide) ?_
          refine z_lc_ne (pc' := 133) (tgt := 137) dX7_look_129 dX7_look_130 rfl (by decide) (fun c10 => ?_) (fun c10 => ?_)
          · replace h := h.1 c10
            refine z_iconst (pc' := 138) (v := 0) dX7_look_137 rfl (by decide) ?_
            obtain ⟨d11, P11, hd11, hC11, h⟩ := h
            refine z_callV (pc' := 141) (M' := mX7_follow) (As := [.int x2, .int ((L8 (32 + 2 * q0) j6).toInt32), .int (0 : Int32)]) dX7_look_138 rfl ml_X7_62 me_X7_follow hC11 rfl (by decide) rfl rfl hd11 (Nat.le_of_ble_eq_true rfl) ⟨Nat.le_refl _, Nat.le_refl _⟩ rfl ?_
            rintro _ _ ⟨I11, L11, rfl, rfl, hP11⟩
            replace h := h I11 L11 hP11
            refine z_goto (pc' := 149) dX7_look_141 (by decide) ?_
            refine z_iinc (pc' := 152) (x := x2) (v := (x2 + (1 : Int32))) (ls' := [some (.ref 21), some (.ref (31 + 2 * q0)), some (.int (x2 + (1 : Int32)))]) dX7_look_149 rfl rfl (by rfl) (by decide) rfl ?_
            refine z_goto (pc' := 50) dX7_look_152 (by decide) ?_
            exact h
          · replace h := h.2 c10
            refine z_iconst (pc' := 134) (v := 1) dX7_look_133 rfl (by decide) ?_
            refine z_goto (pc' := 138) dX7_look_134 (by decide) ?_
            obtain ⟨d12, P12, hd12, hC12, h⟩ := h
            refine z_callV (pc' := 141) (M' := mX7_follow) (As := [.int x2, .int ((L8 (32 + 2 * q0) j6).toInt32), .int (1 : Int32)]) dX7_look_138 rfl ml_X7_62 me_X7_follow hC12 rfl (by decide) rfl rfl hd12 (Nat.le_of_ble_eq_true rfl) ⟨Nat.le_refl _, Nat.le_refl _⟩ rfl ?_
            rintro _ _ ⟨I12, L12, rfl, rfl, hP12⟩
            replace h := h I12 L12 hP12
            refine z_goto (pc' := 149) dX7_look_141 (by decide) ?_
            refine z_iinc (pc' := 152) (x := x2) (v := (x2 + (1 : Int32))) (ls' := [some (.ref 21), some (.ref (31 + 2 * q0)), some (.int (x2 + (1 : Int32)))]) dX7_look_149 rfl rfl (by rfl) (by decide) rfl ?_
            refine z_goto (pc' := 50) dX7_look_152 (by decide) ?_
            exact h
set_option maxHeartbeats 4000000 in
set_option maxRecDepth 100000 in
theorem t_X7_canBe {l : Launch} {G : zG} {d : Nat} {P : Int32 → zIM → zLM → Prop} {I : zIM} {L : zLM} {x1 : Int32} {x2 : Int64} {x4 : Int64}  (h : ∃ (d1 : Nat) (P1 : Int32 → zIM → zLM → Prop), d1 + 1 ≤ d ∧ zCi l G d1 mX2_isOver [.ref 1, .int (I 21 6), .int x1] I L P1 ∧ ∀ (y1 : Int32) (I1 : zIM) (L1 : zLM), P1 y1 I1 L1 → (((¬ y1 = 0 → (K_X7_canBe_29 l G d P I1 L1)) ∧ (y1 = 0 → (((x4 < (0 : Int64) → (K_X7_canBe_29 l G d P I1 L1)) ∧ (¬ x4 < (0 : Int64) → (((x4 ≤ (1 : Int64) → (((¬ x2 = (9 : Int64) → (((x2 < (0 : Int64) → (K_X7_canBe_93 l G d P I1 L1)) ∧ (¬ x2 < (0 : Int64) → (((((I1 1 6).toInt64) ≤ x2 → (K_X7_canBe_93 l G d P I1 L1)) ∧ (¬ ((I1 1 6).toInt64) ≤ x2 → (((x2 = ((I1 21 7).toInt64) → (K_X7_canBe_93 l G d P I1 L1)) ∧ (¬ x2 = ((I1 21 7).toInt64) → (((¬ (((I1 21 6) >>> ((x2.toInt32) &&& 31)) &&& (1 : Int32)) = 0 → (∃ (d10 : Nat) (P10 : Int32 → zIM → zLM → Prop), d10 + 1 ≤ d ∧ zCi l G d10 mX4_numberAt [.ref 14, .int x1, .int (I1 21 7), .int (x2.toInt32), .int (I1 21 6)] I1 L1 P10 ∧ ∀ (y10 : Int32) (I10 : zIM) (L10 : zLM), P10 y10 I10 L10 → (((¬ x4 = (1 : Int64) → ((((12 : Int32) ≤ y10 → (K_X7_canBe_147 l G d P I10 L10  (0 : Int32))) ∧ (¬ (12 : Int32) ≤ y10 → (K_X7_canBe_147 l G d P I10 L10  (1 : Int32)))))) ∧ (x4 = (1 : Int64) → (((y10 ≤ 0 → (K_X7_canBe_147 l G d P I10 L10  (0 : Int32))) ∧ (¬ y10 ≤ 0 → (K_X7_canBe_147 l G d P I10 L10  (1 : Int32)))))))))) ∧ ((((I1 21 6) >>> ((x2.toInt32) &&& 31)) &&& (1 : Int32)) = 0 → (K_X7_canBe_93 l G d P I1 L1)))))))))))))) ∧ (x2 = (9 : Int64) → (((¬ x4 = (0 : Int64) → (K_X7_canBe_51 l G d P I1 L1  (0 : Int32))) ∧ (x4 = (0 : Int64) → (K_X7_canBe_51 l G d P I1 L1  (1 : Int32))))))))) ∧ (¬ x4 ≤ (1 : Int64) → (K_X7_canBe_29 l G d P I1 L1))))))))))) : zCi l G d mX7_canBe [.ref 21, .int x1, .long x2, .long x4] I L P := by
  refine zCn.of (ls := [some (.ref 21), some (.int x1), some (.long x2), none, some (.long x4), none, none]) (by decide) (Nat.le_of_ble_eq_true rfl) rfl ?_
  refine z_aload_n (pc' := 1) (x := 21) dX7_canBe_0 rfl rfl ?_
  refine z_getr (pc' := 4) (x := 1) dX7_canBe_1 rfl fl_X7_9 rfl rfl rfl ?_
  refine z_aload_n (pc' := 5) (x := 21) dX7_canBe_4 rfl rfl ?_
  refine z_geti (pc' := 8) (x := (I 21 6)) dX7_canBe_5 rfl fl_X7_39 rfl rfl rfl ?_
  refine z_iload_n (pc' := 9) (x := x1) dX7_canBe_8 rfl rfl ?_
  obtain ⟨d1, P1, hd1, hC1, h⟩ := h
  refine z_callV (pc' := 12) (M' := mX2_isOver) (As := [.int (I 21 6), .int x1]) dX7_canBe_9 rfl ml_X7_66 me_X2_isOver hC1 rfl (by decide) rfl rfl hd1 (Nat.le_of_ble_eq_true rfl) ⟨Nat.le_refl _, Nat.le_refl _⟩ rfl ?_
  rintro _ _ ⟨y1, I1, L1, rfl, rfl, hP1⟩
  replace h := h y1 I1 L1 hP1
  refine z_if_ne (pc' := 15) (tgt := 29) dX7_canBe_12 rfl (by decide) (fun c2 => ?_) (fun c2 => ?_)
  · replace h := h.1 c2
    refine z_sub (pc' := 0) [none, none, none, none, none, none, none] (zsub_n (zsub_n (zsub_n (zsub_n (zsub_n (zsub_n (zsub_n zsub_nil))))))) ?_
    exact h
  · replace h := h.2 c2
    refine z_lload (pc' := 17) (x := x4) dX7_canBe_15 rfl rfl ?_
    refine z_lconst (pc' := 18) (v := 0) dX7_canBe_17 rfl (by decide) ?_
    refine z_lc_lt (pc' := 22) (tgt := 29) dX7_canBe_18 dX7_canBe_19 rfl (by decide) (fun c3 => ?_) (fun c3 => ?_)
    · replace h := h.1 c3
      refine z_sub (pc' := 0) [none, none, none, none, none, none, none] (zsub_n (zsub_n (zsub_n (zsub_n (zsub_n (zsub_n (zsub_n zsub_nil))))))) ?_
      exact h
    · replace h := h.2 c3
      refine z_lload (pc' := 24) (x := x4) dX7_canBe_22 rfl rfl ?_
      refine z_lconst (pc' := 25) (v := 1) dX7_canBe_24 rfl (by decide) ?_
      refine z_lc_le (pc' := 29) (tgt := 31) dX7_canBe_25 dX7_canBe_26 rfl (by decide) (fun c4 => ?_) (fun c4 => ?_)
      · replace h := h.1 c4
        refine z_lload_n (pc' := 32) (x := x2) dX7_canBe_31 rfl rfl ?_
        refine z_ldc2 (pc' := 35) (v := 9) dX7_canBe_32 rfl kl_X7_70 ?_
        refine z_lc_ne (pc' := 39) (tgt := 52) dX7_canBe_35 dX7_canBe_36 rfl (by decide) (fun c5 => ?_) (fun c5 => ?_)
        · replace h := h.1 c5
          refine z_lload_n (pc' := 53) (x := x2) dX7_canBe_52 rfl rfl ?_
          refine z_lconst (pc' := 54) (v := 0) dX7_canBe_53 rfl (by decide) ?_
          refine z_lc_lt (pc' := 58) (tgt := 93) dX7_canBe_54 dX7_canBe_55 rfl (by decide) (fun c6 => ?_) (fun c6 => ?_)
          · replace h := h.1 c6
            refine z_sub (pc' := 0) [none, none, none, none, none, none, none] (zsub_n (zsub_n (zsub_n (zsub_n (zsub_n (zsub_n (zsub_n zsub_nil))))))) ?_
            exact h
          · replace h := h.2 c6
            refine z_lload_n (pc' := 59) (x := x2) dX7_canBe_58 rfl rfl ?_
            refine z_aload_n (pc' := 60) (x := 21) dX7_canBe_59 rfl rfl ?_
            refine z_getr (pc' := 63) (x := 1) dX7_canBe_60 rfl fl_X7_9 rfl rfl rfl ?_
            refine z_geti (pc' := 66) (x := (I1 1 6)) dX7_canBe_63 rfl fl_X7_72 rfl rfl rfl ?_
            refine z_i2l (pc' := 67) dX7_canBe_66 rfl ?_
            refine z_lc_ge (pc' := 71) (tgt := 93) dX7_canBe_67 dX7_canBe_68 rfl (by decide) (fun c7 => ?_) (fun c7 => ?_)
            · replace h := h.1 c7
              refine z_sub (pc' := 0) [none, none, none, none, none, none, none] (zsub_n (zsub_n (zsub_n (zsub_n (zsub_n (zsub_n (zsub_n zsub_nil))))))) ?_
              exact h
            · replace h := h.2 c7
              refine z_lload_n (pc' := 72) (x := x2) dX7_canBe_71 rfl rfl ?_
              refine z_aload_n (pc' := 73) (x := 21) dX7_canBe_72 rfl rfl ?_
              refine z_geti (pc' := 76) (x := (I1 21 7)) dX7_canBe_73 rfl fl_X7_46 rfl rfl rfl ?_
              refine z_i2l (pc' := 77) dX7_canBe_76 rfl ?_
              refine z_lc_eq (pc' := 81) (tgt := 93) dX7_canBe_77 dX7_canBe_78 rfl (by decide) (fun c8 => ?_) (fun c8 => ?_)
              · replace h := h.1 c8
                refine z_sub (pc' := 0) [none, none, none, none, none, none, none] (zsub_n (zsub_n (zsub_n (zsub_n (zsub_n (zsub_n (zsub_n zsub_nil))))))) ?_
                exact h
              · replace h := h.2 c8
                refine z_aload_n (pc' := 82) (x := 21) dX7_canBe_81 rfl rfl ?_
                refine z_geti (pc' := 85) (x := (I1 21 6)) dX7_canBe_82 rfl fl_X7_39 rfl rfl rfl ?_
                refine z_lload_n (pc' := 86) (x := x2) dX7_canBe_85 rfl rfl ?_
                refine z_l2i (pc' := 87) dX7_canBe_86 rfl ?_
                refine z_ishr (pc' := 88) dX7_canBe_87 rfl ?_
                refine z_iconst (pc' := 89) (v := 1) dX7_canBe_88 rfl (by decide) ?_
                refine z_iand (pc' := 90) dX7_canBe_89 rfl ?_
                refine z_if_ne (pc' := 93) (tgt := 95) dX7_canBe_90 rfl (by decide) (fun c9 => ?_) (fun c9 => ?_)
                · replace h := h.1 c9
                  refine z_aload_n (pc' := 96) (x := 21) dX7_canBe_95 rfl rfl ?_
                  refine z_getr (pc' := 99) (x := 14) dX7_canBe_96 rfl fl_X7_15 rfl rfl rfl ?_
                  refine z_iload_n (pc' := 100) (x := x1) dX7_canBe_99 rfl rfl ?_
                  refine z_aload_n (pc' := 101) (x := 21) dX7_canBe_100 rfl rfl ?_
                  refine z_geti (pc' := 104) (x := (I1 21 7)) dX7_canBe_101 rfl fl_X7_46 rfl rfl rfl ?_
                  refine z_lload_n (pc' := 105) (x := x2) dX7_canBe_104 rfl rfl ?_
                  refine z_l2i (pc' := 106) dX7_canBe_105 rfl ?_
                  refine z_aload_n (pc' := 107) (x := 21) dX7_canBe_106 rfl rfl ?_
                  refine z_geti (pc' := 110) (x := (I1 21 6)) dX7_canBe_107 rfl fl_X7_39 rfl rfl rfl ?_
                  obtain ⟨d10, P10, hd10, hC10, h⟩ := h
                  refine z_callV (pc' := 113) (M' := mX4_numberAt) (As := [.int x1, .int (I1 21 7), .int (x2.toInt32), .int (I1 21 6)]) dX7_canBe_110 rfl ml_X7_75 me_X4_numberAt hC10 rfl (by decide) rfl rfl hd10 (Nat.le_of_ble_eq_true rfl) ⟨Nat.le_refl _, Nat.le_refl _⟩ rfl ?_
                  rintro _ _ ⟨y10, I10, L10, rfl, rfl, hP10⟩
                  replace h := h y10 I10 L10 hP10
                  refine z_istore (pc' := 115) (ls' := [some (.ref 21), some (.int x1), some (.long x2), none, some (.long x4), none, some (.int y10)]) dX7_canBe_113 rfl (by decide) rfl ?_
                  refine z_lload (pc' := 117) (x := x4) dX7_canBe_115 rfl rfl ?_
                  refine z_lconst (pc' := 118) (v := 1) dX7_canBe_117 rfl (by decide) ?_
                  refine z_lc_ne (pc' := 122) (tgt := 135) dX7_canBe_118 dX7_canBe_119 rfl (by decide) (fun c11 => ?_) (fun c11 => ?_)
                  · replace h := h.1 c11
                    refine z_iload (pc' := 137) (x := y10) dX7_canBe_135 rfl rfl ?_
                    refine z_bipush (pc' := 139) (v := 12) dX7_canBe_137 rfl (by decide) ?_
                    refine z_icmp_ge (pc' := 142) (tgt := 146) dX7_canBe_139 rfl (by decide) (fun c12 => ?_) (fun c12 => ?_)
                    · replace h := h.1 c12
                      refine z_iconst (pc' := 147) (v := 0) dX7_canBe_146 rfl (by decide) ?_
                      refine z_sub (pc' := 0) [none, none, none, none, none, none, none] (zsub_n (zsub_n (zsub_n (zsub_n (zsub_n (zsub_n (zsub_n zsub_nil))))))) ?_
                      exact h
                    · replace h := h.2 c12
                      refine z_iconst (pc' := 143) (v := 1) dX7_canBe_142 rfl (by decide) ?_
                      refine z_goto (pc' := 147) dX7_canBe_143 (by decide) ?_
                      refine z_sub (pc' := 0) [none, none, none, none, none, none, none] (zsub_n (zsub_n (zsub_n (zsub_n (zsub_n (zsub_n (zsub_n zsub_nil))))))) ?_
                      exact h
                  · replace h := h.2 c11
                    refine z_iload (pc' := 124) (x := y10) dX7_canBe_122 rfl rfl ?_
                    refine z_if_le (pc' := 127) (tgt := 131) dX7_canBe_124 rfl (by decide) (fun c13 => ?_) (fun c13 => ?_)
                    · replace h := h.1 c13
                      refine z_iconst (pc' := 132) (v := 0) dX7_canBe_131 rfl (by decide) ?_
                      refine z_goto (pc' := 147) dX7_canBe_132 (by decide) ?_
                      refine z_sub (pc' := 0) [none, none, none, none, none, none, none] (zsub_n (zsub_n (zsub_n (zsub_n (zsub_n (zsub_n (zsub_n zsub_nil))))))) ?_
                      exact h
                    · replace h := h.2 c13
                      refine z_iconst (pc' := 128) (v := 1) dX7_canBe_127 rfl (by decide) ?_
                      refine z_goto (pc' := 147) dX7_canBe_128 (by decide) ?_
                      refine z_sub (pc' := 0) [none, none, none, none, none, none, none] (zsub_n (zsub_n (zsub_n (zsub_n (zsub_n (zsub_n (zsub_n zsub_nil))))))) ?_
                      exact h
                · replace h := h.2 c9
                  refine z_sub (pc' := 0) [none, none, none, none, none, none, none] (zsub_n (zsub_n (zsub_n (zsub_n (zsub_n (zsub_n (zsub_n zsub_nil))))))) ?_
                  exact h
        · replace h := h.2 c5
          refine z_lload (pc' := 41) (x := x4) dX7_canBe_39 rfl rfl ?_
          refine z_lconst (pc' := 42) (v := 0) dX7_canBe_41 rfl (by decide) ?_
          refine z_lc_ne (pc' := 46) (tgt := 50) dX7_canBe_42 dX7_canBe_43 rfl (by decide) (fun c14 => ?_) (fun c14 => ?_)
          · replace h := h.1 c14
            refine z_iconst (pc' := 51) (v := 0) dX7_canBe_50 rfl (by decide) ?_
            refine z_sub (pc' := 0) [none, none, none, none, none, none, none] (zsub_n (zsub_n (zsub_n (zsub_n (zsub_n (zsub_n (zsub_n zsub_nil))))))) ?_
            exact h
          · replace h := h.2 c14
            refine z_iconst (pc' := 47) (v := 1) dX7_canBe_46 rfl (by decide) ?_
            refine z_goto (pc' := 51) dX7_canBe_47 (by decide) ?_
            refine z_sub (pc' := 0) [none, none, none, none, none, none, none] (zsub_n (zsub_n (zsub_n (zsub_n (zsub_n (zsub_n (zsub_n zsub_nil))))))) ?_
            exact h
      · replace h := h.2 c4
        refine z_sub (pc' := 0) [none, none, none, none, none, none, none] (zsub_n (zsub_n (zsub_n (zsub_n (zsub_n (zsub_n (zsub_n zsub_nil))))))) ?_
        exact h
set_option maxHeartbeats 4000000 in
set_option maxRecDepth 100000 in
theorem t_X7_canBe_29 {l : Launch} {G : zG} {d : Nat} {P : Int32 → zIM → zLM → Prop} {I : zIM} {L : zLM}    (h : P (0 : Int32) I L) : K_X7_canBe_29 l G d P I L   := by
  refine z_iconst (pc' := 30) (v := 0) dX7_canBe_29 rfl (by decide) ?_
  exact z_iret dX7_canBe_30 rfl rfl ⟨Nat.le_refl _, Nat.le_refl _⟩ ⟨_, _, _, rfl, rfl, h⟩
set_option maxHeartbeats 4000000 in
set_option maxRecDepth 100000 in
theorem t_X7_canBe_93 {l : Launch} {G : zG} {d : Nat} {P : Int32 → zIM → zLM → Prop} {I : zIM} {L : zLM}    (h : P (0 : Int32) I L) : K_X7_canBe_93 l G d P I L   := by
  refine z_iconst (pc' := 94) (v := 0) dX7_canBe_93 rfl (by decide) ?_
  exact z_iret dX7_canBe_94 rfl rfl ⟨Nat.le_refl _, Nat.le_refl _⟩ ⟨_, _, _, rfl, rfl, h⟩
set_option maxHeartbeats 4000000 in
set_option maxRecDepth 100000 in
theorem t_X7_canBe_147 {l : Launch} {G : zG} {d : Nat} {P : Int32 → zIM → zLM → Prop} {I : zIM} {L : zLM} {s0 : Int32}   (h : (s0 = 0 ∨ s0 = 1) ∧ P s0 I L) : K_X7_canBe_147 l G d P I L s0  := by
  exact z_iret dX7_canBe_147 rfl (znb h.1) ⟨Nat.le_refl _, Nat.le_refl _⟩ ⟨_, _, _, rfl, rfl, h.2⟩
set_option maxHeartbeats 4000000 in
set_option maxRecDepth 100000 in
theorem t_X7_canBe_51 {l : Launch} {G : zG} {d : Nat} {P : Int32 → zIM → zLM → Prop} {I : zIM} {L : zLM} {s0 : Int32}   (h : (s0 = 0 ∨ s0 = 1) ∧ P s0 I L) : K_X7_canBe_51 l G d P I L s0  := by
  exact z_iret dX7_canBe_51 rfl (znb h.1) ⟨Nat.le_refl _, Nat.le_refl _⟩ ⟨_, _, _, rfl, rfl, h.2⟩
set_option maxHeartbeats 4000000 in
set_option maxRecDepth 100000 in
theorem t_X7_follow {l : Launch} {G : zG} {d : Nat} {P : zIM → zLM → Prop} {I : zIM} {L : zLM} {x1 : Int32} {x2 : Int32} {x3 : Int32}  (h : ((¬ x2 = (9 : Int32) → (((¬ (I 21 1) = (-2 : Int32) → (K_X7_follow_49 l G d P I L x1 x3 x2)) ∧ ((I 21 1) = (-2 : Int32) → (∃ (d3 : Nat) (P3 : Int32 → zIM → zLM → Prop), d3 + 1 ≤ d ∧ zCi l G d3 mX4_aimAt [.ref 14, .int x1, .int (I 21 7), .int (I 21 6)] I L P3 ∧ ∀ (y3 : Int32) (I3 : zIM) (L3 : zLM), P3 y3 I3 L3 → (((x2 = y3 → (K_X7_follow_49 l G d P I3 L3 x1 x3 x2)) ∧ (¬ x2 = y3 → (K_X7_follow_49 l G d P (xI I3 21 1 x1) L3 x1 x3 x2))))))))) ∧ (x2 = (9 : Int32) → (((¬ (I 21 1) = (-2 : Int32) → (K_X7_follow_49 l G d P I L x1 x3 (-2 : Int32))) ∧ ((I 21 1) = (-2 : Int32) → (∃ (d6 : Nat) (P6 : Int32 → zIM → zLM → Prop), d6 + 1 ≤ d ∧ zCi l G d6 mX4_aimAt [.ref 14, .int x1, .int (I 21 7), .int (I 21 6)] I L P6 ∧ ∀ (y6 : Int32) (I6 : zIM) (L6 : zLM), P6 y6 I6 L6 → ((((-2 : Int32) = y6 → (K_X7_follow_49 l G d P I6 L6 x1 x3 (-2 : Int32))) ∧ (¬ (-2 : Int32) = y6 → (K_X7_follow_49 l G d P (xI I6 21 1 x1) L6 x1 x3 (-2 : Int32)))))))))))) : zCv l G d mX7_follow [.ref 21, .int x1, .int x2, .int x3] I L P := by
  refine zCn.of (ls := [some (.ref 21), some (.int x1), some (.int x2), some (.int x3), none, none]) (by decide) (Nat.le_of_ble_eq_true rfl) rfl ?_
  refine z_iload_n (pc' := 1) (x := x2) dX7_follow_0 rfl rfl ?_
  refine z_bipush (pc' := 3) (v := 9) dX7_follow_1 rfl (by decide) ?_
  refine z_icmp_ne (pc' := 6) (tgt := 11) dX7_follow_3 rfl (by decide) (fun c1 => ?_) (fun c1 => ?_)
  · replace h := h.1 c1
    refine z_iload_n (pc' := 12) (x := x2) dX7_follow_11 rfl rfl ?_
    refine z_istore (pc' := 14) (ls' := [some (.ref 21), some (.int x1), some (.int x2), some (.int x3), some (.int x2), none]) dX7_follow_12 rfl (by decide) rfl ?_
    refine z_aload_n (pc' := 15) (x := 21) dX7_follow_14 rfl rfl ?_
    refine z_geti (pc' := 18) (x := (I 21 1)) dX7_follow_15 rfl fl_X7_23 rfl rfl rfl ?_
    refine z_bipush (pc' := 20) (v := -2) dX7_follow_18 rfl (by decide) ?_
    refine z_icmp_ne (pc' := 23) (tgt := 49) dX7_follow_20 rfl (by decide) (fun c2 => ?_) (fun c2 => ?_)
    · replace h := h.1 c2
      refine z_sub (pc' := 0) [some (.ref 21), some (.int x1), none, some (.int x3), some (.int x2), none] (zsub_s (zsub_s (zsub_n (zsub_s (zsub_s (zsub_n zsub_nil)))))) ?_
      exact h
    · replace h := h.2 c2
      refine z_iload (pc' := 25) (x := x2) dX7_follow_23 rfl rfl ?_
      refine z_aload_n (pc' := 26) (x := 21) dX7_follow_25 rfl rfl ?_
      refine z_getr (pc' := 29) (x := 14) dX7_follow_26 rfl fl_X7_15 rfl rfl rfl ?_
      refine z_iload_n (pc' := 30) (x := x1) dX7_follow_29 rfl rfl ?_
      refine z_aload_n (pc' := 31) (x := 21) dX7_follow_30 rfl rfl ?_
      refine z_geti (pc' := 34) (x := (I 21 7)) dX7_follow_31 rfl fl_X7_46 rfl rfl rfl ?_
      refine z_aload_n (pc' := 35) (x := 21) dX7_follow_34 rfl rfl ?_
      refine z_geti (pc' := 38) (x := (I 21 6)) dX7_follow_35 rfl fl_X7_39 rfl rfl rfl ?_
      obtain ⟨d3, P3, hd3, hC3, h⟩ := h
      refine z_callV (pc' := 41) (M' := mX4_aimAt) (As := [.int x1, .int (I 21 7), .int (I 21 6)]) dX7_follow_38 rfl ml_X7_81 me_X4_aimAt hC3 rfl (by decide) rfl rfl hd3 (Nat.le_of_ble_eq_true rfl) ⟨Nat.le_refl _, Nat.le_refl _⟩ rfl ?_
      rintro _ _ ⟨y3, I3, L3, rfl, rfl, hP3⟩
      replace h := h y3 I3 L3 hP3
      refine z_icmp_eq (pc' := 44) (tgt := 49) dX7_follow_41 rfl (by decide) (fun c4 => ?_) (fun c4 => ?_)
      · replace h := h.1 c4
        refine z_sub (pc' := 0) [some (.ref 21), some (.int x1), none, some (.int x3), some (.int x2), none] (zsub_s (zsub_s (zsub_n (zsub_s (zsub_s (zsub_n zsub_nil)))))) ?_
        exact h
      · replace h := h.2 c4
        refine z_aload_n (pc' := 45) (x := 21) dX7_follow_44 rfl rfl ?_
        refine z_iload_n (pc' := 46) (x := x1) dX7_follow_45 rfl rfl ?_
        refine z_puti (pc' := 49) (w' := zs (xI I3 21 1 x1) L3) dX7_follow_46 rfl fl_X7_23 rfl rfl rfl rfl rfl rfl ?_
        refine z_sub (pc' := 0) [some (.ref 21), some (.int x1), none, some (.int x3), some (.int x2), none] (zsub_s (zsub_s (zsub_n (zsub_s (zsub_s (zsub_n zsub_nil)))))) ?_
        exact h
  · replace h := h.2 c1
    refine z_bipush (pc' := 8) (v := -2) dX7_follow_6 rfl (by decide) ?_
    refine z_goto (pc' := 12) dX7_follow_8 (by decide) ?_
    refine z_istore (pc' := 14) (ls' := [some (.ref 21), some (.int x1), some (.int x2), some (.int x3), some (.int (-2 : Int32)), none]) dX7_follow_12 rfl (by decide) rfl ?_
    refine z_aload_n (pc' := 15) (x := 21) dX7_follow_14 rfl rfl ?_
    refine z_geti (pc' := 18) (x := (I 21 1)) dX7_follow_15 rfl fl_X7_23 rfl rfl rfl ?_
    refine z_bipush (pc' := 20) (v := -2) dX7_follow_18 rfl (by decide) ?_
    refine z_icmp_ne (pc' := 23) (tgt := 49) dX7_follow_20 rfl (by decide) (fun c5 => ?_) (fun c5 => ?_)
    · replace h := h.1 c5
      refine z_sub (pc' := 0) [some (.ref 21), some (.int x1), none, some (.int x3), some (.int (-2 : Int32)), none] (zsub_s (zsub_s (zsub_n (zsub_s (zsub_s (zsub_n zsub_nil)))))) ?_
      exact h
    · replace h := h.2 c5
      refine z_iload (pc' := 25) (x := (-2 : Int32)) dX7_follow_23 rfl rfl ?_
      refine z_aload_n (pc' := 26) (x := 21) dX7_follow_25 rfl rfl ?_
      refine z_getr (pc' := 29) (x := 14) dX7_follow_26 rfl fl_X7_15 rfl rfl rfl ?_
      refine z_iload_n (pc' := 30) (x := x1) dX7_follow_29 rfl rfl ?_
      refine z_aload_n (pc' := 31) (x := 21) dX7_follow_30 rfl rfl ?_
      refine z_geti (pc' := 34) (x := (I 21 7)) dX7_follow_31 rfl fl_X7_46 rfl rfl rfl ?_
      refine z_aload_n (pc' := 35) (x := 21) dX7_follow_34 rfl rfl ?_
      refine z_geti (pc' := 38) (x := (I 21 6)) dX7_follow_35 rfl fl_X7_39 rfl rfl rfl ?_
      obtain ⟨d6, P6, hd6, hC6, h⟩ := h
      refine z_callV (pc' := 41) (M' := mX4_aimAt) (As := [.int x1, .int (I 21 7), .int (I 21 6)]) dX7_follow_38 rfl ml_X7_81 me_X4_aimAt hC6 rfl (by decide) rfl rfl hd6 (Nat.le_of_ble_eq_true rfl) ⟨Nat.le_refl _, Nat.le_refl _⟩ rfl ?_
      rintro _ _ ⟨y6, I6, L6, rfl, rfl, hP6⟩
      replace h := h y6 I6 L6 hP6
      refine z_icmp_eq (pc' := 44) (tgt := 49) dX7_follow_41 rfl (by decide) (fun c7 => ?_) (fun c7 => ?_)
      · replace h := h.1 c7
        refine z_sub (pc' := 0) [some (.ref 21), some (.int x1), none, some (.int x3), some (.int (-2 : Int32)), none] (zsub_s (zsub_s (zsub_n (zsub_s (zsub_s (zsub_n zsub_nil)))))) ?_
        exact h
      · replace h := h.2 c7
        refine z_aload_n (pc' := 45) (x := 21) dX7_follow_44 rfl rfl ?_
        refine z_iload_n (pc' := 46) (x := x1) dX7_follow_45 rfl rfl ?_
        refine z_puti (pc' := 49) (w' := zs (xI I6 21 1 x1) L6) dX7_follow_46 rfl fl_X7_23 rfl rfl rfl rfl rfl rfl ?_
        refine z_sub (pc' := 0) [some (.ref 21), some (.int x1), none, some (.int x3), some (.int (-2 : Int32)), none] (zsub_s (zsub_s (zsub_n (zsub_s (zsub_s (zsub_n zsub_nil)))))) ?_
        exact h
set_option maxHeartbeats 4000000 in
set_option maxRecDepth 100000 in
theorem t_X7_follow_49 {l : Launch} {G : zG} {d : Nat} {P : zIM → zLM → Prop} {I : zIM} {L : zLM} {x1 : Int32} {x3 : Int32} {x4 : Int32}   (h : ((x4 = (-2 : Int32) → (K_X7_follow_113 l G d P I L x3 x4)) ∧ (¬ x4 = (-2 : Int32) → (∃ (d2 : Nat) (P2 : Int32 → zIM → zLM → Prop), d2 + 1 ≤ d ∧ zCi l G d2 mX4_numberAt [.ref 14, .int x1, .int (I 21 7), .int x4, .int (I 21 6)] I L P2 ∧ ∀ (y2 : Int32) (I2 : zIM) (L2 : zLM), P2 y2 I2 L2 → (((x3 = 0 → (K_X7_follow_113 l G d P I2 (xL (xL L2 21 2 ((L2 21 2) * (((12 : Int32) - y2).toInt64))) 21 3 ((L2 21 3) * (12 : Int64))) x3 x4)) ∧ (¬ x3 = 0 → (K_X7_follow_113 l G d P I2 (xL (xL L2 21 2 ((L2 21 2) * (y2.toInt64))) 21 3 ((L2 21 3) * (12 : Int64))) x3 x4)))))))) : K_X7_follow_49 l G d P I L x1 x3 x4  := by
  refine z_iload (pc' := 51) (x := x4) dX7_follow_49 rfl rfl ?_
  refine z_bipush (pc' := 53) (v := -2) dX7_follow_51 rfl (by decide) ?_
  refine z_icmp_eq (pc' := 56) (tgt := 113) dX7_follow_53 rfl (by decide) (fun c1 => ?_) (fun c1 => ?_)
  · replace h := h.1 c1
    refine z_sub (pc' := 0) [some (.ref 21), none, none, some (.int x3), some (.int x4), none] (zsub_s (zsub_n (zsub_n (zsub_s (zsub_s (zsub_n zsub_nil)))))) ?_
    exact h
  · replace h := h.2 c1
    refine z_aload_n (pc' := 57) (x := 21) dX7_follow_56 rfl rfl ?_
    refine z_getr (pc' := 60) (x := 14) dX7_follow_57 rfl fl_X7_15 rfl rfl rfl ?_
    refine z_iload_n (pc' := 61) (x := x1) dX7_follow_60 rfl rfl ?_
    refine z_aload_n (pc' := 62) (x := 21) dX7_follow_61 rfl rfl ?_
    refine z_geti (pc' := 65) (x := (I 21 7)) dX7_follow_62 rfl fl_X7_46 rfl rfl rfl ?_
    refine z_iload (pc' := 67) (x := x4) dX7_follow_65 rfl rfl ?_
    refine z_aload_n (pc' := 68) (x := 21) dX7_follow_67 rfl rfl ?_
    refine z_geti (pc' := 71) (x := (I 21 6)) dX7_follow_68 rfl fl_X7_39 rfl rfl rfl ?_
    obtain ⟨d2, P2, hd2, hC2, h⟩ := h
    refine z_callV (pc' := 74) (M' := mX4_numberAt) (As := [.int x1, .int (I 21 7), .int x4, .int (I 21 6)]) dX7_follow_71 rfl ml_X7_75 me_X4_numberAt hC2 rfl (by decide) rfl rfl hd2 (Nat.le_of_ble_eq_true rfl) ⟨Nat.le_refl _, Nat.le_refl _⟩ rfl ?_
    rintro _ _ ⟨y2, I2, L2, rfl, rfl, hP2⟩
    replace h := h y2 I2 L2 hP2
    refine z_istore (pc' := 76) (ls' := [some (.ref 21), some (.int x1), none, some (.int x3), some (.int x4), some (.int y2)]) dX7_follow_74 rfl (by decide) rfl ?_
    refine z_aload_n (pc' := 77) (x := 21) dX7_follow_76 rfl rfl ?_
    refine z_dup (pc' := 78) dX7_follow_77 rfl rfl ?_
    refine z_getl (pc' := 81) (x := (L2 21 2)) dX7_follow_78 rfl fl_X7_26 rfl rfl rfl ?_
    refine z_iload_n (pc' := 82) (x := x3) dX7_follow_81 rfl rfl ?_
    refine z_if_eq (pc' := 85) (tgt := 91) dX7_follow_82 rfl (by decide) (fun c3 => ?_) (fun c3 => ?_)
    · replace h := h.1 c3
      refine z_bipush (pc' := 93) (v := 12) dX7_follow_91 rfl (by decide) ?_
      refine z_iload (pc' := 95) (x := y2) dX7_follow_93 rfl rfl ?_
      refine z_isub (pc' := 96) dX7_follow_95 rfl ?_
      refine z_i2l (pc' := 97) dX7_follow_96 rfl ?_
      refine z_lmul (pc' := 98) dX7_follow_97 rfl ?_
      refine z_putl (pc' := 101) (w' := zs I2 (xL L2 21 2 ((L2 21 2) * (((12 : Int32) - y2).toInt64)))) dX7_follow_98 rfl fl_X7_26 rfl rfl rfl rfl ?_
      refine z_aload_n (pc' := 102) (x := 21) dX7_follow_101 rfl rfl ?_
      refine z_dup (pc' := 103) dX7_follow_102 rfl rfl ?_
      refine z_getl (pc' := 106) (x := (L2 21 3)) dX7_follow_103 rfl fl_X7_30 rfl rfl rfl ?_
      refine z_ldc2 (pc' := 109) (v := 12) dX7_follow_106 rfl kl_X7_85 ?_
      refine z_lmul (pc' := 110) dX7_follow_109 rfl ?_
      refine z_putl (pc' := 113) (w' := zs I2 (xL (xL L2 21 2 ((L2 21 2) * (((12 : Int32) - y2).toInt64))) 21 3 ((L2 21 3) * (12 : Int64)))) dX7_follow_110 rfl fl_X7_30 rfl rfl rfl rfl ?_
      refine z_sub (pc' := 0) [some (.ref 21), none, none, some (.int x3), some (.int x4), none] (zsub_s (zsub_n (zsub_n (zsub_s (zsub_s (zsub_n zsub_nil)))))) ?_
      exact h
    · replace h := h.2 c3
      refine z_iload (pc' := 87) (x := y2) dX7_follow_85 rfl rfl ?_
      refine z_i2l (pc' := 88) dX7_follow_87 rfl ?_
      refine z_goto (pc' := 97) dX7_follow_88 (by decide) ?_
      refine z_lmul (pc' := 98) dX7_follow_97 rfl ?_
      refine z_putl (pc' := 101) (w' := zs I2 (xL L2 21 2 ((L2 21 2) * (y2.toInt64)))) dX7_follow_98 rfl fl_X7_26 rfl rfl rfl rfl ?_
      refine z_aload_n (pc' := 102) (x := 21) dX7_follow_101 rfl rfl ?_
      refine z_dup (pc' := 103) dX7_follow_102 rfl rfl ?_
      refine z_getl (pc' := 106) (x := (L2 21 3)) dX7_follow_103 rfl fl_X7_30 rfl rfl rfl ?_
      refine z_ldc2 (pc' := 109) (v := 12) dX7_follow_106 rfl kl_X7_85 ?_
      refine z_lmul (pc' := 110) dX7_follow_109 rfl ?_
      refine z_putl (pc' := 113) (w' := zs I2 (xL (xL L2 21 2 ((L2 21 2) * (y2.toInt64))) 21 3 ((L2 21 3) * (12 : Int64)))) dX7_follow_110 rfl fl_X7_30 rfl rfl rfl rfl ?_
      refine z_sub (pc' := 0) [some (.ref 21), none, none, some (.int x3), some (.int x4), none] (zsub_s (zsub_n (zsub_n (zsub_s (zsub_s (zsub_n zsub_nil)))))) ?_
      exact h
set_option maxHeartbeats 4000000 in
set_option maxRecDepth 100000 in
theorem t_X7_follow_113 {l : Launch} {G : zG} {d : Nat} {P : zIM → zLM → Prop} {I : zIM} {L : zLM} {x3 : Int32} {x4 : Int32}   (h : ((x3 = 0 → (K_X7_follow_132 l G d P I L)) ∧ (¬ x3 = 0 → (K_X7_follow_132 l G d P (xI I 21 6 ((I 21 6) &&& (((1 : Int32) <<< (x4 &&& 31)) ^^^ (-1 : Int32)))) L)))) : K_X7_follow_113 l G d P I L x3 x4  := by
  refine z_iload_n (pc' := 114) (x := x3) dX7_follow_113 rfl rfl ?_
  refine z_if_eq (pc' := 117) (tgt := 132) dX7_follow_114 rfl (by decide) (fun c1 => ?_) (fun c1 => ?_)
  · replace h := h.1 c1
    refine z_sub (pc' := 0) [some (.ref 21), none, none, none, none, none] (zsub_s (zsub_n (zsub_n (zsub_n (zsub_n (zsub_n zsub_nil)))))) ?_
    exact h
  · replace h := h.2 c1
    refine z_aload_n (pc' := 118) (x := 21) dX7_follow_117 rfl rfl ?_
    refine z_dup (pc' := 119) dX7_follow_118 rfl rfl ?_
    refine z_geti (pc' := 122) (x := (I 21 6)) dX7_follow_119 rfl fl_X7_39 rfl rfl rfl ?_
    refine z_iconst (pc' := 123) (v := 1) dX7_follow_122 rfl (by decide) ?_
    refine z_iload (pc' := 125) (x := x4) dX7_follow_123 rfl rfl ?_
    refine z_ishl (pc' := 126) dX7_follow_125 rfl ?_
    refine z_iconst (pc' := 127) (v := -1) dX7_follow_126 rfl (by decide) ?_
    refine z_ixor (pc' := 128) dX7_follow_127 rfl ?_
    refine z_iand (pc' := 129) dX7_follow_128 rfl ?_
    refine z_puti (pc' := 132) (w' := zs (xI I 21 6 ((I 21 6) &&& (((1 : Int32) <<< (x4 &&& 31)) ^^^ (-1 : Int32)))) L) dX7_follow_129 rfl fl_X7_39 rfl rfl rfl rfl rfl rfl ?_
    refine z_sub (pc' := 0) [some (.ref 21), none, none, none, none, none] (zsub_s (zsub_n (zsub_n (zsub_n (zsub_n (zsub_n zsub_nil)))))) ?_
    exact h
set_option maxHeartbeats 4000000 in
set_option maxRecDepth 100000 in
theorem t_X7_follow_132 {l : Launch} {G : zG} {d : Nat} {P : zIM → zLM → Prop} {I : zIM} {L : zLM}    (h : ∃ (d1 : Nat) (P1 : Int32 → zIM → zLM → Prop), d1 + 1 ≤ d ∧ zCi l G d1 mX2_after [.ref 1, .int (I 21 7), .int (I 21 6)] I L P1 ∧ ∀ (y1 : Int32) (I1 : zIM) (L1 : zLM), P1 y1 I1 L1 → (P (xI I1 21 7 y1) L1)) : K_X7_follow_132 l G d P I L   := by
  refine z_aload_n (pc' := 133) (x := 21) dX7_follow_132 rfl rfl ?_
  refine z_aload_n (pc' := 134) (x := 21) dX7_follow_133 rfl rfl ?_
  refine z_getr (pc' := 137) (x := 1) dX7_follow_134 rfl fl_X7_9 rfl rfl rfl ?_
  refine z_aload_n (pc' := 138) (x := 21) dX7_follow_137 rfl rfl ?_
  refine z_geti (pc' := 141) (x := (I 21 7)) dX7_follow_138 rfl fl_X7_46 rfl rfl rfl ?_
  refine z_aload_n (pc' := 142) (x := 21) dX7_follow_141 rfl rfl ?_
  refine z_geti (pc' := 145) (x := (I 21 6)) dX7_follow_142 rfl fl_X7_39 rfl rfl rfl ?_
  obtain ⟨d1, P1, hd1, hC1, h⟩ := h
  refine z_callV (pc' := 148) (M' := mX2_after) (As := [.int (I 21 7), .int (I 21 6)]) dX7_follow_145 rfl ml_X7_87 me_X2_after hC1 rfl (by decide) rfl rfl hd1 (Nat.le_of_ble_eq_true rfl) ⟨Nat.le_refl _, Nat.le_refl _⟩ rfl ?_
  rintro _ _ ⟨y1, I1, L1, rfl, rfl, hP1⟩
  replace h := h y1 I1 L1 hP1
  refine z_puti (pc' := 151) (w' := zs (xI I1 21 7 y1) L1) dX7_follow_148 rfl fl_X7_46 rfl rfl rfl rfl rfl rfl ?_
  exact z_vret dX7_follow_151 rfl ⟨Nat.le_refl _, Nat.le_refl _⟩ ⟨_, _, rfl, rfl, h⟩
