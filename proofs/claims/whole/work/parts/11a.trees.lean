/-! ===== trees (written by wip/whole/gen/emit.py) ===== -/
abbrev K_X2_turnAs_12 (l : Launch) (G : zG) (d : Nat) (P : Int32 → zIM → zLM → Prop) (I : zIM) (L : zLM) (x1 : Int32) (x2 : Int32) (x3 : Int32) (x4 : Int32) : Prop := zWp (zXi l G d P) mX2_turnAs (0, 0) 12 [some (.ref 1), some (.int x1), some (.int x2), some (.int x3), some (.int x4), none] [] (zs I L)
abbrev K_X2_turnAs_79 (l : Launch) (G : zG) (d : Nat) (P : Int32 → zIM → zLM → Prop) (I : zIM) (L : zLM) (x2 : Int32) (x4 : Int32) : Prop := zWp (zXi l G d P) mX2_turnAs (0, 0) 79 [some (.ref 1), none, some (.int x2), none, some (.int x4), none] [] (zs I L)
abbrev K_X2_first_2 (l : Launch) (G : zG) (d : Nat) (P : Int32 → zIM → zLM → Prop) (I : zIM) (L : zLM) (x1 : Int32) (x2 : Int32) : Prop := zWp (zXi l G d P) mX2_first (0, 0) 2 [some (.ref 1), some (.int x1), some (.int x2)] [] (zs I L)
abbrev K_X2_strongest_6 (l : Launch) (G : zG) (d : Nat) (P : Int32 → zIM → zLM → Prop) (I : zIM) (L : zLM) (x1 : Int32) (x2 : Int32) (x3 : Int32) (x4 : Int32) : Prop := zWp (zXi l G d P) mX2_strongest (0, 0) 6 [some (.ref 1), some (.int x1), some (.int x2), some (.int x3), some (.int x4), none] [] (zs I L)
abbrev K_X2_findFollowers_2 (l : Launch) (G : zG) (d : Nat) (P : zIM → zLM → Prop) (I : zIM) (L : zLM) (x1 : Int32) : Prop := zWp (zXv l G d P) mX2_findFollowers (0, 0) 2 [some (.ref 1), some (.int x1), none] [] (zs I L)
abbrev K_X2_findFollowers_30 (l : Launch) (G : zG) (d : Nat) (P : zIM → zLM → Prop) (I : zIM) (L : zLM) (x1 : Int32) : Prop := zWp (zXv l G d P) mX2_findFollowers (0, 0) 30 [some (.ref 1), some (.int x1), none] [] (zs I L)
abbrev K_X2_findFollowers_40 (l : Launch) (G : zG) (d : Nat) (P : zIM → zLM → Prop) (I : zIM) (L : zLM) (x1 : Int32) (x2 : Int32) : Prop := zWp (zXv l G d P) mX2_findFollowers (0, 0) 40 [some (.ref 1), some (.int x1), some (.int x2)] [] (zs I L)
abbrev K_X2_followerOf_10 (l : Launch) (G : zG) (d : Nat) (P : Int32 → zIM → zLM → Prop) (I : zIM) (L : zLM) (x1 : Int32) (x2 : Int32) (x3 : Int32) (x4 : Int32) : Prop := zWp (zXi l G d P) mX2_followerOf (0, 0) 10 [some (.ref 1), some (.int x1), some (.int x2), some (.int x3), some (.int x4)] [] (zs I L)
abbrev K_X5_holdRow_17 (l : Launch) (G : zG) (d : Nat) (P : zIM → zLM → Prop) (I : zIM) (L : zLM) (x2 : Int32) (x3 : Int32) (q0 : Nat) : Prop := zWp (zXv l G d P) mX5_holdRow (0, 0) 17 [some (.ref (31 + 2 * q0)), none, some (.int x2), some (.int x3)] [] (zs I L)
set_option maxHeartbeats 4000000 in
set_option maxRecDepth 100000 in
theorem t_X0_came {l : Launch} {G : zG} {d : Nat} {P : zIM → zLM → Prop} {I : zIM} {L : zLM} {x1 : Int32} {x2 : Int32} {x3 : Int32} {x4 : Int32}  (h : (((I 22 4) < (40 : Int32) → (∃ j2 : Nat, (I 22 4) = nI j2 ∧ j2 < 40 ∧ (P (xI (xI (xI (xI (xI (xI I 23 j2 x1) 24 j2 x2) 25 j2 x3) 26 j2 x4) 22 4 ((I 22 4) + (1 : Int32))) 22 5 ((I 22 4) + (1 : Int32))) L))) ∧ (¬ (I 22 4) < (40 : Int32) → (∃ (d3 : Nat) (P3 : zIM → zLM → Prop), d3 + 1 ≤ d ∧ zCv l G d3 mX0_dropFirst [.ref 23] I L P3 ∧ ∀ (I3 : zIM) (L3 : zLM), P3 I3 L3 → (∃ (d4 : Nat) (P4 : zIM → zLM → Prop), d4 + 1 ≤ d ∧ zCv l G d4 mX0_dropFirst [.ref 24] I3 L3 P4 ∧ ∀ (I4 : zIM) (L4 : zLM), P4 I4 L4 → (∃ (d5 : Nat) (P5 : zIM → zLM → Prop), d5 + 1 ≤ d ∧ zCv l G d5 mX0_dropFirst [.ref 25] I4 L4 P5 ∧ ∀ (I5 : zIM) (L5 : zLM), P5 I5 L5 → (∃ (d6 : Nat) (P6 : zIM → zLM → Prop), d6 + 1 ≤ d ∧ zCv l G d6 mX0_dropFirst [.ref 26] I5 L5 P6 ∧ ∀ (I6 : zIM) (L6 : zLM), P6 I6 L6 → (P (xI (xI (xI (xI (xI (xI (xI I6 22 4 (39 : Int32)) 23 39 x1) 24 39 x2) 25 39 x3) 26 39 x4) 22 4 ((39 : Int32) + (1 : Int32))) 22 5 ((39 : Int32) + (1 : Int32))) L6)))))))) : zCv l G d mX0_came [.ref 22, .int x1, .int x2, .int x3, .int x4] I L P := by
  refine zCn.of (ls := [some (.ref 22), some (.int x1), some (.int x2), some (.int x3), some (.int x4)]) (by decide) (Nat.le_of_ble_eq_true rfl) rfl ?_
  refine z_aload_n (pc' := 1) (x := 22) dX0_came_0 rfl rfl ?_
  refine z_geti (pc' := 4) (x := (I 22 4)) dX0_came_1 rfl fl_X0_24 rfl rfl rfl ?_
  refine z_bipush (pc' := 6) (v := 40) dX0_came_4 rfl (by decide) ?_
  refine z_icmp_lt (pc' := 9) (tgt := 43) dX0_came_6 rfl (by decide) (fun c1 => ?_) (fun c1 => ?_)
  · replace h := h.1 c1
    refine z_aload_n (pc' := 44) (x := 22) dX0_came_43 rfl rfl ?_
    refine z_getr (pc' := 47) (x := 23) dX0_came_44 rfl fl_X0_11 rfl rfl rfl ?_
    refine z_aload_n (pc' := 48) (x := 22) dX0_came_47 rfl rfl ?_
    refine z_geti (pc' := 51) (x := (I 22 4)) dX0_came_48 rfl fl_X0_24 rfl rfl rfl ?_
    refine z_iload_n (pc' := 52) (x := x1) dX0_came_51 rfl rfl ?_
    obtain ⟨j2, ha2, hb2, h⟩ := h
    refine z_iast (pc' := 53) (j := j2) (w' := zs (xI I 23 j2 x1) L) dX0_came_52 rfl rfl (by decide) ha2 hb2 rfl ?_
    refine z_aload_n (pc' := 54) (x := 22) dX0_came_53 rfl rfl ?_
    refine z_getr (pc' := 57) (x := 24) dX0_came_54 rfl fl_X0_15 rfl rfl rfl ?_
    refine z_aload_n (pc' := 58) (x := 22) dX0_came_57 rfl rfl ?_
    refine z_geti (pc' := 61) (x := (I 22 4)) dX0_came_58 rfl fl_X0_24 rfl rfl rfl ?_
    refine z_iload_n (pc' := 62) (x := x2) dX0_came_61 rfl rfl ?_
    refine z_iast (pc' := 63) (j := j2) (w' := zs (xI (xI I 23 j2 x1) 24 j2 x2) L) dX0_came_62 rfl rfl (by decide) ha2 hb2 rfl ?_
    refine z_aload_n (pc' := 64) (x := 22) dX0_came_63 rfl rfl ?_
    refine z_getr (pc' := 67) (x := 25) dX0_came_64 rfl fl_X0_18 rfl rfl rfl ?_
    refine z_aload_n (pc' := 68) (x := 22) dX0_came_67 rfl rfl ?_
    refine z_geti (pc' := 71) (x := (I 22 4)) dX0_came_68 rfl fl_X0_24 rfl rfl rfl ?_
    refine z_iload_n (pc' := 72) (x := x3) dX0_came_71 rfl rfl ?_
    refine z_iast (pc' := 73) (j := j2) (w' := zs (xI (xI (xI I 23 j2 x1) 24 j2 x2) 25 j2 x3) L) dX0_came_72 rfl rfl (by decide) ha2 hb2 rfl ?_
    refine z_aload_n (pc' := 74) (x := 22) dX0_came_73 rfl rfl ?_
    refine z_getr (pc' := 77) (x := 26) dX0_came_74 rfl fl_X0_21 rfl rfl rfl ?_
    refine z_aload_n (pc' := 78) (x := 22) dX0_came_77 rfl rfl ?_
    refine z_geti (pc' := 81) (x := (I 22 4)) dX0_came_78 rfl fl_X0_24 rfl rfl rfl ?_
    refine z_iload (pc' := 83) (x := x4) dX0_came_81 rfl rfl ?_
    refine z_iast (pc' := 84) (j := j2) (w' := zs (xI (xI (xI (xI I 23 j2 x1) 24 j2 x2) 25 j2 x3) 26 j2 x4) L) dX0_came_83 rfl rfl (by decide) ha2 hb2 rfl ?_
    refine z_aload_n (pc' := 85) (x := 22) dX0_came_84 rfl rfl ?_
    refine z_dup (pc' := 86) dX0_came_85 rfl rfl ?_
    refine z_geti (pc' := 89) (x := (I 22 4)) dX0_came_86 rfl fl_X0_24 rfl rfl rfl ?_
    refine z_iconst (pc' := 90) (v := 1) dX0_came_89 rfl (by decide) ?_
    refine z_iadd (pc' := 91) dX0_came_90 rfl ?_
    refine z_puti (pc' := 94) (w' := zs (xI (xI (xI (xI (xI I 23 j2 x1) 24 j2 x2) 25 j2 x3) 26 j2 x4) 22 4 ((I 22 4) + (1 : Int32))) L) dX0_came_91 rfl fl_X0_24 rfl rfl rfl rfl rfl rfl ?_
    refine z_aload_n (pc' := 95) (x := 22) dX0_came_94 rfl rfl ?_
    refine z_aload_n (pc' := 96) (x := 22) dX0_came_95 rfl rfl ?_
    refine z_geti (pc' := 99) (x := ((I 22 4) + (1 : Int32))) dX0_came_96 rfl fl_X0_24 rfl rfl rfl ?_
    refine z_puti (pc' := 102) (w' := zs (xI (xI (xI (xI (xI (xI I 23 j2 x1) 24 j2 x2) 25 j2 x3) 26 j2 x4) 22 4 ((I 22 4) + (1 : Int32))) 22 5 ((I 22 4) + (1 : Int32))) L) dX0_came_99 rfl fl_X0_28 rfl rfl rfl rfl rfl rfl ?_
    exact z_vret dX0_came_102 rfl ⟨Nat.le_refl _, Nat.le_refl _⟩ ⟨_, _, rfl, rfl, h⟩
  · replace h := h.2 c1
    refine z_aload_n (pc' := 10) (x := 22) dX0_came_9 rfl rfl ?_
    refine z_getr (pc' := 13) (x := 23) dX0_came_10 rfl fl_X0_11 rfl rfl rfl ?_
    obtain ⟨d3, P3, hd3, hC3, h⟩ := h
    refine z_callS (pc' := 16) (M' := mX0_dropFirst) (As := [.ref 23]) dX0_came_13 rfl ml_X0_31 me_X0_dropFirst hC3 rfl hd3 (Nat.le_of_ble_eq_true rfl) ⟨Nat.le_refl _, Nat.le_refl _⟩ rfl ?_
    rintro _ _ ⟨I3, L3, rfl, rfl, hP3⟩
    replace h := h I3 L3 hP3
    refine z_aload_n (pc' := 17) (x := 22) dX0_came_16 rfl rfl ?_
    refine z_getr (pc' := 20) (x := 24) dX0_came_17 rfl fl_X0_15 rfl rfl rfl ?_
    obtain ⟨d4, P4, hd4, hC4, h⟩ := h
    refine z_callS (pc' := 23) (M' := mX0_dropFirst) (As := [.ref 24]) dX0_came_20 rfl ml_X0_31 me_X0_dropFirst hC4 rfl hd4 (Nat.le_of_ble_eq_true rfl) ⟨Nat.le_refl _, Nat.le_refl _⟩ rfl ?_
    rintro _ _ ⟨I4, L4, rfl, rfl, hP4⟩
    replace h := h I4 L4 hP4
    refine z_aload_n (pc' := 24) (x := 22) dX0_came_23 rfl rfl ?_
    refine z_getr (pc' := 27) (x := 25) dX0_came_24 rfl fl_X0_18 rfl rfl rfl ?_
    obtain ⟨d5, P5, hd5, hC5, h⟩ := h
    refine z_callS (pc' := 30) (M' := mX0_dropFirst) (As := [.ref 25]) dX0_came_27 rfl ml_X0_31 me_X0_dropFirst hC5 rfl hd5 (Nat.le_of_ble_eq_true rfl) ⟨Nat.le_refl _, Nat.le_refl _⟩ rfl ?_
    rintro _ _ ⟨I5, L5, rfl, rfl, hP5⟩
    replace h := h I5 L5 hP5
    refine z_aload_n (pc' := 31) (x := 22) dX0_came_30 rfl rfl ?_
    refine z_getr (pc' := 34) (x := 26) dX0_came_31 rfl fl_X0_21 rfl rfl rfl ?_
    obtain ⟨d6, P6, hd6, hC6, h⟩ := h
    refine z_callS (pc' := 37) (M' := mX0_dropFirst) (As := [.ref 26]) dX0_came_34 rfl ml_X0_31 me_X0_dropFirst hC6 rfl hd6 (Nat.le_of_ble_eq_true rfl) ⟨Nat.le_refl _, Nat.le_refl _⟩ rfl ?_
    rintro _ _ ⟨I6, L6, rfl, rfl, hP6⟩
    replace h := h I6 L6 hP6
    refine z_aload_n (pc' := 38) (x := 22) dX0_came_37 rfl rfl ?_
    refine z_bipush (pc' := 40) (v := 39) dX0_came_38 rfl (by decide) ?_
    refine z_puti (pc' := 43) (w' := zs (xI I6 22 4 (39 : Int32)) L6) dX0_came_40 rfl fl_X0_24 rfl rfl rfl rfl rfl rfl ?_
    refine z_aload_n (pc' := 44) (x := 22) dX0_came_43 rfl rfl ?_
    refine z_getr (pc' := 47) (x := 23) dX0_came_44 rfl fl_X0_11 rfl rfl rfl ?_
    refine z_aload_n (pc' := 48) (x := 22) dX0_came_47 rfl rfl ?_
    refine z_geti (pc' := 51) (x := (39 : Int32)) dX0_came_48 rfl fl_X0_24 rfl rfl rfl ?_
    refine z_iload_n (pc' := 52) (x := x1) dX0_came_51 rfl rfl ?_
    refine z_iast (pc' := 53) (j := 39) (w' := zs (xI (xI I6 22 4 (39 : Int32)) 23 39 x1) L6) dX0_came_52 rfl rfl (by decide) rfl (by decide) rfl ?_
    refine z_aload_n (pc' := 54) (x := 22) dX0_came_53 rfl rfl ?_
    refine z_getr (pc' := 57) (x := 24) dX0_came_54 rfl fl_X0_15 rfl rfl rfl ?_
    refine z_aload_n (pc' := 58) (x := 22) dX0_came_57 rfl rfl ?_
    refine z_geti (pc' := 61) (x := (39 : Int32)) dX0_came_58 rfl fl_X0_24 rfl rfl rfl ?_
    refine z_iload_n (pc' := 62) (x := x2) dX0_came_61 rfl rfl ?_
    refine z_iast (pc' := 63) (j := 39) (w' := zs (xI (xI (xI I6 22 4 (39 : Int32)) 23 39 x1) 24 39 x2) L6) dX0_came_62 rfl rfl (by decide) rfl (by decide) rfl ?_
    refine z_aload_n (pc' := 64) (x := 22) dX0_came_63 rfl rfl ?_
    refine z_getr (pc' := 67) (x := 25) dX0_came_64 rfl fl_X0_18 rfl rfl rfl ?_
    refine z_aload_n (pc' := 68) (x := 22) dX0_came_67 rfl rfl ?_
    refine z_geti (pc' := 71) (x := (39 : Int32)) dX0_came_68 rfl fl_X0_24 rfl rfl rfl ?_
    refine z_iload_n (pc' := 72) (x := x3) dX0_came_71 rfl rfl ?_
    refine z_iast (pc' := 73) (j := 39) (w' := zs (xI (xI (xI (xI I6 22 4 (39 : Int32)) 23 39 x1) 24 39 x2) 25 39 x3) L6) dX0_came_72 rfl rfl (by decide) rfl (by decide) rfl ?_
    refine z_aload_n (pc' := 74) (x := 22) dX0_came_73 rfl rfl ?_
    refine z_getr (pc' := 77) (x := 26) dX0_came_74 rfl fl_X0_21 rfl rfl rfl ?_
    refine z_aload_n (pc' := 78) (x := 22) dX0_came_77 rfl rfl ?_
    refine z_geti (pc' := 81) (x := (39 : Int32)) dX0_came_78 rfl fl_X0_24 rfl rfl rfl ?_
    refine z_iload (pc' := 83) (x := x4) dX0_came_81 rfl rfl ?_
    refine z_iast (pc' := 84) (j := 39) (w' := zs (xI (xI (xI (xI (xI I6 22 4 (39 : Int32)) 23 39 x1) 24 39 x2) 25 39 x3) 26 39 x4) L6) dX0_came_83 rfl rfl (by decide) rfl (by decide) rfl ?_
    refine z_aload_n (pc' := 85) (x := 22) dX0_came_84 rfl rfl ?_
    refine z_dup (pc' := 86) dX0_came_85 rfl rfl ?_
    refine z_geti (pc' := 89) (x := (39 : Int32)) dX0_came_86 rfl fl_X0_24 rfl rfl rfl ?_
    refine z_iconst (pc' := 90) (v := 1) dX0_came_89 rfl (by decide) ?_
    refine z_iadd (pc' := 91) dX0_came_90 rfl ?_
    refine z_puti (pc' := 94) (w' := zs (xI (xI (xI (xI (xI (xI I6 22 4 (39 : Int32)) 23 39 x1) 24 39 x2) 25 39 x3) 26 39 x4) 22 4 ((39 : Int32) + (1 : Int32))) L6) dX0_came_91 rfl fl_X0_24 rfl rfl rfl rfl rfl rfl ?_
    refine z_aload_n (pc' := 95) (x := 22) dX0_came_94 rfl rfl ?_
    refine z_aload_n (pc' := 96) (x := 22) dX0_came_95 rfl rfl ?_
    refine z_geti (pc' := 99) (x := ((39 : Int32) + (1 : Int32))) dX0_came_96 rfl fl_X0_24 rfl rfl rfl ?_
    refine z_puti (pc' := 102) (w' := zs (xI (xI (xI (xI (xI (xI (xI I6 22 4 (39 : Int32)) 23 39 x1) 24 39 x2) 25 39 x3) 26 39 x4) 22 4 ((39 : Int32) + (1 : Int32))) 22 5 ((39 : Int32) + (1 : Int32))) L6) dX0_came_99 rfl fl_X0_28 rfl rfl rfl rfl rfl rfl ?_
    exact z_vret dX0_came_102 rfl ⟨Nat.le_refl _, Nat.le_refl _⟩ ⟨_, _, rfl, rfl, h⟩
set_option maxHeartbeats 4000000 in
set_option maxRecDepth 100000 in
theorem t_X0_takeBack {l : Launch} {G : zG} {d : Nat} {P : Int32 → zIM → zLM → Prop} {I : zIM} {L : zLM}   (h : ((¬ (I 22 4) = 0 → (P ((I 22 4) - (1 : Int32)) (xI I 22 4 ((I 22 4) - (1 : Int32))) L)) ∧ ((I 22 4) = 0 → (P (-2 : Int32) I L)))) : zCi l G d mX0_takeBack [.ref 22] I L P := by
  refine zCn.of (ls := [some (.ref 22)]) (by decide) (Nat.le_of_ble_eq_true rfl) rfl ?_
  refine z_aload_n (pc' := 1) (x := 22) dX0_takeBack_0 rfl rfl ?_
  refine z_geti (pc' := 4) (x := (I 22 4)) dX0_takeBack_1 rfl fl_X0_24 rfl rfl rfl ?_
  refine z_if_ne (pc' := 7) (tgt := 10) dX0_takeBack_4 rfl (by decide) (fun c1 => ?_) (fun c1 => ?_)
  · replace h := h.1 c1
    refine z_aload_n (pc' := 11) (x := 22) dX0_takeBack_10 rfl rfl ?_
    refine z_dup (pc' := 12) dX0_takeBack_11 rfl rfl ?_
    refine z_geti (pc' := 15) (x := (I 22 4)) dX0_takeBack_12 rfl fl_X0_24 rfl rfl rfl ?_
    refine z_iconst (pc' := 16) (v := 1) dX0_takeBack_15 rfl (by decide) ?_
    refine z_isub (pc' := 17) dX0_takeBack_16 rfl ?_
    refine z_puti (pc' := 20) (w' := zs (xI I 22 4 ((I 22 4) - (1 : Int32))) L) dX0_takeBack_17 rfl fl_X0_24 rfl rfl rfl rfl rfl rfl ?_
    refine z_aload_n (pc' := 21) (x := 22) dX0_takeBack_20 rfl rfl ?_
    refine z_geti (pc' := 24) (x := ((I 22 4) - (1 : Int32))) dX0_takeBack_21 rfl fl_X0_24 rfl rfl rfl ?_
    exact z_iret dX0_takeBack_24 rfl rfl ⟨Nat.le_refl _, Nat.le_refl _⟩ ⟨_, _, _, rfl, rfl, h⟩
  · replace h := h.2 c1
    refine z_bipush (pc' := 9) (v := -2) dX0_takeBack_7 rfl (by decide) ?_
    exact z_iret dX0_takeBack_9 rfl rfl ⟨Nat.le_refl _, Nat.le_refl _⟩ ⟨_, _, _, rfl, rfl, h⟩
set_option maxHeartbeats 4000000 in
set_option maxRecDepth 100000 in
theorem t_X0_takeAgain {l : Launch} {G : zG} {d : Nat} {P : Int32 → zIM → zLM → Prop} {I : zIM} {L : zLM}   (h : (((I 22 4) < (I 22 5) → (P (((I 22 4) + (1 : Int32)) - (1 : Int32)) (xI I 22 4 ((I 22 4) + (1 : Int32))) L)) ∧ (¬ (I 22 4) < (I 22 5) → (P (-2 : Int32) I L)))) : zCi l G d mX0_takeAgain [.ref 22] I L P := by
  refine zCn.of (ls := [some (.ref 22)]) (by decide) (Nat.le_of_ble_eq_true rfl) rfl ?_
  refine z_aload_n (pc' := 1) (x := 22) dX0_takeAgain_0 rfl rfl ?_
  refine z_geti (pc' := 4) (x := (I 22 4)) dX0_takeAgain_1 rfl fl_X0_24 rfl rfl rfl ?_
  refine z_aload_n (pc' := 5) (x := 22) dX0_takeAgain_4 rfl rfl ?_
  refine z_geti (pc' := 8) (x := (I 22 5)) dX0_takeAgain_5 rfl fl_X0_28 rfl rfl rfl ?_
  refine z_icmp_lt (pc' := 11) (tgt := 14) dX0_takeAgain_8 rfl (by decide) (fun c1 => ?_) (fun c1 => ?_)
  · replace h := h.1 c1
    refine z_aload_n (pc' := 15) (x := 22) dX0_takeAgain_14 rfl rfl ?_
    refine z_dup (pc' := 16) dX0_takeAgain_15 rfl rfl ?_
    refine z_geti (pc' := 19) (x := (I 22 4)) dX0_takeAgain_16 rfl fl_X0_24 rfl rfl rfl ?_
    refine z_iconst (pc' := 20) (v := 1) dX0_takeAgain_19 rfl (by decide) ?_
    refine z_iadd (pc' := 21) dX0_takeAgain_20 rfl ?_
    refine z_puti (pc' := 24) (w' := zs (xI I 22 4 ((I 22 4) + (1 : Int32))) L) dX0_takeAgain_21 rfl fl_X0_24 rfl rfl rfl rfl rfl rfl ?_
    refine z_aload_n (pc' := 25) (x := 22) dX0_takeAgain_24 rfl rfl ?_
    refine z_geti (pc' := 28) (x := ((I 22 4) + (1 : Int32))) dX0_takeAgain_25 rfl fl_X0_24 rfl rfl rfl ?_
    refine z_iconst (pc' := 29) (v := 1) dX0_takeAgain_28 rfl (by decide) ?_
    refine z_isub (pc' := 30) dX0_takeAgain_29 rfl ?_
    exact z_iret dX0_takeAgain_30 rfl rfl ⟨Nat.le_refl _, Nat.le_refl _⟩ ⟨_, _, _, rfl, rfl, h⟩
  · replace h := h.2 c1
    refine z_bipush (pc' := 13) (v := -2) dX0_takeAgain_11 rfl (by decide) ?_
    exact z_iret dX0_takeAgain_13 rfl rfl ⟨Nat.le_refl _, Nat.le_refl _⟩ ⟨_, _, _, rfl, rfl, h⟩
set_option maxHeartbeats 4000000 in
set_option maxRecDepth 100000 in
theorem t_X0_dropFirst {l : Launch} {G : zG} {d : Nat} {P : zIM → zLM → Prop} {I : zIM} {L : zLM} {q0 : Nat} (hq0 : zS0[q0]? = some (0, 40)) (hdp : 1 ≤ d) (h : P (xcI I q0 q0 1 0 39) L) : zCv l G d mX0_dropFirst [.ref q0] I L P := by
  refine zCn.of (ls := [some (.ref q0)]) (by decide) (Nat.le_of_ble_eq_true rfl) rfl ?_
  refine z_aload_n (pc' := 1) (x := q0) dX0_dropFirst_0 rfl rfl ?_
  refine z_iconst (pc' := 2) (v := 1) dX0_dropFirst_1 rfl (by decide) ?_
  refine z_aload_n (pc' := 3) (x := q0) dX0_dropFirst_2 rfl rfl ?_
  refine z_iconst (pc' := 4) (v := 0) dX0_dropFirst_3 rfl (by decide) ?_
  refine z_bipush (pc' := 6) (v := 39) dX0_dropFirst_4 rfl (by decide) ?_
  refine z_cpyi (pc' := 9) (sp := 1) (dp := 0) (n := 39) (w' := zs (xcI I q0 q0 1 0 39) L) dX0_dropFirst_6 rfl ml_X0_35 zcp_m hdp (Nat.le_of_ble_eq_true rfl) hq0 hq0 rfl rfl rfl (by decide) (by decide) (by decide) rfl ?_
  exact z_vret dX0_dropFirst_9 rfl ⟨Nat.le_refl _, Nat.le_refl _⟩ ⟨_, _, rfl, rfl, h⟩
set_option maxHeartbeats 4000000 in
set_option maxRecDepth 100000 in
theorem t_X1_start {l : Launch} {G : zG} {d : Nat} {P : zIM → zLM → Prop} {I : zIM} {L : zLM}   (h : ∃ (d1 : Nat) (P1 : Int32 → zIM → zLM → Prop), d1 + 1 ≤ d ∧ zCi l G d1 mX2_all [.ref 1] I L P1 ∧ ∀ (y1 : Int32) (I1 : zIM) (L1 : zLM), P1 y1 I1 L1 → (∃ (d2 : Nat) (P2 : Int32 → zIM → zLM → Prop), d2 + 1 ≤ d ∧ zCi l G d2 mX2_first [.ref 1, .int y1] (xI (xI I1 20 0 y1) 20 1 (0 : Int32)) L1 P2 ∧ ∀ (y2 : Int32) (I2 : zIM) (L2 : zLM), P2 y2 I2 L2 → (P (xI I2 20 2 y2) L2))) : zCv l G d mX1_start [.ref 20] I L P := by
  refine zCn.of (ls := [some (.ref 20)]) (by decide) (Nat.le_of_ble_eq_true rfl) rfl ?_
  refine z_aload_n (pc' := 1) (x := 20) dX1_start_0 rfl rfl ?_
  refine z_aload_n (pc' := 2) (x := 20) dX1_start_1 rfl rfl ?_
  refine z_getr (pc' := 5) (x := 1) dX1_start_2 rfl fl_X1_23 rfl rfl rfl ?_
  obtain ⟨d1, P1, hd1, hC1, h⟩ := h
  refine z_callV (pc' := 8) (M' := mX2_all) (As := []) dX1_start_5 rfl ml_X1_27 me_X2_all hC1 rfl (by decide) rfl rfl hd1 (Nat.le_of_ble_eq_true rfl) ⟨Nat.le_refl _, Nat.le_refl _⟩ rfl ?_
  rintro _ _ ⟨y1, I1, L1, rfl, rfl, hP1⟩
  replace h := h y1 I1 L1 hP1
  refine z_puti (pc' := 11) (w' := zs (xI I1 20 0 y1) L1) dX1_start_8 rfl fl_X1_7 rfl rfl rfl rfl rfl rfl ?_
  refine z_aload_n (pc' := 12) (x := 20) dX1_start_11 rfl rfl ?_
  refine z_iconst (pc' := 13) (v := 0) dX1_start_12 rfl (by decide) ?_
  refine z_puti (pc' := 16) (w' := zs (xI (xI I1 20 0 y1) 20 1 (0 : Int32)) L1) dX1_start_13 rfl fl_X1_13 rfl rfl rfl rfl rfl rfl ?_
  refine z_aload_n (pc' := 17) (x := 20) dX1_start_16 rfl rfl ?_
  refine z_aload_n (pc' := 18) (x := 20) dX1_start_17 rfl rfl ?_
  refine z_getr (pc' := 21) (x := 1) dX1_start_18 rfl fl_X1_23 rfl rfl rfl ?_
  refine z_aload_n (pc' := 22) (x := 20) dX1_start_21 rfl rfl ?_
  refine z_geti (pc' := 25) (x := y1) dX1_start_22 rfl fl_X1_7 rfl rfl rfl ?_
  obtain ⟨d2, P2, hd2, hC2, h⟩ := h
  refine z_callV (pc' := 28) (M' := mX2_first) (As := [.int y1]) dX1_start_25 rfl ml_X1_33 me_X2_first hC2 rfl (by decide) rfl rfl hd2 (Nat.le_of_ble_eq_true rfl) ⟨Nat.le_refl _, Nat.le_refl _⟩ rfl ?_
  rintro _ _ ⟨y2, I2, L2, rfl, rfl, hP2⟩
  replace h := h y2 I2 L2 hP2
  refine z_puti (pc' := 31) (w' := zs (xI I2 20 2 y2) L2) dX1_start_28 rfl fl_X1_16 rfl rfl rfl rfl rfl rfl ?_
  exact z_vret dX1_start_31 rfl ⟨Nat.le_refl _, Nat.le_refl _⟩ ⟨_, _, rfl, rfl, h⟩
set_option maxHeartbeats 4000000 in
set_option maxRecDepth 100000 in
theorem t_X1_startForNewGroup {l : Launch} {G : zG} {d : Nat} {P : zIM → zLM → Prop} {I : zIM} {L : zLM}   (h : ∃ (d1 : Nat) (P1 : zIM → zLM → Prop), d1 + 1 ≤ d ∧ zCv l G d1 mX1_start [.ref 20] I L P1 ∧ ∀ (I1 : zIM) (L1 : zLM), P1 I1 L1 → (P (xI I1 20 4 (0 : Int32)) L1)) : zCv l G d mX1_startForNewGroup [.ref 20] I L P := by
  refine zCn.of (ls := [some (.ref 20)]) (by decide) (Nat.le_of_ble_eq_true rfl) rfl ?_
  refine z_aload_n (pc' := 1) (x := 20) dX1_startForNewGroup_0 rfl rfl ?_
  obtain ⟨d1, P1, hd1, hC1, h⟩ := h
  refine z_callV (pc' := 4) (M' := mX1_start) (As := []) dX1_startForNewGroup_1 rfl ml_X1_37 me_X1_start hC1 rfl (by decide) rfl rfl hd1 (Nat.le_of_ble_eq_true rfl) ⟨Nat.le_refl _, Nat.le_refl _⟩ rfl ?_
  rintro _ _ ⟨I1, L1, rfl, rfl, hP1⟩
  replace h := h I1 L1 hP1
  refine z_aload_n (pc' := 5) (x := 20) dX1_startForNewGroup_4 rfl rfl ?_
  refine z_iconst (pc' := 6) (v := 0) dX1_startForNewGroup_5 rfl (by decide) ?_
  refine z_puti (pc' := 9) (w' := zs (xI I1 20 4 (0 : Int32)) L1) dX1_startForNewGroup_6 rfl fl_X1_19 rfl rfl rfl rfl rfl rfl ?_
  exact z_vret dX1_startForNewGroup_9 rfl ⟨Nat.le_refl _, Nat.le_refl _⟩ ⟨_, _, rfl, rfl, h⟩
set_option maxHeartbeats 4000000 in
set_option maxRecDepth 100000 in
theorem t_X1_throwAt {l : Launch} {G : zG} {d : Nat} {P : zIM → zLM → Prop} {I : zIM} {L : zLM} {x1 : Int32} {x2 : Int32}  (h : ((x2 = 0 → (∃ (d2 : Nat) (P2 : Int32 → zIM → zLM → Prop), d2 + 1 ≤ d ∧ zCi l G d2 mX2_after [.ref 1, .int (I 20 2), .int (I 20 0)] I L P2 ∧ ∀ (y2 : Int32) (I2 : zIM) (L2 : zLM), P2 y2 I2 L2 → (P (xI (xI I2 20 2 y2) 20 1 ((I2 20 1) + (1 : Int32))) L2))) ∧ (¬ x2 = 0 → (∃ (d3 : Nat) (P3 : Int32 → zIM → zLM → Prop), d3 + 1 ≤ d ∧ zCi l G d3 mX2_after [.ref 1, .int (I 20 2), .int ((I 20 0) &&& (((1 : Int32) <<< (x1 &&& 31)) ^^^ (-1 : Int32)))] (xI I 20 0 ((I 20 0) &&& (((1 : Int32) <<< (x1 &&& 31)) ^^^ (-1 : Int32)))) L P3 ∧ ∀ (y3 : Int32) (I3 : zIM) (L3 : zLM), P3 y3 I3 L3 → (P (xI (xI I3 20 2 y3) 20 1 ((I3 20 1) + (1 : Int32))) L3))))) : zCv l G d mX1_throwAt [.ref 20, .int x1, .int x2] I L P := by
  refine zCn.of (ls := [some (.ref 20), some (.int x1), some (.int x2)]) (by decide) (Nat.le_of_ble_eq_true rfl) rfl ?_
  refine z_iload_n (pc' := 1) (x := x2) dX1_throwAt_0 rfl rfl ?_
  refine z_if_eq (pc' := 4) (tgt := 18) dX1_throwAt_1 rfl (by decide) (fun c1 => ?_) (fun c1 => ?_)
  · replace h := h.1 c1
    refine z_aload_n (pc' := 19) (x := 20) dX1_throwAt_18 rfl rfl ?_
    refine z_aload_n (pc' := 20) (x := 20) dX1_throwAt_19 rfl rfl ?_
    refine z_getr (pc' := 23) (x := 1) dX1_throwAt_20 rfl fl_X1_23 rfl rfl rfl ?_
    refine z_aload_n (pc' := 24) (x := 20) dX1_throwAt_23 rfl rfl ?_
    refine z_geti (pc' := 27) (x := (I 20 2)) dX1_throwAt_24 rfl fl_X1_16 rfl rfl rfl ?_
    refine z_aload_n (pc' := 28) (x := 20) dX1_throwAt_27 rfl rfl ?_
    refine z_geti (pc' := 31) (x := (I 20 0)) dX1_throwAt_28 rfl fl_X1_7 rfl rfl rfl ?_
    obtain ⟨d2, P2, hd2, hC2, h⟩ := h
    refine z_callV (pc' := 34) (M' := mX2_after) (As := [.int (I 20 2), .int (I 20 0)]) dX1_throwAt_31 rfl ml_X1_40 me_X2_after hC2 rfl (by decide) rfl rfl hd2 (Nat.le_of_ble_eq_true rfl) ⟨Nat.le_refl _, Nat.le_refl _⟩ rfl ?_
    rintro _ _ ⟨y2, I2, L2, rfl, rfl, hP2⟩
    replace h := h y2 I2 L2 hP2
    refine z_puti (pc' := 37) (w' := zs (xI I2 20 2 y2) L2) dX1_throwAt_34 rfl fl_X1_16 rfl rfl rfl rfl rfl rfl ?_
    refine z_aload_n (pc' := 38) (x := 20) dX1_throwAt_37 rfl rfl ?_
    refine z_dup (pc' := 39) dX1_throwAt_38 rfl rfl ?_
    refine z_geti (pc' := 42) (x := (I2 20 1)) dX1_throwAt_39 rfl fl_X1_13 rfl rfl rfl ?_
    refine z_iconst (pc' := 43) (v := 1) dX1_throwAt_42 rfl (by decide) ?_
    refine z_iadd (pc' := 44) dX1_throwAt_43 rfl ?_
    refine z_puti (pc' := 47) (w' := zs (xI (xI I2 20 2 y2) 20 1 ((I2 20 1) + (1 : Int32))) L2) dX1_throwAt_44 rfl fl_X1_13 rfl rfl rfl rfl rfl rfl ?_
    exact z_vret dX1_throwAt_47 rfl ⟨Nat.le_refl _, Nat.le_refl _⟩ ⟨_, _, rfl, rfl, h⟩
  · replace h := h.2 c1
    refine z_aload_n (pc' := 5) (x := 20) dX1_throwAt_4 rfl rfl ?_
    refine z_dup (pc' := 6) dX1_throwAt_5 rfl rfl ?_
    refine z_geti (pc' := 9) (x := (I 20 0)) dX1_throwAt_6 rfl fl_X1_7 rfl rfl rfl ?_
    refine z_iconst (pc' := 10) (v := 1) dX1_throwAt_9 rfl (by decide) ?_
    refine z_iload_n (pc' := 11) (x := x1) dX1_throwAt_10 rfl rfl ?_
    refine z_ishl (pc' := 12) dX1_throwAt_11 rfl ?_
    refine z_iconst (pc' := 13) (v := -1) dX1_throwAt_12 rfl (by decide) ?_
    refine z_ixor (pc' := 14) dX1_throwAt_13 rfl ?_
    refine z_iand (pc' := 15) dX1_throwAt_14 rfl ?_
    refine z_puti (pc' := 18) (w' := zs (xI I 20 0 ((I 20 0) &&& (((1 : Int32) <<< (x1 &&& 31)) ^^^ (-1 : Int32)))) L) dX1_throwAt_15 rfl fl_X1_7 rfl rfl rfl rfl rfl rfl ?_
    refine z_aload_n (pc' := 19) (x := 20) dX1_throwAt_18 rfl rfl ?_
    refine z_aload_n (pc' := 20) (x := 20) dX1_throwAt_19 rfl rfl ?_
    refine z_getr (pc' := 23) (x := 1) dX1_throwAt_20 rfl fl_X1_23 rfl rfl rfl ?_
    refine z_aload_n (pc' := 24) (x := 20) dX1_throwAt_23 rfl rfl ?_
    refine z_geti (pc' := 27) (x := (I 20 2)) dX1_throwAt_24 rfl fl_X1_16 rfl rfl rfl ?_
    refine z_aload_n (pc' := 28) (x := 20) dX1_throwAt_27 rfl rfl ?_
    refine z_geti (pc' := 31) (x := ((I 20 0) &&& (((1 : Int32) <<< (x1 &&& 31)) ^^^ (-1 : Int32)))) dX1_throwAt_28 rfl fl_X1_7 rfl rfl rfl ?_
    obtain ⟨d3, P3, hd3, hC3, h⟩ := h
    refine z_callV (pc' := 34) (M' := mX2_after) (As := [.int (I 20 2), .int ((I 20 0) &&& (((1 : Int32) <<< (x1 &&& 31)) ^^^ (-1 : Int32)))]) dX1_throwAt_31 rfl ml_X1_40 me_X2_after hC3 rfl (by decide) rfl rfl hd3 (Nat.le_of_ble_eq_true rfl) ⟨Nat.le_refl _, Nat.le_refl _⟩ rfl ?_
    rintro _ _ ⟨y3, I3, L3, rfl, rfl, hP3⟩
    replace h := h y3 I3 L3 hP3
    refine z_puti (pc' := 37) (w' := zs (xI I3 20 2 y3) L3) dX1_throwAt_34 rfl fl_X1_16 rfl rfl rfl rfl rfl rfl ?_
    refine z_aload_n (pc' := 38) (x := 20) dX1_throwAt_37 rfl rfl ?_
    refine z_dup (pc' := 39) dX1_throwAt_38 rfl rfl ?_
    refine z_geti (pc' := 42) (x := (I3 20 1)) dX1_throwAt_39 rfl fl_X1_13 rfl rfl rfl ?_
    refine z_iconst (pc' := 43) (v := 1) dX1_throwAt_42 rfl (by decide) ?_
    refine z_iadd (pc' := 44) dX1_throwAt_43 rfl ?_
    refine z_puti (pc' := 47) (w' := zs (xI (xI I3 20 2 y3) 20 1 ((I3 20 1) + (1 : Int32))) L3) dX1_throwAt_44 rfl fl_X1_13 rfl rfl rfl rfl rfl rfl ?_
    exact z_vret dX1_throwAt_47 rfl ⟨Nat.le_refl _, Nat.le_refl _⟩ ⟨_, _, rfl, rfl, h⟩
set_option maxHeartbeats 4000000 in
set_option maxRecDepth 100000 in
theorem t_X1_keepImage {l : Launch} {G : zG} {d : Nat} {P : zIM → zLM → Prop} {I : zIM} {L : zLM}   (h : P (xI (xI (xI (xI I 20 4 (1 : Int32)) 20 5 (I 20 0)) 20 6 (I 20 1)) 20 7 (I 20 2)) L) : zCv l G d mX1_keepImage [.ref 20] I L P := by
  refine zCn.of (ls := [some (.ref 20)]) (by decide) (Nat.le_of_ble_eq_true rfl) rfl ?_
  refine z_aload_n (pc' := 1) (x := 20) dX1_keepImage_0 rfl rfl ?_
  refine z_iconst (pc' := 2) (v := 1) dX1_keepImage_1 rfl (by decide) ?_
  refine z_puti (pc' := 5) (w' := zs (xI I 20 4 (1 : Int32)) L) dX1_keepImage_2 rfl fl_X1_19 rfl rfl rfl rfl rfl rfl ?_
  refine z_aload_n (pc' := 6) (x := 20) dX1_keepImage_5 rfl rfl ?_
  refine z_aload_n (pc' := 7) (x := 20) dX1_keepImage_6 rfl rfl ?_
  refine z_geti (pc' := 10) (x := (I 20 0)) dX1_keepImage_7 rfl fl_X1_7 rfl rfl rfl ?_
  refine z_puti (pc' := 13) (w' := zs (xI (xI I 20 4 (1 : Int32)) 20 5 (I 20 0)) L) dX1_keepImage_10 rfl fl_X1_44 rfl rfl rfl rfl rfl rfl ?_
  refine z_aload_n (pc' := 14) (x := 20) dX1_keepImage_13 rfl rfl ?_
  refine z_aload_n (pc' := 15) (x := 20) dX1_keepImage_14 rfl rfl ?_
  refine z_geti (pc' := 18) (x := (I 20 1)) dX1_keepImage_15 rfl fl_X1_13 rfl rfl rfl ?_
  refine z_puti (pc' := 21) (w' := zs (xI (xI (xI I 20 4 (1 : Int32)) 20 5 (I 20 0)) 20 6 (I 20 1)) L) dX1_keepImage_18 rfl fl_X1_47 rfl rfl rfl rfl rfl rfl ?_
  refine z_aload_n (pc' := 22) (x := 20) dX1_keepImage_21 rfl rfl ?_
  refine z_aload_n (pc' := 23) (x := 20) dX1_keepImage_22 rfl rfl ?_
  refine z_geti (pc' := 26) (x := (I 20 2)) dX1_keepImage_23 rfl fl_X1_16 rfl rfl rfl ?_
  refine z_puti (pc' := 29) (w' := zs (xI (xI (xI (xI I 20 4 (1 : Int32)) 20 5 (I 20 0)) 20 6 (I 20 1)) 20 7 (I 20 2)) L) dX1_keepImage_26 rfl fl_X1_50 rfl rfl rfl rfl rfl rfl ?_
  exact z_vret dX1_keepImage_29 rfl ⟨Nat.le_refl _, Nat.le_refl _⟩ ⟨_, _, rfl, rfl, h⟩
set_option maxHeartbeats 4000000 in
set_option maxRecDepth 100000 in
theorem t_X1_takeImage {l : Launch} {G : zG} {d : Nat} {P : Int32 → zIM → zLM → Prop} {I : zIM} {L : zLM}   (h : (((I 20 4) = 0 → (((I 20 4) = 0 ∨ (I 20 4) = 1) ∧ P (I 20 4) I L)) ∧ (¬ (I 20 4) = 0 → (((I 20 4) = 0 ∨ (I 20 4) = 1) ∧ P (I 20 4) (xI (xI (xI I 20 0 (I 20 5)) 20 1 (I 20 6)) 20 2 (I 20 7)) L)))) : zCi l G d mX1_takeImage [.ref 20] I L P := by
  refine zCn.of (ls := [some (.ref 20)]) (by decide) (Nat.le_of_ble_eq_true rfl) rfl ?_
  refine z_aload_n (pc' := 1) (x := 20) dX1_takeImage_0 rfl rfl ?_
  refine z_geti (pc' := 4) (x := (I 20 4)) dX1_takeImage_1 rfl fl_X1_19 rfl rfl rfl ?_
  refine z_if_eq (pc' := 7) (tgt := 31) dX1_takeImage_4 rfl (by decide) (fun c1 => ?_) (fun c1 => ?_)
  · replace h := h.1 c1
    refine z_aload_n (pc' := 32) (x := 20) dX1_takeImage_31 rfl rfl ?_
    refine z_geti (pc' := 35) (x := (I 20 4)) dX1_takeImage_32 rfl fl_X1_19 rfl rfl rfl ?_
    exact z_iret dX1_takeImage_35 rfl (znb h.1) ⟨Nat.le_refl _, Nat.le_refl _⟩ ⟨_, _, _, rfl, rfl, h.2⟩
  · replace h := h.2 c1
    refine z_aload_n (pc' := 8) (x := 20) dX1_takeImage_7 rfl rfl ?_
    refine z_aload_n (pc' := 9) (x := 20) dX1_takeImage_8 rfl rfl ?_
    refine z_geti (pc' := 12) (x := (I 20 5)) dX1_takeImage_9 rfl fl_X1_44 rfl rfl rfl ?_
    refine z_puti (pc' := 15) (w' := zs (xI I 20 0 (I 20 5)) L) dX1_takeImage_12 rfl fl_X1_7 rfl rfl rfl rfl rfl rfl ?_
    refine z_aload_n (pc' := 16) (x := 20) dX1_takeImage_15 rfl rfl ?_
    refine z_aload_n (pc' := 17) (x := 20) dX1_takeImage_16 rfl rfl ?_
    refine z_geti (pc' := 20) (x := (I 20 6)) dX1_takeImage_17 rfl fl_X1_47 rfl rfl rfl ?_
    refine z_puti (pc' := 23) (w' := zs (xI (xI I 20 0 (I 20 5)) 20 1 (I 20 6)) L) dX1_takeImage_20 rfl fl_X1_13 rfl rfl rfl rfl rfl rfl ?_
    refine z_aload_n (pc' := 24) (x := 20) dX1_takeImage_23 rfl rfl ?_
    refine z_aload_n (pc' := 25) (x := 20) dX1_takeImage_24 rfl rfl ?_
    refine z_geti (pc' := 28) (x := (I 20 7)) dX1_takeImage_25 rfl fl_X1_50 rfl rfl rfl ?_
    refine z_puti (pc' := 31) (w' := zs (xI (xI (xI I 20 0 (I 20 5)) 20 1 (I 20 6)) 20 2 (I 20 7)) L) dX1_takeImage_28 rfl fl_X1_16 rfl rfl rfl rfl rfl rfl ?_
    refine z_aload_n (pc' := 32) (x := 20) dX1_takeImage_31 rfl rfl ?_
    refine z_geti (pc' := 35) (x := (I 20 4)) dX1_takeImage_32 rfl fl_X1_19 rfl rfl rfl ?_
    exact z_iret dX1_takeImage_35 rfl (znb h.1) ⟨Nat.le_refl _, Nat.le_refl _⟩ ⟨_, _, _, rfl, rfl, h.2⟩
set_option maxHeartbeats 4000000 in
set_option maxRecDepth 100000 in
theorem t_X2_has {l : Launch} {G : zG} {d : Nat} {P : Int32 → zIM → zLM → Prop} {I : zIM} {L : zLM} {x1 : Int32}  (h : ((x1 < 0 → (P (0 : Int32) I L)) ∧ (¬ x1 < 0 → ((((I 1 6) ≤ x1 → (P (0 : Int32) I L)) ∧ (¬ (I 1 6) ≤ x1 → (P (1 : Int32) I L))))))) : zCi l G d mX2_has [.ref 1, .int x1] I L P := by
  refine zCn.of (ls := [some (.ref 1), some (.int x1)]) (by decide) (Nat.le_of_ble_eq_true rfl) rfl ?_
  refine z_iload_n (pc' := 1) (x := x1) dX2_has_0 rfl rfl ?_
  refine z_if_lt (pc' := 4) (tgt := 16) dX2_has_1 rfl (by decide) (fun c1 => ?_) (fun c1 => ?_)
  · replace h := h.1 c1
    refine z_iconst (pc' := 17) (v := 0) dX2_has_16 rfl (by decide) ?_
    exact z_iret dX2_has_17 rfl rfl ⟨Nat.le_refl _, Nat.le_refl _⟩ ⟨_, _, _, rfl, rfl, h⟩
  · replace h := h.2 c1
    refine z_iload_n (pc' := 5) (x := x1) dX2_has_4 rfl rfl ?_
    refine z_aload_n (pc' := 6) (x := 1) dX2_has_5 rfl rfl ?_
    refine z_geti (pc' := 9) (x := (I 1 6)) dX2_has_6 rfl fl_X2_30 rfl rfl rfl ?_
    refine z_icmp_ge (pc' := 12) (tgt := 16) dX2_has_9 rfl (by decide) (fun c2 => ?_) (fun c2 => ?_)
    · replace h := h.1 c2
      refine z_iconst (pc' := 17) (v := 0) dX2_has_16 rfl (by decide) ?_
      exact z_iret dX2_has_17 rfl rfl ⟨Nat.le_refl _, Nat.le_refl _⟩ ⟨_, _, _, rfl, rfl, h⟩
    · replace h := h.2 c2
      refine z_iconst (pc' := 13) (v := 1) dX2_has_12 rfl (by decide) ?_
      refine z_goto (pc' := 17) dX2_has_13 (by decide) ?_
      exact z_iret dX2_has_17 rfl rfl ⟨Nat.le_refl _, Nat.le_refl _⟩ ⟨_, _, _, rfl, rfl, h⟩
set_option maxHeartbeats 4000000 in
set_option maxRecDepth 100000 in
theorem t_X2_all {l : Launch} {G : zG} {d : Nat} {P : Int32 → zIM → zLM → Prop} {I : zIM} {L : zLM}   (h : P (((1 : Int32) <<< ((I 1 6) &&& 31)) - (1 : Int32)) I L) : zCi l G d mX2_all [.ref 1] I L P := by
  refine zCn.of (ls := [some (.ref 1)]) (by decide) (Nat.le_of_ble_eq_true rfl) rfl ?_
  refine z_iconst (pc' := 1) (v := 1) dX2_all_0 rfl (by decide) ?_
  refine z_aload_n (pc' := 2) (x := 1) dX2_all_1 rfl rfl ?_
  refine z_geti (pc' := 5) (x := (I 1 6)) dX2_all_2 rfl fl_X2_30 rfl rfl rfl ?_
  refine z_ishl (pc' := 6) dX2_all_5 rfl ?_
  refine z_iconst (pc' := 7) (v := 1) dX2_all_6 rfl (by decide) ?_
  refine z_isub (pc' := 8) dX2_all_7 rfl ?_
  exact z_iret dX2_all_8 rfl rfl ⟨Nat.le_refl _, Nat.le_refl _⟩ ⟨_, _, _, rfl, rfl, h⟩
set_option maxHeartbeats 4000000 in
set_option maxRecDepth 100000 in
theorem t_X2_told {l : Launch} {G : zG} {d : Nat} {P : Int32 → zIM → zLM → Prop} {I : zIM} {L : zLM} {x1 : Int32} {x2 : Int32}  (h : ((¬ x2 = 0 → (((¬ x2 = (1 : Int32) → (∃ j3 : Nat, x1 = nI j3 ∧ j3 < 4 ∧ (P (I 4 j3) I L))) ∧ (x2 = (1 : Int32) → (∃ j4 : Nat, x1 = nI j4 ∧ j4 < 4 ∧ (P (I 3 j4) I L)))))) ∧ (x2 = 0 → (∃ j5 : Nat, x1 = nI j5 ∧ j5 < 4 ∧ (P (I 2 j5) I L))))) : zCi l G d mX2_told [.ref 1, .int x1, .int x2] I L P := by
  refine zCn.of (ls := [some (.ref 1), some (.int x1), some (.int x2)]) (by decide) (Nat.le_of_ble_eq_true rfl) rfl ?_
  refine z_iload_n (pc' := 1) (x := x2) dX2_told_0 rfl rfl ?_
  refine z_if_ne (pc' := 4) (tgt := 13) dX2_told_1 rfl (by decide) (fun c1 => ?_) (fun c1 => ?_)
  · replace h := h.1 c1
    refine z_iload_n (pc' := 14) (x := x2) dX2_told_13 rfl rfl ?_
    refine z_iconst (pc' := 15) (v := 1) dX2_told_14 rfl (by decide) ?_
    refine z_icmp_ne (pc' := 18) (tgt := 27) dX2_told_15 rfl (by decide) (fun c2 => ?_) (fun c2 => ?_)
    · replace h := h.1 c2
      refine z_aload_n (pc' := 28) (x := 1) dX2_told_27 rfl rfl ?_
      refine z_getr (pc' := 31) (x := 4) dX2_told_28 rfl fl_X2_18 rfl rfl rfl ?_
      refine z_iload_n (pc' := 32) (x := x1) dX2_told_31 rfl rfl ?_
      obtain ⟨j3, ha3, hb3, h⟩ := h
      refine z_iald (pc' := 33) (x := (I 4 j3)) (j := j3) dX2_told_32 rfl rfl (by decide) ha3 hb3 rfl ?_
      exact z_iret dX2_told_33 rfl rfl ⟨Nat.le_refl _, Nat.le_refl _⟩ ⟨_, _, _, rfl, rfl, h⟩
    · replace h := h.2 c2
      refine z_aload_n (pc' := 19) (x := 1) dX2_told_18 rfl rfl ?_
      refine z_getr (pc' := 22) (x := 3) dX2_told_19 rfl fl_X2_15 rfl rfl rfl ?_
      refine z_iload_n (pc' := 23) (x := x1) dX2_told_22 rfl rfl ?_
      obtain ⟨j4, ha4, hb4, h⟩ := h
      refine z_iald (pc' := 24) (x := (I 3 j4)) (j := j4) dX2_told_23 rfl rfl (by decide) ha4 hb4 rfl ?_
      refine z_goto (pc' := 33) dX2_told_24 (by decide) ?_
      exact z_iret dX2_told_33 rfl rfl ⟨Nat.le_refl _, Nat.le_refl _⟩ ⟨_, _, _, rfl, rfl, h⟩
  · replace h := h.2 c1
    refine z_aload_n (pc' := 5) (x := 1) dX2_told_4 rfl rfl ?_
    refine z_getr (pc' := 8) (x := 2) dX2_told_5 rfl fl_X2_9 rfl rfl rfl ?_
    refine z_iload_n (pc' := 9) (x := x1) dX2_told_8 rfl rfl ?_
    obtain ⟨j5, ha5, hb5, h⟩ := h
    refine z_iald (pc' := 10) (x := (I 2 j5)) (j := j5) dX2_told_9 rfl rfl (by decide) ha5 hb5 rfl ?_
    refine z_goto (pc' := 33) dX2_told_10 (by decide) ?_
    exact z_iret dX2_told_33 rfl rfl ⟨Nat.le_refl _, Nat.le_refl _⟩ ⟨_, _, _, rfl, rfl, h⟩
set_option maxHeartbeats 4000000 in
set_option maxRecDepth 100000 in
theorem t_X2_come {l : Launch} {G : zG} {d : Nat} {P : Int32 → zIM → zLM → Prop} {I : zIM} {L : zLM} {x1 : Int32} {x2 : Int32}  (h : ∃ j1 : Nat, (I 1 6) = nI j1 ∧ j1 < 4 ∧ (∃ (d2 : Nat) (P2 : zIM → zLM → Prop), d2 + 1 ≤ d ∧ zCv l G d2 mX2_findFollowers [.ref 1] (xI (xI (xI (xI I 2 j1 x1) 3 j1 x2) 5 j1 (I 1 6)) 1 6 ((I 1 6) + (1 : Int32))) L P2 ∧ ∀ (I2 : zIM) (L2 : zLM), P2 I2 L2 → (P (I 1 6) I2 L2))) : zCi l G d mX2_come [.ref 1, .int x1, .int x2] I L P := by
  refine zCn.of (ls := [some (.ref 1), some (.int x1), some (.int x2), none]) (by decide) (Nat.le_of_ble_eq_true rfl) rfl ?_
  refine z_aload_n (pc' := 1) (x := 1) dX2_come_0 rfl rfl ?_
  refine z_geti (pc' := 4) (x := (I 1 6)) dX2_come_1 rfl fl_X2_30 rfl rfl rfl ?_
  refine z_istore_n (pc' := 5) (ls' := [some (.ref 1), some (.int x1), some (.int x2), some (.int (I 1 6))]) dX2_come_4 rfl (by decide) rfl ?_
  refine z_aload_n (pc' := 6) (x := 1) dX2_come_5 rfl rfl ?_
  refine z_getr (pc' := 9) (x := 2) dX2_come_6 rfl fl_X2_9 rfl rfl rfl ?_
  refine z_iload_n (pc' := 10) (x := (I 1 6)) dX2_come_9 rfl rfl ?_
  refine z_iload_n (pc' := 11) (x := x1) dX2_come_10 rfl rfl ?_
  obtain ⟨j1, ha1, hb1, h⟩ := h
  refine z_iast (pc' := 12) (j := j1) (w' := zs (xI I 2 j1 x1) L) dX2_come_11 rfl rfl (by decide) ha1 hb1 rfl ?_
  refine z_aload_n (pc' := 13) (x := 1) dX2_come_12 rfl rfl ?_
  refine z_getr (pc' := 16) (x := 3) dX2_come_13 rfl fl_X2_15 rfl rfl rfl ?_
  refine z_iload_n (pc' := 17) (x := (I 1 6)) dX2_come_16 rfl rfl ?_
  refine z_iload_n (pc' := 18) (x := x2) dX2_come_17 rfl rfl ?_
  refine z_iast (pc' := 19) (j := j1) (w' := zs (xI (xI I 2 j1 x1) 3 j1 x2) L) dX2_come_18 rfl rfl (by decide) ha1 hb1 rfl ?_
  refine z_aload_n (pc' := 20) (x := 1) dX2_come_19 rfl rfl ?_
  refine z_getr (pc' := 23) (x := 5) dX2_come_20 rfl fl_X2_21 rfl rfl rfl ?_
  refine z_iload_n (pc' := 24) (x := (I 1 6)) dX2_come_23 rfl rfl ?_
  refine z_iload_n (pc' := 25) (x := (I 1 6)) dX2_come_24 rfl rfl ?_
  refine z_iast (pc' := 26) (j := j1) (w' := zs (xI (xI (xI I 2 j1 x1) 3 j1 x2) 5 j1 (I 1 6)) L) dX2_come_25 rfl rfl (by decide) ha1 hb1 rfl ?_
  refine z_aload_n (pc' := 27) (x := 1) dX2_come_26 rfl rfl ?_
  refine z_iload_n (pc' := 28) (x := (I 1 6)) dX2_come_27 rfl rfl ?_
  refine z_iconst (pc' := 29) (v := 1) dX2_come_28 rfl (by decide) ?_
  refine z_iadd (pc' := 30) dX2_come_29 rfl ?_
  refine z_puti (pc' := 33) (w' := zs (xI (xI (xI (xI I 2 j1 x1) 3 j1 x2) 5 j1 (I 1 6)) 1 6 ((I 1 6) + (1 : Int32))) L) dX2_come_30 rfl fl_X2_30 rfl rfl rfl rfl rfl rfl ?_
  refine z_aload_n (pc' := 34) (x := 1) dX2_come_33 rfl rfl ?_
  obtain ⟨d2, P2, hd2, hC2, h⟩ := h
  refine z_callV (pc' := 37) (M' := mX2_findFollowers) (As := []) dX2_come_34 rfl ml_X2_40 me_X2_findFollowers hC2 rfl (by decide) rfl rfl hd2 (Nat.le_of_ble_eq_true rfl) ⟨Nat.le_refl _, Nat.le_refl _⟩ rfl ?_
  rintro _ _ ⟨I2, L2, rfl, rfl, hP2⟩
  replace h := h I2 L2 hP2
  refine z_iload_n (pc' := 38) (x := (I 1 6)) dX2_come_37 rfl rfl ?_
  exact z_iret dX2_come_38 rfl rfl ⟨Nat.le_refl _, Nat.le_refl _⟩ ⟨_, _, _, rfl, rfl, h⟩
set_option maxHeartbeats 4000000 in
set_option maxRecDepth 100000 in
theorem t_X2_turnAs {l : Launch} {G : zG} {d : Nat} {P : Int32 → zIM → zLM → Prop} {I : zIM} {L : zLM} {x1 : Int32}  (h : K_X2_turnAs_12 l G d P I L x1 x1 (0 : Int32) ((I 1 6) - (1 : Int32))) : zCi l G d mX2_turnAs [.ref 1, .int x1] I L P := by
  refine zCn.of (ls := [some (.ref 1), some (.int x1), none, none, none, none]) (by decide) (Nat.le_of_ble_eq_true rfl) rfl ?_
  refine z_iload_n (pc' := 1) (x := x1) dX2_turnAs_0 rfl rfl ?_
  refine z_istore_n (pc' := 2) (ls' := [some (.ref 1), some (.int x1), some (.int x1), none, none, none]) dX2_turnAs_1 rfl (by decide) rfl ?_
  refine z_iconst (pc' := 3) (v := 0) dX2_turnAs_2 rfl (by decide) ?_
  refine z_istore_n (pc' := 4) (ls' := [some (.ref 1), some (.int x1), some (.int x1), some (.int (0 : Int32)), none, none]) dX2_turnAs_3 rfl (by decide) rfl ?_
  refine z_aload_n (pc' := 5) (x := 1) dX2_turnAs_4 rfl rfl ?_
  refine z_geti (pc' := 8) (x := (I 1 6)) dX2_turnAs_5 rfl fl_X2_30 rfl rfl rfl ?_
  refine z_iconst (pc' := 9) (v := 1) dX2_turnAs_8 rfl (by decide) ?_
  refine z_isub (pc' := 10) dX2_turnAs_9 rfl ?_
  refine z_istore (pc' := 12) (ls' := [some (.ref 1), some (.int x1), some (.int x1), some (.int (0 : Int32)), some (.int ((I 1 6) - (1 : Int32))), none]) dX2_turnAs_10 rfl (by decide) rfl ?_
  exact h
set_option maxHeartbeats 4000000 in
set_option maxRecDepth 100000 in
theorem t_X2_turnAs_12 {l : Launch} {G : zG} {d : Nat} {P : Int32 → zIM → zLM → Prop} {I : zIM} {L : zLM} {x1 : Int32} {x2 : Int32} {x3 : Int32} {x4 : Int32}   (h : ((x4 < 0 → (((x2 = 0 → (K_X2_turnAs_79 l G d P I L x1 ((I 1 6) - (1 : Int32)))) ∧ (¬ x2 = 0 → (P (0 : Int32) I L))))) ∧ (¬ x4 < 0 → (∃ (d3 : Nat) (P3 : Int32 → zIM → zLM → Prop), d3 + 1 ≤ d ∧ zCi l G d3 mX2_has [.ref 1, .int ((x2 % (10 : Int32)) - (1 : Int32))] I L P3 ∧ ∀ (y3 : Int32) (I3 : zIM) (L3 : zLM), P3 y3 I3 L3 → (((y3 = 0 → (P (0 : Int32) I3 L3)) ∧ (¬ y3 = 0 → (((((x3 >>> (((x2 % (10 : Int32)) - (1 : Int32)) &&& 31)) &&& (1 : Int32)) = 0 → (K_X2_turnAs_12 l G d P I3 L3 x1 (x2 / (10 : Int32)) (x3 ||| ((1 : Int32) <<< (((x2 % (10 : Int32)) - (1 : Int32)) &&& 31))) (x4 + (-1 : Int32)))) ∧ (¬ ((x3 >>> (((x2 % (10 : Int32)) - (1 : Int32)) &&& 31)) &&& (1 : Int32)) = 0 → (P (0 : Int32) I3 L3))))))))))) : K_X2_turnAs_12 l G d P I L x1 x2 x3 x4  := by
  refine z_iload (pc' := 14) (x := x4) dX2_turnAs_12 rfl rfl ?_
  refine z_if_lt (pc' := 17) (tgt := 63) dX2_turnAs_14 rfl (by decide) (fun c1 => ?_) (fun c1 => ?_)
  · replace h := h.1 c1
    refine z_iload_n (pc' := 64) (x := x2) dX2_turnAs_63 rfl rfl ?_
    refine z_if_eq (pc' := 67) (tgt := 69) dX2_turnAs_64 rfl (by decide) (fun c2 => ?_) (fun c2 => ?_)
    · replace h := h.1 c2
      refine z_iload_n (pc' := 70) (x := x1) dX2_turnAs_69 rfl rfl ?_
      refine z_istore_n (pc' := 71) (ls' := [some (.ref 1), some (.int x1), some (.int x1), some (.int x3), some (.int x4), none]) dX2_turnAs_70 rfl (by decide) rfl ?_
      refine z_aload_n (pc' := 72) (x := 1) dX2_turnAs_71 rfl rfl ?_
      refine z_geti (pc' := 75) (x := (I 1 6)) dX2_turnAs_72 rfl fl_X2_30 rfl rfl rfl ?_
      refine z_iconst (pc' := 76) (v := 1) dX2_turnAs_75 rfl (by decide) ?_
      refine z_isub (pc' := 77) dX2_turnAs_76 rfl ?_
      refine z_istore (pc' := 79) (ls' := [some (.ref 1), some (.int x1), some (.int x1), some (.int x3), some (.int ((I 1 6) - (1 : Int32))), none]) dX2_turnAs_77 rfl (by decide) rfl ?_
      refine z_sub (pc' := 0) [some (.ref 1), none, some (.int x1), none, some (.int ((I 1 6) - (1 : Int32))), none] (zsub_s (zsub_n (zsub_s (zsub_n (zsub_s (zsub_n zsub_nil)))))) ?_
      exact h
    · replace h := h.2 c2
      refine z_iconst (pc' := 68) (v := 0) dX2_turnAs_67 rfl (by decide) ?_
      exact z_iret dX2_turnAs_68 rfl rfl ⟨Nat.le_refl _, Nat.le_refl _⟩ ⟨_, _, _, rfl, rfl, h⟩
  · replace h := h.2 c1
    refine z_iload_n (pc' := 18) (x := x2) dX2_turnAs_17 rfl rfl ?_
    refine z_bipush (pc' := 20) (v := 10) dX2_turnAs_18 rfl (by decide) ?_
    refine z_irem (pc' := 21) dX2_turnAs_20 rfl (by decide) ?_
    refine z_iconst (pc' := 22) (v := 1) dX2_turnAs_21 rfl (by decide) ?_
    refine z_isub (pc' := 23) dX2_turnAs_22 rfl ?_
    refine z_istore (pc' := 25) (ls' := [some (.ref 1), some (.int x1), some (.int x2), some (.int x3), some (.int x4), some (.int ((x2 % (10 : Int32)) - (1 : Int32)))]) dX2_turnAs_23 rfl (by decide) rfl ?_
    refine z_iload_n (pc' := 26) (x := x2) dX2_turnAs_25 rfl rfl ?_
    refine z_bipush (pc' := 28) (v := 10) dX2_turnAs_26 rfl (by decide) ?_
    refine z_idiv (pc' := 29) dX2_turnAs_28 rfl (by decide) ?_
    refine z_istore_n (pc' := 30) (ls' := [some (.ref 1), some (.int x1), some (.int (x2 / (10 : Int32))), some (.int x3), some (.int x4), some (.int ((x2 % (10 : Int32)) - (1 : Int32)))]) dX2_turnAs_29 rfl (by decide) rfl ?_
    refine z_aload_n (pc' := 31) (x := 1) dX2_turnAs_30 rfl rfl ?_
    refine z_iload (pc' := 33) (x := ((x2 % (10 : Int32)) - (1 : Int32))) dX2_turnAs_31 rfl rfl ?_
    obtain ⟨d3, P3, hd3, hC3, h⟩ := h
    refine z_callV (pc' := 36) (M' := mX2_has) (As := [.int ((x2 % (10 : Int32)) - (1 : Int32))]) dX2_turnAs_33 rfl ml_X2_43 me_X2_has hC3 rfl (by decide) rfl rfl hd3 (Nat.le_of_ble_eq_true rfl) ⟨Nat.le_refl _, Nat.le_refl _⟩ rfl ?_
    rintro _ _ ⟨y3, I3, L3, rfl, rfl, hP3⟩
    replace h := h y3 I3 L3 hP3
    refine z_if_eq (pc' := 39) (tgt := 48) dX2_turnAs_36 rfl (by decide) (fun c4 => ?_) (fun c4 => ?_)
    · replace h := h.1 c4
      refine z_iconst (pc' := 49) (v := 0) dX2_turnAs_48 rfl (by decide) ?_
      exact z_iret dX2_turnAs_49 rfl rfl ⟨Nat.le_refl _, Nat.le_refl _⟩ ⟨_, _, _, rfl, rfl, h⟩
    · replace h := h.2 c4
      refine z_iload_n (pc' := 40) (x := x3) dX2_turnAs_39 rfl rfl ?_
      refine z_iload (pc' := 42) (x := ((x2 % (10 : Int32)) - (1 : Int32))) dX2_turnAs_40 rfl rfl ?_
      refine z_ishr (pc' := 43) dX2_turnAs_42 rfl ?_
      refine z_iconst (pc' := 44) (v := 1) dX2_turnAs_43 rfl (by decide) ?_
      refine z_iand (pc' := 45) dX2_turnAs_44 rfl ?_
      refine z_if_eq (pc' := 48) (tgt := 50) dX2_turnAs_45 rfl (by decide) (fun c5 => ?_) (fun c5 => ?_)
      · replace h := h.1 c5
        refine z_iload_n (pc' := 51) (x := x3) dX2_turnAs_50 rfl rfl ?_
        refine z_iconst (pc' := 52) (v := 1) dX2_turnAs_51 rfl (by decide) ?_
        refine z_iload (pc' := 54) (x := ((x2 % (10 : Int32)) - (1 : Int32))) dX2_turnAs_52 rfl rfl ?_
        refine z_ishl (pc' := 55) dX2_turnAs_54 rfl ?_
        refine z_ior (pc' := 56) dX2_turnAs_55 rfl ?_
        refine z_istore_n (pc' := 57) (ls' := [some (.ref 1), some (.int x1), some (.int (x2 / (10 : Int32))), some (.int (x3 ||| ((1 : Int32) <<< (((x2 % (10 : Int32)) - (1 : Int32)) &&& 31)))), some (.int x4), some (.int ((x2 % (10 : Int32)) - (1 : Int32)))]) dX2_turnAs_56 rfl (by decide) rfl ?_
        refine z_iinc (pc' := 60) (x := x4) (v := (x4 + (-1 : Int32))) (ls' := [some (.ref 1), some (.int x1), some (.int (x2 / (10 : Int32))), some (.int (x3 ||| ((1 : Int32) <<< (((x2 % (10 : Int32)) - (1 : Int32)) &&& 31)))), some (.int (x4 + (-1 : Int32))), some (.int ((x2 % (10 : Int32)) - (1 : Int32)))]) dX2_turnAs_57 rfl rfl (by rfl) (by decide) rfl ?_
        refine z_goto (pc' := 12) dX2_turnAs_60 (by decide) ?_
        refine z_sub (pc' := 0) [some (.ref 1), some (.int x1), some (.int (x2 / (10 : Int32))), some (.int (x3 ||| ((1 : Int32) <<< (((x2 % (10 : Int32)) - (1 : Int32)) &&& 31)))), some (.int (x4 + (-1 : Int32))), none] (zsub_s (zsub_s (zsub_s (zsub_s (zsub_s (zsub_n zsub_nil)))))) ?_
        exact h
      · replace h := h.2 c5
        refine z_iconst (pc' := 49) (v := 0) dX2_turnAs_48 rfl (by decide) ?_
        exact z_iret dX2_turnAs_49 rfl rfl ⟨Nat.le_refl _, Nat.le_refl _⟩ ⟨_, _, _, rfl, rfl, h⟩
set_option maxHeartbeats 4000000 in
set_option maxRecDepth 100000 in
theorem t_X2_turnAs_79 {l : Launch} {G : zG} {d : Nat} {P : Int32 → zIM → zLM → Prop} {I : zIM} {L : zLM} {x2 : Int32} {x4 : Int32}   (h : ((x4 < 0 → (∃ (d2 : Nat) (P2 : zIM → zLM → Prop), d2 + 1 ≤ d ∧ zCv l G d2 mX2_findFollowers [.ref 1] I L P2 ∧ ∀ (I2 : zIM) (L2 : zLM), P2 I2 L2 → (P (1 : Int32) I2 L2))) ∧ (¬ x4 < 0 → (∃ j3 : Nat, x4 = nI j3 ∧ j3 < 4 ∧ (K_X2_turnAs_79 l G d P (xI I 5 j3 ((x2 % (10 : Int32)) - (1 : Int32))) L (x2 / (10 : Int32)) (x4 + (-1 : Int32))))))) : K_X2_turnAs_79 l G d P I L x2 x4  := by
  refine z_iload (pc' := 81) (x := x4) dX2_turnAs_79 rfl rfl ?_
  refine z_if_lt (pc' := 84) (tgt := 108) dX2_turnAs_81 rfl (by decide) (fun c1 => ?_) (fun c1 => ?_)
  · replace h := h.1 c1
    refine z_aload_n (pc' := 109) (x := 1) dX2_turnAs_108 rfl rfl ?_
    obtain ⟨d2, P2, hd2, hC2, h⟩ := h
    refine z_callV (pc' := 112) (M' := mX2_findFollowers) (As := []) dX2_turnAs_109 rfl ml_X2_40 me_X2_findFollowers hC2 rfl (by decide) rfl rfl hd2 (Nat.le_of_ble_eq_true rfl) ⟨Nat.le_refl _, Nat.le_refl _⟩ rfl ?_
    rintro _ _ ⟨I2, L2, rfl, rfl, hP2⟩
    replace h := h I2 L2 hP2
    refine z_iconst (pc' := 113) (v := 1) dX2_turnAs_112 rfl (by decide) ?_
    exact z_iret dX2_turnAs_113 rfl rfl ⟨Nat.le_refl _, Nat.le_refl _⟩ ⟨_, _, _, rfl, rfl, h⟩
  · replace h := h.2 c1
    refine z_aload_n (pc' := 85) (x := 1) dX2_turnAs_84 rfl rfl ?_
    refine z_getr (pc' := 88) (x := 5) dX2_turnAs_85 rfl fl_X2_21 rfl rfl rfl ?_
    refine z_iload (pc' := 90) (x := x4) dX2_turnAs_88 rfl rfl ?_
    refine z_iload_n (pc' := 91) (x := x2) dX2_turnAs_90 rfl rfl ?_
    refine z_bipush (pc' := 93) (v := 10) dX2_turnAs_91 rfl (by decide) ?_
    refine z_irem (pc' := 94) dX2_turnAs_93 rfl (by decide) ?_
    refine z_iconst (pc' := 95) (v := 1) dX2_turnAs_94 rfl (by decide) ?_
    refine z_isub (pc' := 96) dX2_turnAs_95 rfl ?_
    obtain ⟨j3, ha3, hb3, h⟩ := h
    refine z_iast (pc' := 97) (j := j3) (w' := zs (xI I 5 j3 ((x2 % (10 : Int32)) - (1 : Int32))) L) dX2_turnAs_96 rfl rfl (by decide) ha3 hb3 rfl ?_
    refine z_iload_n (pc' := 98) (x := x2) dX2_turnAs_97 rfl rfl ?_
    refine z_bipush (pc' := 100) (v := 10) dX2_turnAs_98 rfl (by decide) ?_
    refine z_idiv (pc' := 101) dX2_turnAs_100 rfl (by decide) ?_
    refine z_istore_n (pc' := 102) (ls' := [some (.ref 1), none, some (.int (x2 / (10 : Int32))), none, some (.int x4), none]) dX2_turnAs_101 rfl (by decide) rfl ?_
    refine z_iinc (pc' := 105) (x := x4) (v := (x4 + (-1 : Int32))) (ls' := [some (.ref 1), none, some (.int (x2 / (10 : Int32))), none, some (.int (x4 + (-1 : Int32))), none]) dX2_turnAs_102 rfl rfl (by rfl) (by decide) rfl ?_
    refine z_goto (pc' := 79) dX2_turnAs_105 (by decide) ?_
    exact h
set_option maxHeartbeats 4000000 in
set_option maxRecDepth 100000 in
theorem t_X2_first {l : Launch} {G : zG} {d : Nat} {P : Int32 → zIM → zLM → Prop} {I : zIM} {L : zLM} {x1 : Int32}  (h : K_X2_first_2 l G d P I L x1 (0 : Int32)) : zCi l G d mX2_first [.ref 1, .int x1] I L P := by
  refine zCn.of (ls := [some (.ref 1), some (.int x1), none]) (by decide) (Nat.le_of_ble_eq_true rfl) rfl ?_
  refine z_iconst (pc' := 1) (v := 0) dX2_first_0 rfl (by decide) ?_
  refine z_istore_n (pc' := 2) (ls' := [some (.ref 1), some (.int x1), some (.int (0 : Int32))]) dX2_first_1 rfl (by decide) rfl ?_
  exact h
set_option maxHeartbeats 4000000 in
set_option maxRecDepth 100000 in
theorem t_X2_first_2 {l : Launch} {G : zG} {d : Nat} {P : Int32 → zIM → zLM → Prop} {I : zIM} {L : zLM} {x1 : Int32} {x2 : Int32}   (h : (((I 1 6) ≤ x2 → (P (0 : Int32) I L)) ∧ (¬ (I 1 6) ≤ x2 → (∃ j2 : Nat, x2 = nI j2 ∧ j2 < 4 ∧ (((((x1 >>> ((I 5 j2) &&& 31)) &&& (1 : Int32)) = 0 → (K_X2_first_2 l G d P I L x1 (x2 + (1 : Int32)))) ∧ (¬ ((x1 >>> ((I 5 j2) &&& 31)) &&& (1 : Int32)) = 0 → (P (I 5 j2) I L)))))))) : K_X2_first_2 l G d P I L x1 x2  := by
  refine z_iload_n (pc' := 3) (x := x2) dX2_first_2 rfl rfl ?_
  refine z_aload_n (pc' := 4) (x := 1) dX2_first_3 rfl rfl ?_
  refine z_geti (pc' := 7) (x := (I 1 6)) dX2_first_4 rfl fl_X2_30 rfl rfl rfl ?_
  refine z_icmp_ge (pc' := 10) (tgt := 36) dX2_first_7 rfl (by decide) (fun c1 => ?_) (fun c1 => ?_)
  · replace h := h.1 c1
    refine z_iconst (pc' := 37) (v := 0) dX2_first_36 rfl (by decide) ?_
    exact z_iret dX2_first_37 rfl rfl ⟨Nat.le_refl _, Nat.le_refl _⟩ ⟨_, _, _, rfl, rfl, h⟩
  · replace h := h.2 c1
    refine z_iload_n (pc' := 11) (x := x1) dX2_first_10 rfl rfl ?_
    refine z_aload_n (pc' := 12) (x := 1) dX2_first_11 rfl rfl ?_
    refine z_getr (pc' := 15) (x := 5) dX2_first_12 rfl fl_X2_21 rfl rfl rfl ?_
    refine z_iload_n (pc' := 16) (x := x2) dX2_first_15 rfl rfl ?_
    obtain ⟨j2, ha2, hb2, h⟩ := h
    refine z_iald (pc' := 17) (x := (I 5 j2)) (j := j2) dX2_first_16 rfl rfl (by decide) ha2 hb2 rfl ?_
    refine z_ishr (pc' := 18) dX2_first_17 rfl ?_
    refine z_iconst (pc' := 19) (v := 1) dX2_first_18 rfl (by decide) ?_
    refine z_iand (pc' := 20) dX2_first_19 rfl ?_
    refine z_if_eq (pc' := 23) (tgt := 30) dX2_first_20 rfl (by decide) (fun c3 => ?_) (fun c3 => ?_)
    · replace h := h.1 c3
      refine z_iinc (pc' := 33) (x := x2) (v := (x2 + (1 : Int32))) (ls' := [some (.ref 1), some (.int x1), some (.int (x2 + (1 : Int32)))]) dX2_first_30 rfl rfl (by rfl) (by decide) rfl ?_
      refine z_goto (pc' := 2) dX2_first_33 (by decide) ?_
      exact h
    · replace h := h.2 c3
      refine z_aload_n (pc' := 24) (x := 1) dX2_first_23 rfl rfl ?_
      refine z_getr (pc' := 27) (x := 5) dX2_first_24 rfl fl_X2_21 rfl rfl rfl ?_
      refine z_iload_n (pc' := 28) (x := x2) dX2_first_27 rfl rfl ?_
      refine z_iald (pc' := 29) (x := (I 5 j2)) (j := j2) dX2_first_28 rfl rfl (by decide) ha2 hb2 rfl ?_
      exact z_iret dX2_first_29 rfl rfl ⟨Nat.le_refl _, Nat.le_refl _⟩ ⟨_, _, _, rfl, rfl, h⟩
set_option maxHeartbeats 4000000 in
set_option maxRecDepth 100000 in
theorem t_X2_after {l : Launch} {G : zG} {d : Nat} {P : Int32 → zIM → zLM → Prop} {I : zIM} {L : zLM} {x1 : Int32} {x2 : Int32}  (h : ∃ j1 : Nat, ((x1 * (16 : Int32)) + x2) = nI j1 ∧ j1 < 64 ∧ (P (I 8 j1) I L)) : zCi l G d mX2_after [.ref 1, .int x1, .int x2] I L P := by
  refine zCn.of (ls := [some (.ref 1), some (.int x1), some (.int x2)]) (by decide) (Nat.le_of_ble_eq_true rfl) rfl ?_
  refine z_aload_n (pc' := 1) (x := 1) dX2_after_0 rfl rfl ?_
  refine z_getr (pc' := 4) (x := 8) dX2_after_1 rfl fl_X2_37 rfl rfl rfl ?_
  refine z_iload_n (pc' := 5) (x := x1) dX2_after_4 rfl rfl ?_
  refine z_bipush (pc' := 7) (v := 16) dX2_after_5 rfl (by decide) ?_
  refine z_imul (pc' := 8) dX2_after_7 rfl ?_
  refine z_iload_n (pc' := 9) (x := x2) dX2_after_8 rfl rfl ?_
  refine z_iadd (pc' := 10) dX2_after_9 rfl ?_
  obtain ⟨j1, ha1, hb1, h⟩ := h
  refine z_iald (pc' := 11) (x := (I 8 j1)) (j := j1) dX2_after_10 rfl rfl (by decide) ha1 hb1 rfl ?_
  exact z_iret dX2_after_11 rfl rfl ⟨Nat.le_refl _, Nat.le_refl _⟩ ⟨_, _, _, rfl, rfl, h⟩
set_option maxHeartbeats 4000000 in
set_option maxRecDepth 100000 in
theorem t_X2_isOver {l : Launch} {G : zG} {d : Nat} {P : Int32 → zIM → zLM → Prop} {I : zIM} {L : zLM} {x1 : Int32} {x2 : Int32}  (h : (((I 1 7) ≤ x2 → (P (1 : Int32) I L)) ∧ (¬ (I 1 7) ≤ x2 → (∃ (d2 : Nat) (P2 : Int32 → zIM → zLM → Prop), d2 + 1 ≤ d ∧ zCi l G d2 mJ6_bitCount_0f7a4 [.int x1] I L P2 ∧ ∀ (y2 : Int32) (I2 : zIM) (L2 : zLM), P2 y2 I2 L2 → ((((2 : Int32) ≤ y2 → (P (0 : Int32) I2 L2)) ∧ (¬ (2 : Int32) ≤ y2 → (P (1 : Int32) I2 L2)))))))) : zCi l G d mX2_isOver [.ref 1, .int x1, .int x2] I L P := by
  refine zCn.of (ls := [some (.ref 1), some (.int x1), some (.int x2)]) (by decide) (Nat.le_of_ble_eq_true rfl) rfl ?_
  refine z_iload_n (pc' := 1) (x := x2) dX2_isOver_0 rfl rfl ?_
  refine z_aload_n (pc' := 2) (x := 1) dX2_isOver_1 rfl rfl ?_
  refine z_geti (pc' := 5) (x := (I 1 7)) dX2_isOver_2 rfl fl_X2_34 rfl rfl rfl ?_
  refine z_icmp_ge (pc' := 8) (tgt := 16) dX2_isOver_5 rfl (by decide) (fun c1 => ?_) (fun c1 => ?_)
  · replace h := h.1 c1
    refine z_iconst (pc' := 17) (v := 1) dX2_isOver_16 rfl (by decide) ?_
    refine z_goto (pc' := 21) dX2_isOver_17 (by decide) ?_
    exact z_iret dX2_isOver_21 rfl rfl ⟨Nat.le_refl _, Nat.le_refl _⟩ ⟨_, _, _, rfl, rfl, h⟩
  · replace h := h.2 c1
    refine z_iload_n (pc' := 9) (x := x1) dX2_isOver_8 rfl rfl ?_
    obtain ⟨d2, P2, hd2, hC2, h⟩ := h
    refine z_callS (pc' := 12) (M' := mJ6_bitCount_0f7a4) (As := [.int x1]) dX2_isOver_9 rfl ml_X2_47 me_J6_bitCount_0f7a4 hC2 rfl hd2 (Nat.le_of_ble_eq_true rfl) ⟨Nat.le_refl _, Nat.le_refl _⟩ rfl ?_
    rintro _ _ ⟨y2, I2, L2, rfl, rfl, hP2⟩
    replace h := h y2 I2 L2 hP2
    refine z_iconst (pc' := 13) (v := 2) dX2_isOver_12 rfl (by decide) ?_
    refine z_icmp_ge (pc' := 16) (tgt := 20) dX2_isOver_13 rfl (by decide) (fun c3 => ?_) (fun c3 => ?_)
    · replace h := h.1 c3
      refine z_iconst (pc' := 21) (v := 0) dX2_isOver_20 rfl (by decide) ?_
      exact z_iret dX2_isOver_21 rfl rfl ⟨Nat.le_refl _, Nat.le_refl _⟩ ⟨_, _, _, rfl, rfl, h⟩
    · replace h := h.2 c3
      refine z_iconst (pc' := 17) (v := 1) dX2_isOver_16 rfl (by decide) ?_
      refine z_goto (pc' := 21) dX2_isOver_17 (by decide) ?_
      exact z_iret dX2_isOver_21 rfl rfl ⟨Nat.le_refl _, Nat.le_refl _⟩ ⟨_, _, _, rfl, rfl, h⟩
set_option maxHeartbeats 4000000 in
set_option maxRecDepth 100000 in
theorem t_X2_plainAim {l : Launch} {G : zG} {d : Nat} {P : Int32 → zIM → zLM → Prop} {I : zIM} {L : zLM} {x1 : Int32} {x2 : Int32}  (h : ∃ j1 : Nat, x1 = nI j1 ∧ j1 < 4 ∧ ((((I 3 j1) = (0 : Int32) → (∃ (d3 : Nat) (P3 : Int32 → zIM → zLM → Prop), d3 + 1 ≤ d ∧ zCi l G d3 mX2_strongest [.ref 1, .int (x2 &&& (((1 : Int32) <<< (x1 &&& 31)) ^^^ (-1 : Int32))), .int (1 : Int32)] I L P3 ∧ ∀ (y3 : Int32) (I3 : zIM) (L3 : zLM), P3 y3 I3 L3 → (P y3 I3 L3))) ∧ ((I 3 j1) = (1 : Int32) → (∃ (d4 : Nat) (P4 : Int32 → zIM → zLM → Prop), d4 + 1 ≤ d ∧ zCi l G d4 mX2_strongest [.ref 1, .int (x2 &&& (((1 : Int32) <<< (x1 &&& 31)) ^^^ (-1 : Int32))), .int (-1 : Int32)] I L P4 ∧ ∀ (y4 : Int32) (I4 : zIM) (L4 : zLM), P4 y4 I4 L4 → (P y4 I4 L4))) ∧ ((I 3 j1) = (2 : Int32) → (P (-2 : Int32) I L)) ∧ ((I 3 j1) = (3 : Int32) → (((¬ (x2 &&& (((1 : Int32) <<< (x1 &&& 31)) ^^^ (-1 : Int32))) = 0 → (∃ (d6 : Nat) (P6 : Int32 → zIM → zLM → Prop), d6 + 1 ≤ d ∧ zCi l G d6 mX2_after [.ref 1, .int x1, .int (x2 &&& (((1 : Int32) <<< (x1 &&& 31)) ^^^ (-1 : Int32)))] I L P6 ∧ ∀ (y6 : Int32) (I6 : zIM) (L6 : zLM), P6 y6 I6 L6 → (P y6 I6 L6))) ∧ ((x2 &&& (((1 : Int32) <<< (x1 &&& 31)) ^^^ (-1 : Int32))) = 0 → (P (-2 : Int32) I L))))) ∧ ((I 3 j1) = (4 : Int32) → ((((((x2 &&& (((1 : Int32) <<< (x1 &&& 31)) ^^^ (-1 : Int32))) >>> ((I 4 j1) &&& 31)) &&& (1 : Int32)) = 0 → (P (-2 : Int32) I L)) ∧ (¬ (((x2 &&& (((1 : Int32) <<< (x1 &&& 31)) ^^^ (-1 : Int32))) >>> ((I 4 j1) &&& 31)) &&& (1 : Int32)) = 0 → (P (I 4 j1) I L))))) ∧ (¬ (I 3 j1) = (0 : Int32) → ¬ (I 3 j1) = (1 : Int32) → ¬ (I 3 j1) = (2 : Int32) → ¬ (I 3 j1) = (3 : Int32) → ¬ (I 3 j1) = (4 : Int32) → (P (-2 : Int32) I L))))) : zCi l G d mX2_plainAim [.ref 1, .int x1, .int x2] I L P := by
  refine zCn.of (ls := [some (.ref 1), some (.int x1), some (.int x2), none]) (by decide) (Nat.le_of_ble_eq_true rfl) rfl ?_
  refine z_iload_n (pc' := 1) (x := x2) dX2_plainAim_0 rfl rfl ?_
  refine z_iconst (pc' := 2) (v := 1) dX2_plainAim_1 rfl (by decide) ?_
  refine z_iload_n (pc' := 3) (x := x1) dX2_plainAim_2 rfl rfl ?_
  refine z_ishl (pc' := 4) dX2_plainAim_3 rfl ?_
  refine z_iconst (pc' := 5) (v := -1) dX2_plainAim_4 rfl (by decide) ?_
  refine z_ixor (pc' := 6) dX2_plainAim_5 rfl ?_
  refine z_iand (pc' := 7) dX2_plainAim_6 rfl ?_
  refine z_istore_n (pc' := 8) (ls' := [some (.ref 1), some (.int x1), some (.int x2), some (.int (x2 &&& (((1 : Int32) <<< (x1 &&& 31)) ^^^ (-1 : Int32))))]) dX2_plainAim_7 rfl (by decide) rfl ?_
  refine z_aload_n (pc' := 9) (x := 1) dX2_plainAim_8 rfl rfl ?_
  refine z_getr (pc' := 12) (x := 3) dX2_plainAim_9 rfl fl_X2_15 rfl rfl rfl ?_
  refine z_iload_n (pc' := 13) (x := x1) dX2_plainAim_12 rfl rfl ?_
  obtain ⟨j1, ha1, hb1, h⟩ := h
  refine z_iald (pc' := 14) (x := (I 3 j1)) (j := j1) dX2_plainAim_13 rfl rfl (by decide) ha1 hb1 rfl ?_
  by_cases c2_0 : (I 3 j1) = (0 : Int32)
  · replace h := h.1 c2_0
    refine z_tableIn (pc' := 48) dX2_plainAim_14 (by rw [c2_0]; decide) (by rw [c2_0]; decide) (by rw [c2_0]; rfl) (by decide) ?_
    refine z_aload_n (pc' := 49) (x := 1) dX2_plainAim_48 rfl rfl ?_
    refine z_iload_n (pc' := 50) (x := (x2 &&& (((1 : Int32) <<< (x1 &&& 31)) ^^^ (-1 : Int32)))) dX2_plainAim_49 rfl rfl ?_
    refine z_iconst (pc' := 51) (v := 1) dX2_plainAim_50 rfl (by decide) ?_
    obtain ⟨d3, P3, hd3, hC3, h⟩ := h
    refine z_callV (pc' := 54) (M' := mX2_strongest) (As := [.int (x2 &&& (((1 : Int32) <<< (x1 &&& 31)) ^^^ (-1 : Int32))), .int (1 : Int32)]) dX2_plainAim_51 rfl ml_X2_53 me_X2_strongest hC3 rfl (by decide) rfl rfl hd3 (Nat.le_of_ble_eq_true rfl) ⟨Nat.le_refl _, Nat.le_refl _⟩ rfl ?_
    rintro _ _ ⟨y3, I3, L3, rfl, rfl, hP3⟩
    replace h := h y3 I3 L3 hP3
    exact z_iret dX2_plainAim_54 rfl rfl ⟨Nat.le_refl _, Nat.le_refl _⟩ ⟨_, _, _, rfl, rfl, h⟩
  by_cases c2_1 : (I 3 j1) = (1 : Int32)
  · replace h := h.2.1 c2_1
    refine z_tableIn (pc' := 55) dX2_plainAim_14 (by rw [c2_1]; decide) (by rw [c2_1]; decide) (by rw [c2_1]; rfl) (by decide) ?_
    refine z_aload_n (pc' := 56) (x := 1) dX2_plainAim_55 rfl rfl ?_
    refine z_iload_n (pc' := 57) (x := (x2 &&& (((1 : Int32) <<< (x1 &&& 31)) ^^^ (-1 : Int32)))) dX2_plainAim_56 rfl rfl ?_
    refine z_iconst (pc' := 58) (v := -1) dX2_plainAim_57 rfl (by decide) ?_
    obtain ⟨d4, P4, hd4, hC4, h⟩ := h
    refine z_callV (pc' := 61) (M' := mX2_strongest) (As := [.int (x2 &&& (((1 : Int32) <<< (x1 &&& 31)) ^^^ (-1 : Int32))), .int (-1 : Int32)]) dX2_plainAim_58 rfl ml_X2_53 me_X2_strongest hC4 rfl (by decide) rfl rfl hd4 (Nat.le_of_ble_eq_true rfl) ⟨Nat.le_refl _, Nat.le_refl _⟩ rfl ?_
    rintro _ _ ⟨y4, I4, L4, rfl, rfl, hP4⟩
    replace h := h y4 I4 L4 hP4
    exact z_iret dX2_plainAim_61 rfl rfl ⟨Nat.le_refl _, Nat.le_refl _⟩ ⟨_, _, _, rfl, rfl, h⟩
  by_cases c2_2 : (I 3 j1) = (2 : Int32)
  · replace h := h.2.2.1 c2_2
    refine z_tableIn (pc' := 103) dX2_plainAim_14 (by rw [c2_2]; decide) (by rw [c2_2]; decide) (by rw [c2_2]; rfl) (by decide) ?_
    refine z_bipush (pc' := 105) (v := -2) dX2_plainAim_103 rfl (by decide) ?_
    exact z_iret dX2_plainAim_105 rfl rfl ⟨Nat.le_refl _, Nat.le_refl _⟩ ⟨_, _, _, rfl, rfl, h⟩
  by_cases c2_3 : (I 3 j1) = (3 : Int32)
  · replace h := h.2.2.2.1 c2_3
    refine z_tableIn (pc' := 62) dX2_plainAim_14 (by rw [c2_3]; decide) (by rw [c2_3]; decide) (by rw [c2_3]; rfl) (by decide) ?_
    refine z_iload_n (pc' := 63) (x := (x2 &&& (((1 : Int32) <<< (x1 &&& 31)) ^^^ (-1 : Int32)))) dX2_plainAim_62 rfl rfl ?_
    refine z_if_ne (pc' := 66) (tgt := 71) dX2_plainAim_63 rfl (by decide) (fun c5 => ?_) (fun c5 => ?_)
    · replace h := h.1 c5
      refine z_aload_n (pc' := 72) (x := 1) dX2_plainAim_71 rfl rfl ?_
      refine z_iload_n (pc' := 73) (x := x1) dX2_plainAim_72 rfl rfl ?_
      refine z_iload_n (pc' := 74) (x := (x2 &&& (((1 : Int32) <<< (x1 &&& 31)) ^^^ (-1 : Int32)))) dX2_plainAim_73 rfl rfl ?_
      obtain ⟨d6, P6, hd6, hC6, h⟩ := h
      refine z_callV (pc' := 77) (M' := mX2_after) (As := [.int x1, .int (x2 &&& (((1 : Int32) <<< (x1 &&& 31)) ^^^ (-1 : Int32)))]) dX2_plainAim_74 rfl ml_X2_57 me_X2_after hC6 rfl (by decide) rfl rfl hd6 (Nat.le_of_ble_eq_true rfl) ⟨Nat.le_refl _, Nat.le_refl _⟩ rfl ?_
      rintro _ _ ⟨y6, I6, L6, rfl, rfl, hP6⟩
      replace h := h y6 I6 L6 hP6
      exact z_iret dX2_plainAim_77 rfl rfl ⟨Nat.le_refl _, Nat.le_refl _⟩ ⟨_, _, _, rfl, rfl, h⟩
    · replace h := h.2 c5
      refine z_bipush (pc' := 68) (v := -2) dX2_plainAim_66 rfl (by decide) ?_
      refine z_goto (pc' := 77) dX2_plainAim_68 (by decide) ?_
      exact z_iret dX2_plainAim_77 rfl rfl ⟨Nat.le_refl _, Nat.le_refl _⟩ ⟨_, _, _, rfl, rfl, h⟩
  by_cases c2_4 : (I 3 j1) = (4 : Int32)
  · replace h := h.2.2.2.2.1 c2_4
    refine z_tableIn (pc' := 78) dX2_plainAim_14 (by rw [c2_4]; decide) (by rw [c2_4]; decide) (by rw [c2_4]; rfl) (by decide) ?_
    refine z_iload_n (pc' := 79) (x := (x2 &&& (((1 : Int32) <<< (x1 &&& 31)) ^^^ (-1 : Int32)))) dX2_plainAim_78 rfl rfl ?_
    refine z_aload_n (pc' := 80) (x := 1) dX2_plainAim_79 rfl rfl ?_
    refine z_getr (pc' := 83) (x := 4) dX2_plainAim_80 rfl fl_X2_18 rfl rfl rfl ?_
    refine z_iload_n (pc' := 84) (x := x1) dX2_plainAim_83 rfl rfl ?_
    refine z_iald (pc' := 85) (x := (I 4 j1)) (j := j1) dX2_plainAim_84 rfl rfl (by decide) ha1 hb1 rfl ?_
    refine z_ishr (pc' := 86) dX2_plainAim_85 rfl ?_
    refine z_iconst (pc' := 87) (v := 1) dX2_plainAim_86 rfl (by decide) ?_
    refine z_iand (pc' := 88) dX2_plainAim_87 rfl ?_
    refine z_if_eq (pc' := 91) (tgt := 100) dX2_plainAim_88 rfl (by decide) (fun c7 => ?_) (fun c7 => ?_)
    · replace h := h.1 c7
      refine z_bipush (pc' := 102) (v := -2) dX2_plainAim_100 rfl (by decide) ?_
      exact z_iret dX2_plainAim_102 rfl rfl ⟨Nat.le_refl _, Nat.le_refl _⟩ ⟨_, _, _, rfl, rfl, h⟩
    · replace h := h.2 c7
      refine z_aload_n (pc' := 92) (x := 1) dX2_plainAim_91 rfl rfl ?_
      refine z_getr (pc' := 95) (x := 4) dX2_plainAim_92 rfl fl_X2_18 rfl rfl rfl ?_
      refine z_iload_n (pc' := 96) (x := x1) dX2_plainAim_95 rfl rfl ?_
      refine z_iald (pc' := 97) (x := (I 4 j1)) (j := j1) dX2_plainAim_96 rfl rfl (by decide) ha1 hb1 rfl ?_
      refine z_goto (pc' := 102) dX2_plainAim_97 (by decide) ?_
      exact z_iret dX2_plainAim_102 rfl rfl ⟨Nat.le_refl _, Nat.le_refl _⟩ ⟨_, _, _, rfl, rfl, h⟩
  replace h := h.2.2.2.2.2 c2_0 c2_1 c2_2 c2_3 c2_4
  have hne2 : (I 3 j1).toInt < 0 ∨ 4 < (I 3 j1).toInt := by
    have nc2_0 := lv_neT c2_0 (a := 0) (by decide); have nc2_1 := lv_neT c2_1 (a := 1) (by decide); have nc2_2 := lv_neT c2_2 (a := 2) (by decide); have nc2_3 := lv_neT c2_3 (a := 3) (by decide); have nc2_4 := lv_neT c2_4 (a := 4) (by decide); omega
  refine z_tableOut (pc' := 103) dX2_plainAim_14 hne2 (by decide) ?_
  refine z_bipush (pc' := 105) (v := -2) dX2_plainAim_103 rfl (by decide) ?_
  exact z_iret dX2_plainAim_105 rfl rfl ⟨Nat.le_refl _, Nat.le_refl _⟩ ⟨_, _, _, rfl, rfl, h⟩
set_option maxHeartbeats 4000000 in
set_option maxRecDepth 100000 in
theorem t_X2_strongest {l : Launch} {G : zG} {d : Nat} {P : Int32 → zIM → zLM → Prop} {I : zIM} {L : zLM} {x1 : Int32} {x2 : Int32}  (h : K_X2_strongest_6 l G d P I L x1 x2 (-2 : Int32) (0 : Int32)) : zCi l G d mX2_strongest [.ref 1, .int x1, .int x2] I L P := by
  refine zCn.of (ls := [some (.ref 1), some (.int x1), some (.int x2), none, none, none]) (by decide) (Nat.le_of_ble_eq_true rfl) rfl ?_
  refine z_bipush (pc' := 2) (v := -2) dX2_strongest_0 rfl (by decide) ?_
  refine z_istore_n (pc' := 3) (ls' := [some (.ref 1), some (.int x1), some (.int x2), some (.int (-2 : Int32)), none, none]) dX2_strongest_2 rfl (by decide) rfl ?_
  refine z_iconst (pc' := 4) (v := 0) dX2_strongest_3 rfl (by decide) ?_
  refine z_istore (pc' := 6) (ls' := [some (.ref 1), some (.int x1), some (.int x2), some (.int (-2 : Int32)), some (.int (0 : Int32)), none]) dX2_strongest_4 rfl (by decide) rfl ?_
  exact h
set_option maxHeartbeats 4000000 in
set_option maxRecDepth 100000 in
theorem t_X2_strongest_6 {l : Launch} {G : zG} {d : Nat} {P : Int32 → zIM → zLM → Prop} {I : zIM} {L : zLM} {x1 : Int32} {x2 : Int32} {x3 : Int32} {x4 : Int32}   (h : (((I 1 6) ≤ x4 → (P x3 I L)) ∧ (¬ (I 1 6) ≤ x4 → (((((x1 >>> (x4 &&& 31)) &&& (1 : Int32)) = 0 → (K_X2_strongest_6 l G d P I L x1 x2 x3 (x4 + (1 : Int32)))) ∧ (¬ ((x1 >>> (x4 &&& 31)) &&& (1 : Int32)) = 0 → (((x3 = (-2 : Int32) → (K_X2_strongest_6 l G d P I L x1 x2 x4 (x4 + (1 : Int32)))) ∧ (¬ x3 = (-2 : Int32) → (∃ j4 : Nat, x4 = nI j4 ∧ j4 < 4 ∧ (∃ j5 : Nat, x3 = nI j5 ∧ j5 < 4 ∧ ((((x2 * (I 2 j4)) ≤ (x2 * (I 2 j5)) → (K_X2_strongest_6 l G d P I L x1 x2 x3 (x4 + (1 : Int32)))) ∧ (¬ (x2 * (I 2 j4)) ≤ (x2 * (I 2 j5)) → (K_X2_strongest_6 l G d P I L x1 x2 x4 (x4 + (1 : Int32))))))))))))))))) : K_X2_strongest_6 l G d P I L x1 x2 x3 x4  := by
  refine z_iload (pc' := 8) (x := x4) dX2_strongest_6 rfl rfl ?_
  refine z_aload_n (pc' := 9) (x := 1) dX2_strongest_8 rfl rfl ?_
  refine z_geti (pc' := 12) (x := (I 1 6)) dX2_strongest_9 rfl fl_X2_30 rfl rfl rfl ?_
  refine z_icmp_ge (pc' := 15) (tgt := 71) dX2_strongest_12 rfl (by decide) (fun c1 => ?_) (fun c1 => ?_)
  · replace h := h.1 c1
    refine z_iload_n (pc' := 72) (x := x3) dX2_strongest_71 rfl rfl ?_
    exact z_iret dX2_strongest_72 rfl rfl ⟨Nat.le_refl _, Nat.le_refl _⟩ ⟨_, _, _, rfl, rfl, h⟩
  · replace h := h.2 c1
    refine z_iload_n (pc' := 16) (x := x1) dX2_strongest_15 rfl rfl ?_
    refine z_iload (pc' := 18) (x := x4) dX2_strongest_16 rfl rfl ?_
    refine z_ishr (pc' := 19) dX2_strongest_18 rfl ?_
    refine z_iconst (pc' := 20) (v := 1) dX2_strongest_19 rfl (by decide) ?_
    refine z_iand (pc' := 21) dX2_strongest_20 rfl ?_
    refine z_if_eq (pc' := 24) (tgt := 28) dX2_strongest_21 rfl (by decide) (fun c2 => ?_) (fun c2 => ?_)
    · replace h := h.1 c2
      refine z_iconst (pc' := 29) (v := 0) dX2_strongest_28 rfl (by decide) ?_
      refine z_istore (pc' := 31) (ls' := [some (.ref 1), some (.int x1), some (.int x2), some (.int x3), some (.int x4), some (.int (0 : Int32))]) dX2_strongest_29 rfl (by decide) rfl ?_
      refine z_iload (pc' := 33) (x := (0 : Int32)) dX2_strongest_31 rfl rfl ?_
      refine z_if_eq (pc' := 36) (tgt := 65) dX2_strongest_33 rfl (by decide) (fun _ => ?_) (fun c => absurd c (by decide))
      refine z_iinc (pc' := 68) (x := x4) (v := (x4 + (1 : Int32))) (ls' := [some (.ref 1), some (.int x1), some (.int x2), some (.int x3), some (.int (x4 + (1 : Int32))), some (.int (0 : Int32))]) dX2_strongest_65 rfl rfl (by rfl) (by decide) rfl ?_
      refine z_goto (pc' := 6) dX2_strongest_68 (by decide) ?_
      refine z_sub (pc' := 0) [some (.ref 1), some (.int x1), some (.int x2), some (.int x3), some (.int (x4 + (1 : Int32))), none] (zsub_s (zsub_s (zsub_s (zsub_s (zsub_s (zsub_n zsub_nil)))))) ?_
      exact h
    · replace h := h.2 c2
      refine z_iconst (pc' := 25) (v := 1) dX2_strongest_24 rfl (by decide) ?_
      refine z_goto (pc' := 29) dX2_strongest_25 (by decide) ?_
      refine z_istore (pc' := 31) (ls' := [some (.ref 1), some (.int x1), some (.int x2), some (.int x3), some (.int x4), some (.int (1 : Int32))]) dX2_strongest_29 rfl (by decide) rfl ?_
      refine z_iload (pc' := 33) (x := (1 : Int32)) dX2_strongest_31 rfl rfl ?_
      refine z_if_eq (pc' := 36) (tgt := 65) dX2_strongest_33 rfl (by decide) (fun c => absurd c (by decide)) (fun _ => ?_)
      refine z_iload_n (pc' := 37) (x := x3) dX2_strongest_36 rfl rfl ?_
      refine z_bipush (pc' := 39) (v := -2) dX2_strongest_37 rfl (by decide) ?_
      refine z_icmp_eq (pc' := 42) (tgt := 62) dX2_strongest_39 rfl (by decide) (fun c3 => ?_) (fun c3 => ?_)
      · replace h := h.1 c3
        refine z_iload (pc' := 64) (x := x4) dX2_strongest_62 rfl rfl ?_
        refine z_istore_n (pc' := 65) (ls' := [some (.ref 1), some (.int x1), some (.int x2), some (.int x4), some (.int x4), some (.int (1 : Int32))]) dX2_strongest_64 rfl (by decide) rfl ?_
        refine z_iinc (pc' := 68) (x := x4) (v := (x4 + (1 : Int32))) (ls' := [some (.ref 1), some (.int x1), some (.int x2), some (.int x4), some (.int (x4 + (1 : Int32))), some (.int (1 : Int32))]) dX2_strongest_65 rfl rfl (by rfl) (by decide) rfl ?_
        refine z_goto (pc' := 6) dX2_strongest_68 (by decide) ?_
        refine z_sub (pc' := 0) [some (.ref 1), some (.int x1), some (.int x2), some (.int x4), some (.int (x4 + (1 : Int32))), none] (zsub_s (zsub_s (zsub_s (zsub_s (zsub_s (zsub_n zsub_nil)))))) ?_
        exact h
      · replace h := h.2 c3
        refine z_iload_n (pc' := 43) (x := x2) dX2_strongest_42 rfl rfl ?_
        refine z_aload_n (pc' := 44) (x := 1) dX2_strongest_43 rfl rfl ?_
        refine z_getr (pc' := 47) (x := 2) dX2_strongest_44 rfl fl_X2_9 rfl rfl rfl ?_
        refine z_iload (pc' := 49) (x := x4) dX2_strongest_47 rfl rfl ?_
        obtain ⟨j4, ha4, hb4, h⟩ := h
        refine z_iald (pc' := 50) (x := (I 2 j4)) (j := j4) dX2_strongest_49 rfl rfl (by decide) ha4 hb4 rfl ?_
        refine z_imul (pc' := 51) dX2_strongest_50 rfl ?_
        refine z_iload_n (pc' := 52) (x := x2) dX2_strongest_51 rfl rfl ?_
        refine z_aload_n (pc' := 53) (x := 1) dX2_strongest_52 rfl rfl ?_
        refine z_getr (pc' := 56) (x := 2) dX2_strongest_53 rfl fl_X2_9 rfl rfl rfl ?_
        refine z_iload_n (pc' := 57) (x := x3) dX2_strongest_56 rfl rfl ?_
        obtain ⟨j5, ha5, hb5, h⟩ := h
        refine z_iald (pc' := 58) (x := (I 2 j5)) (j := j5) dX2_strongest_57 rfl rfl (by decide) ha5 hb5 rfl ?_
        refine z_imul (pc' := 59) dX2_strongest_58 rfl ?_
        refine z_icmp_le (pc' := 62) (tgt := 65) dX2_strongest_59 rfl (by decide) (fun c6 => ?_) (fun c6 => ?_)
        · replace h := h.1 c6
          refine z_iinc (pc' := 68) (x := x4) (v := (x4 + (1 : Int32))) (ls' := [some (.ref 1), some (.int x1), some (.int x2), some (.int x3), some (.int (x4 + (1 : Int32))), some (.int (1 : Int32))]) dX2_strongest_65 rfl rfl (by rfl) (by decide) rfl ?_
          refine z_goto (pc' := 6) dX2_strongest_68 (by decide) ?_
          refine z_sub (pc' := 0) [some (.ref 1), some (.int x1), some (.int x2), some (.int x3), some (.int (x4 + (1 : Int32))), none] (zsub_s (zsub_s (zsub_s (zsub_s (zsub_s (zsub_n zsub_nil)))))) ?_
          exact h
        · replace h := h.2 c6
          refine z_iload (pc' := 64) (x := x4) dX2_strongest_62 rfl rfl ?_
          refine z_istore_n (pc' := 65) (ls' := [some (.ref 1), some (.int x1), some (.int x2), some (.int x4), some (.int x4), some (.int (1 : Int32))]) dX2_strongest_64 rfl (by decide) rfl ?_
          refine z_iinc (pc' := 68) (x := x4) (v := (x4 + (1 : Int32))) (ls' := [some (.ref 1), some (.int x1), some (.int x2), some (.int x4), some (.int (x4 + (1 : Int32))), some (.int (1 : Int32))]) dX2_strongest_65 rfl rfl (by rfl) (by decide) rfl ?_
          refine z_goto (pc' := 6) dX2_strongest_68 (by decide) ?_
          refine z_sub (pc' := 0) [some (.ref 1), some (.int x1), some (.int x2), some (.int x4), some (.int (x4 + (1 : Int32))), none] (zsub_s (zsub_s (zsub_s (zsub_s (zsub_s (zsub_n zsub_nil)))))) ?_
          exact h
set_option maxHeartbeats 4000000 in
set_option maxRecDepth 100000 in
theorem t_X2_findFollowers {l : Launch} {G : zG} {d : Nat} {P : zIM → zLM → Prop} {I : zIM} {L : zLM}   (h : K_X2_findFollowers_2 l G d P I L (0 : Int32)) : zCv l G d mX2_findFollowers [.ref 1] I L P := by
  refine zCn.of (ls := [some (.ref 1), none, none]) (by decide) (Nat.le_of_ble_eq_true rfl) rfl ?_
  refine z_iconst (pc' := 1) (v := 0) dX2_findFollowers_0 rfl (by decide) ?_
  refine z_istore_n (pc' := 2) (ls' := [some (.ref 1), some (.int (0 : Int32)), none]) dX2_findFollowers_1 rfl (by decide) rfl ?_
  exact h
set_option maxHeartbeats 4000000 in
set_option maxRecDepth 100000 in
theorem t_X2_findFollowers_2 {l : Launch} {G : zG} {d : Nat} {P : zIM → zLM → Prop} {I : zIM} {L : zLM} {x1 : Int32}   (h : (((I 1 6) ≤ x1 → (K_X2_findFollowers_30 l G d P I L (0 : Int32))) ∧ (¬ (I 1 6) ≤ x1 → (∃ j2 : Nat, x1 = nI j2 ∧ j2 < 4 ∧ (∃ j3 : Nat, (I 5 j2) = nI j3 ∧ j3 < 4 ∧ (K_X2_findFollowers_2 l G d P (xI I 6 j3 x1) L (x1 + (1 : Int32)))))))) : K_X2_findFollowers_2 l G d P I L x1  := by
  refine z_iload_n (pc' := 3) (x := x1) dX2_findFollowers_2 rfl rfl ?_
  refine z_aload_n (pc' := 4) (x := 1) dX2_findFollowers_3 rfl rfl ?_
  refine z_geti (pc' := 7) (x := (I 1 6)) dX2_findFollowers_4 rfl fl_X2_30 rfl rfl rfl ?_
  refine z_icmp_ge (pc' := 10) (tgt := 28) dX2_findFollowers_7 rfl (by decide) (fun c1 => ?_) (fun c1 => ?_)
  · replace h := h.1 c1
    refine z_iconst (pc' := 29) (v := 0) dX2_findFollowers_28 rfl (by decide) ?_
    refine z_istore_n (pc' := 30) (ls' := [some (.ref 1), some (.int (0 : Int32)), none]) dX2_findFollowers_29 rfl (by decide) rfl ?_
    exact h
  · replace h := h.2 c1
    refine z_aload_n (pc' := 11) (x := 1) dX2_findFollowers_10 rfl rfl ?_
    refine z_getr (pc' := 14) (x := 6) dX2_findFollowers_11 rfl fl_X2_24 rfl rfl rfl ?_
    refine z_aload_n (pc' := 15) (x := 1) dX2_findFollowers_14 rfl rfl ?_
    refine z_getr (pc' := 18) (x := 5) dX2_findFollowers_15 rfl fl_X2_21 rfl rfl rfl ?_
    refine z_iload_n (pc' := 19) (x := x1) dX2_findFollowers_18 rfl rfl ?_
    obtain ⟨j2, ha2, hb2, h⟩ := h
    refine z_iald (pc' := 20) (x := (I 5 j2)) (j := j2) dX2_findFollowers_19 rfl rfl (by decide) ha2 hb2 rfl ?_
    refine z_iload_n (pc' := 21) (x := x1) dX2_findFollowers_20 rfl rfl ?_
    obtain ⟨j3, ha3, hb3, h⟩ := h
    refine z_iast (pc' := 22) (j := j3) (w' := zs (xI I 6 j3 x1) L) dX2_findFollowers_21 rfl rfl (by decide) ha3 hb3 rfl ?_
    refine z_iinc (pc' := 25) (x := x1) (v := (x1 + (1 : Int32))) (ls' := [some (.ref 1), some (.int (x1 + (1 : Int32))), none]) dX2_findFollowers_22 rfl rfl (by rfl) (by decide) rfl ?_
    refine z_goto (pc' := 2) dX2_findFollowers_25 (by decide) ?_
    exact h
set_option maxHeartbeats 4000000 in
set_option maxRecDepth 100000 in
theorem t_X2_findFollowers_30 {l : Launch} {G : zG} {d : Nat} {P : zIM → zLM → Prop} {I : zIM} {L : zLM} {x1 : Int32}   (h : (((I 1 6) ≤ x1 → (P I L)) ∧ (¬ (I 1 6) ≤ x1 → (K_X2_findFollowers_40 l G d P I L x1 (0 : Int32))))) : K_X2_findFollowers_30 l G d P I L x1  := by
  refine z_iload_n (pc' := 31) (x := x1) dX2_findFollowers_30 rfl rfl ?_
  refine z_aload_n (pc' := 32) (x := 1) dX2_findFollowers_31 rfl rfl ?_
  refine z_geti (pc' := 35) (x := (I 1 6)) dX2_findFollowers_32 rfl fl_X2_30 rfl rfl rfl ?_
  refine z_icmp_ge (pc' := 38) (tgt := 75) dX2_findFollowers_35 rfl (by decide) (fun c1 => ?_) (fun c1 => ?_)
  · replace h := h.1 c1
    exact z_vret dX2_findFollowers_75 rfl ⟨Nat.le_refl _, Nat.le_refl _⟩ ⟨_, _, rfl, rfl, h⟩
  · replace h := h.2 c1
    refine z_iconst (pc' := 39) (v := 0) dX2_findFollowers_38 rfl (by decide) ?_
    refine z_istore_n (pc' := 40) (ls' := [some (.ref 1), some (.int x1), some (.int (0 : Int32))]) dX2_findFollowers_39 rfl (by decide) rfl ?_
    exact h
set_option maxHeartbeats 4000000 in
set_option maxRecDepth 100000 in
theorem t_X2_findFollowers_40 {l : Launch} {G : zG} {d : Nat} {P : zIM → zLM → Prop} {I : zIM} {L : zLM} {x1 : Int32} {x2 : Int32}   (h : (((16 : Int32) ≤ x2 → (K_X2_findFollowers_30 l G d P I L (x1 + (1 : Int32)))) ∧ (¬ (16 : Int32) ≤ x2 → (∃ (d2 : Nat) (P2 : Int32 → zIM → zLM → Prop), d2 + 1 ≤ d ∧ zCi l G d2 mX2_followerOf [.ref 1, .int x1, .int x2] I L P2 ∧ ∀ (y2 : Int32) (I2 : zIM) (L2 : zLM), P2 y2 I2 L2 → (∃ j3 : Nat, ((x1 * (16 : Int32)) + x2) = nI j3 ∧ j3 < 64 ∧ (K_X2_findFollowers_40 l G d P (xI I2 8 j3 y2) L2 x1 (x2 + (1 : Int32)))))))) : K_X2_findFollowers_40 l G d P I L x1 x2  := by
  refine z_iload_n (pc' := 41) (x := x2) dX2_findFollowers_40 rfl rfl ?_
  refine z_bipush (pc' := 43) (v := 16) dX2_findFollowers_41 rfl (by decide) ?_
  refine z_icmp_ge (pc' := 46) (tgt := 69) dX2_findFollowers_43 rfl (by decide) (fun c1 => ?_) (fun c1 => ?_)
  · replace h := h.1 c1
    refine z_iinc (pc' := 72) (x := x1) (v := (x1 + (1 : Int32))) (ls' := [some (.ref 1), some (.int (x1 + (1 : Int32))), some (.int x2)]) dX2_findFollowers_69 rfl rfl (by rfl) (by decide) rfl ?_
    refine z_goto (pc' := 30) dX2_findFollowers_72 (by decide) ?_
    refine z_sub (pc' := 0) [some (.ref 1), some (.int (x1 + (1 : Int32))), none] (zsub_s (zsub_s (zsub_n zsub_nil))) ?_
    exact h
  · replace h := h.2 c1
    refine z_aload_n (pc' := 47) (x := 1) dX2_findFollowers_46 rfl rfl ?_
    refine z_getr (pc' := 50) (x := 8) dX2_findFollowers_47 rfl fl_X2_37 rfl rfl rfl ?_
    refine z_iload_n (pc' := 51) (x := x1) dX2_findFollowers_50 rfl rfl ?_
    refine z_bipush (pc' := 53) (v := 16) dX2_findFollowers_51 rfl (by decide) ?_
    refine z_imul (pc' := 54) dX2_findFollowers_53 rfl ?_
    refine z_iload_n (pc' := 55) (x := x2) dX2_findFollowers_54 rfl rfl ?_
    refine z_iadd (pc' := 56) dX2_findFollowers_55 rfl ?_
    refine z_aload_n (pc' := 57) (x := 1) dX2_findFollowers_56 rfl rfl ?_
    refine z_iload_n (pc' := 58) (x := x1) dX2_findFollowers_57 rfl rfl ?_
    refine z_iload_n (pc' := 59) (x := x2) dX2_findFollowers_58 rfl rfl ?_
    obtain ⟨d2, P2, hd2, hC2, h⟩ := h
    refine z_callV (pc' := 62) (M' := mX2_followerOf) (As := [.int x1, .int x2]) dX2_findFollowers_59 rfl ml_X2_60 me_X2_followerOf hC2 rfl (by decide) rfl rfl hd2 (Nat.le_of_ble_eq_true rfl) ⟨Nat.le_refl _, Nat.le_refl _⟩ rfl ?_
    rintro _ _ ⟨y2, I2, L2, rfl, rfl, hP2⟩
    replace h := h y2 I2 L2 hP2
    obtain ⟨j3, ha3, hb3, h⟩ := h
    refine z_iast (pc' := 63) (j := j3) (w' := zs (xI I2 8 j3 y2) L2) dX2_findFollowers_62 rfl rfl (by decide) ha3 hb3 rfl ?_
    refine z_iinc (pc' := 66) (x := x2) (v := (x2 + (1 : Int32))) (ls' := [some (.ref 1), some (.int x1), some (.int (x2 + (1 : Int32)))]) dX2_findFollowers_63 rfl rfl (by rfl) (by decide) rfl ?_
    refine z_goto (pc' := 40) dX2_findFollowers_66 (by decide) ?_
    exact h
set_option maxHeartbeats 4000000 in
set_option maxRecDepth 100000 in
theorem t_X2_followerOf {l : Launch} {G : zG} {d : Nat} {P : Int32 → zIM → zLM → Prop} {I : zIM} {L : zLM} {x1 : Int32} {x2 : Int32}  (h : ∃ j1 : Nat, x1 = nI j1 ∧ j1 < 4 ∧ (K_X2_followerOf_10 l G d P I L x1 x2 (I 6 j1) (0 : Int32))) : zCi l G d mX2_followerOf [.ref 1, .int x1, .int x2] I L P := by
  refine zCn.of (ls := [some (.ref 1), some (.int x1), some (.int x2), none, none]) (by decide) (Nat.le_of_ble_eq_true rfl) rfl ?_
  refine z_aload_n (pc' := 1) (x := 1) dX2_followerOf_0 rfl rfl ?_
  refine z_getr (pc' := 4) (x := 6) dX2_followerOf_1 rfl fl_X2_24 rfl rfl rfl ?_
  refine z_iload_n (pc' := 5) (x := x1) dX2_followerOf_4 rfl rfl ?_
  obtain ⟨j1, ha1, hb1, h⟩ := h
  refine z_iald (pc' := 6) (x := (I 6 j1)) (j := j1) dX2_followerOf_5 rfl rfl (by decide) ha1 hb1 rfl ?_
  refine z_istore_n (pc' := 7) (ls' := [some (.ref 1), some (.int x1), some (.int x2), some (.int (I 6 j1)), none]) dX2_followerOf_6 rfl (by decide) rfl ?_
  refine z_iconst (pc' := 8) (v := 0) dX2_followerOf_7 rfl (by decide) ?_
  refine z_istore (pc' := 10) (ls' := [some (.ref 1), some (.int x1), some (.int x2), some (.int (I 6 j1)), some (.int (0 : Int32))]) dX2_followerOf_8 rfl (by decide) rfl ?_
  exact h
set_option maxHeartbeats 4000000 in
set_option maxRecDepth 100000 in
theorem t_X2_followerOf_10 {l : Launch} {G : zG} {d : Nat} {P : Int32 → zIM → zLM → Prop} {I : zIM} {L : zLM} {x1 : Int32} {x2 : Int32} {x3 : Int32} {x4 : Int32}   (h : (((I 1 6) ≤ x4 → (P x1 I L)) ∧ (¬ (I 1 6) ≤ x4 → ((((I 1 6) ≤ (x3 + (1 : Int32)) → (((((x2 >>> ((I 5 0) &&& 31)) &&& (1 : Int32)) = 0 → (K_X2_followerOf_10 l G d P I L x1 x2 (0 : Int32) (x4 + (1 : Int32)))) ∧ (¬ ((x2 >>> ((I 5 0) &&& 31)) &&& (1 : Int32)) = 0 → (P (I 5 0) I L))))) ∧ (¬ (I 1 6) ≤ (x3 + (1 : Int32)) → (∃ j4 : Nat, (x3 + (1 : Int32)) = nI j4 ∧ j4 < 4 ∧ (((((x2 >>> ((I 5 j4) &&& 31)) &&& (1 : Int32)) = 0 → (K_X2_followerOf_10 l G d P I L x1 x2 (x3 + (1 : Int32)) (x4 + (1 : Int32)))) ∧ (¬ ((x2 >>> ((I 5 j4) &&& 31)) &&& (1 : Int32)) = 0 → (P (I 5 j4) I L))))))))))) : K_X2_followerOf_10 l G d P I L x1 x2 x3 x4  := by
  refine z_iload (pc' := 12) (x := x4) dX2_followerOf_10 rfl rfl ?_
  refine z_aload_n (pc' := 13) (x := 1) dX2_followerOf_12 rfl rfl ?_
  refine z_geti (pc' := 16) (x := (I 1 6)) dX2_followerOf_13 rfl fl_X2_30 rfl rfl rfl ?_
  refine z_icmp_ge (pc' := 19) (tgt := 63) dX2_followerOf_16 rfl (by decide) (fun c1 => ?_) (fun c1 => ?_)
  · replace h := h.1 c1
    refine z_iload_n (pc' := 64) (x := x1) dX2_followerOf_63 rfl rfl ?_
    exact z_iret dX2_followerOf_64 rfl rfl ⟨Nat.le_refl _, Nat.le_refl _⟩ ⟨_, _, _, rfl, rfl, h⟩
  · replace h := h.2 c1
    refine z_iload_n (pc' := 20) (x := x3) dX2_followerOf_19 rfl rfl ?_
    refine z_iconst (pc' := 21) (v := 1) dX2_followerOf_20 rfl (by decide) ?_
    refine z_iadd (pc' := 22) dX2_followerOf_21 rfl ?_
    refine z_aload_n (pc' := 23) (x := 1) dX2_followerOf_22 rfl rfl ?_
    refine z_geti (pc' := 26) (x := (I 1 6)) dX2_followerOf_23 rfl fl_X2_30 rfl rfl rfl ?_
    refine z_icmp_ge (pc' := 29) (tgt := 35) dX2_followerOf_26 rfl (by decide) (fun c2 => ?_) (fun c2 => ?_)
    · replace h := h.1 c2
      refine z_iconst (pc' := 36) (v := 0) dX2_followerOf_35 rfl (by decide) ?_
      refine z_istore_n (pc' := 37) (ls' := [some (.ref 1), some (.int x1), some (.int x2), some (.int (0 : Int32)), some (.int x4)]) dX2_followerOf_36 rfl (by decide) rfl ?_
      refine z_iload_n (pc' := 38) (x := x2) dX2_followerOf_37 rfl rfl ?_
      refine z_aload_n (pc' := 39) (x := 1) dX2_followerOf_38 rfl rfl ?_
      refine z_getr (pc' := 42) (x := 5) dX2_followerOf_39 rfl fl_X2_21 rfl rfl rfl ?_
      refine z_iload_n (pc' := 43) (x := (0 : Int32)) dX2_followerOf_42 rfl rfl ?_
      refine z_iald (pc' := 44) (x := (I 5 0)) (j := 0) dX2_followerOf_43 rfl rfl (by decide) rfl (by decide) rfl ?_
      refine z_ishr (pc' := 45) dX2_followerOf_44 rfl ?_
      refine z_iconst (pc' := 46) (v := 1) dX2_followerOf_45 rfl (by decide) ?_
      refine z_iand (pc' := 47) dX2_followerOf_46 rfl ?_
      refine z_if_eq (pc' := 50) (tgt := 57) dX2_followerOf_47 rfl (by decide) (fun c3 => ?_) (fun c3 => ?_)
      · replace h := h.1 c3
        refine z_iinc (pc' := 60) (x := x4) (v := (x4 + (1 : Int32))) (ls' := [some (.ref 1), some (.int x1), some (.int x2), some (.int (0 : Int32)), some (.int (x4 + (1 : Int32)))]) dX2_followerOf_57 rfl rfl (by rfl) (by decide) rfl ?_
        refine z_goto (pc' := 10) dX2_followerOf_60 (by decide) ?_
        exact h
      · replace h := h.2 c3
        refine z_aload_n (pc' := 51) (x := 1) dX2_followerOf_50 rfl rfl ?_
        refine z_getr (pc' := 54) (x := 5) dX2_followerOf_51 rfl fl_X2_21 rfl rfl rfl ?_
        refine z_iload_n (pc' := 55) (x := (0 : Int32)) dX2_followerOf_54 rfl rfl ?_
        refine z_iald (pc' := 56) (x := (I 5 0)) (j := 0) dX2_followerOf_55 rfl rfl (by decide) rfl (by decide) rfl ?_
        exact z_iret dX2_followerOf_56 rfl rfl ⟨Nat.le_refl _, Nat.le_refl _⟩ ⟨_, _, _, rfl, rfl, h⟩
    · replace h := h.2 c2
      refine z_iload_n (pc' := 30) (x := x3) dX2_followerOf_29 rfl rfl ?_
      refine z_iconst (pc' := 31) (v := 1) dX2_followerOf_30 rfl (by decide) ?_
      refine z_iadd (pc' := 32) dX2_followerOf_31 rfl ?_
      refine z_goto (pc' := 36) dX2_followerOf_32 (by decide) ?_
      refine z_istore_n (pc' := 37) (ls' := [some (.ref 1), some (.int x1), some (.int x2), some (.int (x3 + (1 : Int32))), some (.int x4)]) dX2_followerOf_36 rfl (by decide) rfl ?_
      refine z_iload_n (pc' := 38) (x := x2) dX2_followerOf_37 rfl rfl ?_
      refine z_aload_n (pc' := 39) (x := 1) dX2_followerOf_38 rfl rfl ?_
      refine z_getr (pc' := 42) (x := 5) dX2_followerOf_39 rfl fl_X2_21 rfl rfl rfl ?_
      refine z_iload_n (pc' := 43) (x := (x3 + (1 : Int32))) dX2_followerOf_42 rfl rfl ?_
      obtain ⟨j4, ha4, hb4, h⟩ := h
      refine z_iald (pc' := 44) (x := (I 5 j4)) (j := j4) dX2_followerOf_43 rfl rfl (by decide) ha4 hb4 rfl ?_
      refine z_ishr (pc' := 45) dX2_followerOf_44 rfl ?_
      refine z_iconst (pc' := 46) (v := 1) dX2_followerOf_45 rfl (by decide) ?_
      refine z_iand (pc' := 47) dX2_followerOf_46 rfl ?_
      refine z_if_eq (pc' := 50) (tgt := 57) dX2_followerOf_47 rfl (by decide) (fun c5 => ?_) (fun c5 => ?_)
      · replace h := h.1 c5
        refine z_iinc (pc' := 60) (x := x4) (v := (x4 + (1 : Int32))) (ls' := [some (.ref 1), some (.int x1), some (.int x2), some (.int (x3 + (1 : Int32))), some (.int (x4 + (1 : Int32)))]) dX2_followerOf_57 rfl rfl (by rfl) (by decide) rfl ?_
        refine z_goto (pc' := 10) dX2_followerOf_60 (by decide) ?_
        exact h
      · replace h := h.2 c5
        refine z_aload_n (pc' := 51) (x := 1) dX2_followerOf_50 rfl rfl ?_
        refine z_getr (pc' := 54) (x := 5) dX2_followerOf_51 rfl fl_X2_21 rfl rfl rfl ?_
        refine z_iload_n (pc' := 55) (x := (x3 + (1 : Int32))) dX2_followerOf_54 rfl rfl ?_
        refine z_iald (pc' := 56) (x := (I 5 j4)) (j := j4) dX2_followerOf_55 rfl rfl (by decide) ha4 hb4 rfl ?_
        exact z_iret dX2_followerOf_56 rfl rfl ⟨Nat.le_refl _, Nat.le_refl _⟩ ⟨_, _, _, rfl, rfl, h⟩
set_option maxHeartbeats 4000000 in
set_option maxRecDepth 100000 in
theorem t_X5_holdBody {l : Launch} {G : zG} {d : Nat} {P : zIM → zLM → Prop} {I : zIM} {L : zLM} {q0 : Nat} {x1 : Int32} (hq0 : q0 < 6) (h : ((0 ≤ x1 → (P (xI (xI (xI I (31 + 2 * q0) 0 (-1 : Int32)) (31 + 2 * q0) 1 x1) (31 + 2 * q0) 2 (0 : Int32)) L)) ∧ (¬ 0 ≤ x1 → (P (xI (xI (xI I (31 + 2 * q0) 0 (-2 : Int32)) (31 + 2 * q0) 1 x1) (31 + 2 * q0) 2 (0 : Int32)) L)))) : zCv l G d mX5_holdBody [.ref (31 + 2 * q0), .int x1] I L P := by
  refine zCn.of (ls := [some (.ref (31 + 2 * q0)), some (.int x1)]) (by decide) (Nat.le_of_ble_eq_true rfl) rfl ?_
  refine z_aload_n (pc' := 1) (x := (31 + 2 * q0)) dX5_holdBody_0 rfl rfl ?_
  refine z_iload_n (pc' := 2) (x := x1) dX5_holdBody_1 rfl rfl ?_
  refine z_if_ge (pc' := 5) (tgt := 10) dX5_holdBody_2 rfl (by decide) (fun c1 => ?_) (fun c1 => ?_)
  · replace h := h.1 c1
    refine z_iconst (pc' := 11) (v := -1) dX5_holdBody_10 rfl (by decide) ?_
    refine z_puti (pc' := 14) (w' := zs (xI I (31 + 2 * q0) 0 (-1 : Int32)) L) dX5_holdBody_11 rfl fl_X5_11 (zS_sh hq0) rfl rfl rfl rfl rfl ?_
    refine z_aload_n (pc' := 15) (x := (31 + 2 * q0)) dX5_holdBody_14 rfl rfl ?_
    refine z_iload_n (pc' := 16) (x := x1) dX5_holdBody_15 rfl rfl ?_
    refine z_puti (pc' := 19) (w' := zs (xI (xI I (31 + 2 * q0) 0 (-1 : Int32)) (31 + 2 * q0) 1 x1) L) dX5_holdBody_16 rfl fl_X5_15 (zS_sh hq0) rfl rfl rfl rfl rfl ?_
    refine z_aload_n (pc' := 20) (x := (31 + 2 * q0)) dX5_holdBody_19 rfl rfl ?_
    refine z_iconst (pc' := 21) (v := 0) dX5_holdBody_20 rfl (by decide) ?_
    refine z_puti (pc' := 24) (w' := zs (xI (xI (xI I (31 + 2 * q0) 0 (-1 : Int32)) (31 + 2 * q0) 1 x1) (31 + 2 * q0) 2 (0 : Int32)) L) dX5_holdBody_21 rfl fl_X5_18 (zS_sh hq0) rfl rfl rfl rfl rfl ?_
    exact z_vret dX5_holdBody_24 rfl ⟨Nat.le_refl _, Nat.le_refl _⟩ ⟨_, _, rfl, rfl, h⟩
  · replace h := h.2 c1
    refine z_bipush (pc' := 7) (v := -2) dX5_holdBody_5 rfl (by decide) ?_
    refine z_goto (pc' := 11) dX5_holdBody_7 (by decide) ?_
    refine z_puti (pc' := 14) (w' := zs (xI I (31 + 2 * q0) 0 (-2 : Int32)) L) dX5_holdBody_11 rfl fl_X5_11 (zS_sh hq0) rfl rfl rfl rfl rfl ?_
    refine z_aload_n (pc' := 15) (x := (31 + 2 * q0)) dX5_holdBody_14 rfl rfl ?_
    refine z_iload_n (pc' := 16) (x := x1) dX5_holdBody_15 rfl rfl ?_
    refine z_puti (pc' := 19) (w' := zs (xI (xI I (31 + 2 * q0) 0 (-2 : Int32)) (31 + 2 * q0) 1 x1) L) dX5_holdBody_16 rfl fl_X5_15 (zS_sh hq0) rfl rfl rfl rfl rfl ?_
    refine z_aload_n (pc' := 20) (x := (31 + 2 * q0)) dX5_holdBody_19 rfl rfl ?_
    refine z_iconst (pc' := 21) (v := 0) dX5_holdBody_20 rfl (by decide) ?_
    refine z_puti (pc' := 24) (w' := zs (xI (xI (xI I (31 + 2 * q0) 0 (-2 : Int32)) (31 + 2 * q0) 1 x1) (31 + 2 * q0) 2 (0 : Int32)) L) dX5_holdBody_21 rfl fl_X5_18 (zS_sh hq0) rfl rfl rfl rfl rfl ?_
    exact z_vret dX5_holdBody_24 rfl ⟨Nat.le_refl _, Nat.le_refl _⟩ ⟨_, _, rfl, rfl, h⟩
set_option maxHeartbeats 4000000 in
set_option maxRecDepth 100000 in
theorem t_X5_holdRow {l : Launch} {G : zG} {d : Nat} {P : zIM → zLM → Prop} {I : zIM} {L : zLM} {q0 : Nat} {x1 : Int32} {x2 : Int32} (hq0 : q0 < 6) (h : K_X5_holdRow_17 l G d P (xI (xI (xI I (31 + 2 * q0) 0 x1) (31 + 2 * q0) 1 (-1 : Int32)) (31 + 2 * q0) 2 x2) L x2 (0 : Int32)  q0) : zCv l G d mX5_holdRow [.ref (31 + 2 * q0), .int x1, .int x2] I L P := by
  refine zCn.of (ls := [some (.ref (31 + 2 * q0)), some (.int x1), some (.int x2), none]) (by decide) (Nat.le_of_ble_eq_true rfl) rfl ?_
  refine z_aload_n (pc' := 1) (x := (31 + 2 * q0)) dX5_holdRow_0 rfl rfl ?_
  refine z_iload_n (pc' := 2) (x := x1) dX5_holdRow_1 rfl rfl ?_
  refine z_puti (pc' := 5) (w' := zs (xI I (31 + 2 * q0) 0 x1) L) dX5_holdRow_2 rfl fl_X5_11 (zS_sh hq0) rfl rfl rfl rfl rfl ?_
  refine z_aload_n (pc' := 6) (x := (31 + 2 * q0)) dX5_holdRow_5 rfl rfl ?_
  refine z_iconst (pc' := 7) (v := -1) dX5_holdRow_6 rfl (by decide) ?_
  refine z_puti (pc' := 10) (w' := zs (xI (xI I (31 + 2 * q0) 0 x1) (31 + 2 * q0) 1 (-1 : Int32)) L) dX5_holdRow_7 rfl fl_X5_15 (zS_sh hq0) rfl rfl rfl rfl rfl ?_
  refine z_aload_n (pc' := 11) (x := (31 + 2 * q0)) dX5_holdRow_10 rfl rfl ?_
  refine z_iload_n (pc' := 12) (x := x2) dX5_holdRow_11 rfl rfl ?_
  refine z_puti (pc' := 15) (w' := zs (xI (xI (xI I (31 + 2 * q0) 0 x1) (31 + 2 * q0) 1 (-1 : Int32)) (31 + 2 * q0) 2 x2) L) dX5_holdRow_12 rfl fl_X5_18 (zS_sh hq0) rfl rfl rfl rfl rfl ?_
  refine z_iconst (pc' := 16) (v := 0) dX5_holdRow_15 rfl (by decide) ?_
  refine z_istore_n (pc' := 17) (ls' := [some (.ref (31 + 2 * q0)), some (.int x1), some (.int x2), some (.int (0 : Int32))]) dX5_holdRow_16 rfl (by decide) rfl ?_
  refine z_sub (pc' := 0) [some (.ref (31 + 2 * q0)), none, some (.int x2), some (.int (0 : Int32))] (zsub_s (zsub_n (zsub_s (zsub_s zsub_nil)))) ?_
  exact h
set_option maxHeartbeats 4000000 in
set_option maxRecDepth 100000 in
theorem t_X5_holdRow_17 {l : Launch} {G : zG} {d : Nat} {P : zIM → zLM → Prop} {I : zIM} {L : zLM} {x2 : Int32} {x3 : Int32} {q0 : Nat} (hq0 : q0 < 6) (h : ((x2 ≤ x3 → (P I L)) ∧ (¬ x2 ≤ x3 → (∃ j2 : Nat, x3 = nI j2 ∧ j2 < 60 ∧ (K_X5_holdRow_17 l G d P I (xL L (32 + 2 * q0) j2 (0 : Int64)) x2 (x3 + (1 : Int32))  q0))))) : K_X5_holdRow_17 l G d P I L x2 x3 q0 := by
  refine z_iload_n (pc' := 18) (x := x3) dX5_holdRow_17 rfl rfl ?_
  refine z_iload_n (pc' := 19) (x := x2) dX5_holdRow_18 rfl rfl ?_
  refine z_icmp_ge (pc' := 22) (tgt := 35) dX5_holdRow_19 rfl (by decide) (fun c1 => ?_) (fun c1 => ?_)
  · replace h := h.1 c1
    exact z_vret dX5_holdRow_35 rfl ⟨Nat.le_refl _, Nat.le_refl _⟩ ⟨_, _, rfl, rfl, h⟩
  · replace h := h.2 c1
    refine z_aload_n (pc' := 23) (x := (31 + 2 * q0)) dX5_holdRow_22 rfl rfl ?_
    refine z_getr (pc' := 26) (x := (32 + 2 * q0)) dX5_holdRow_23 rfl fl_X5_21 (zS_sh hq0) rfl (zR_el hq0) ?_
    refine z_iload_n (pc' := 27) (x := x3) dX5_holdRow_26 rfl rfl ?_
    refine z_lconst (pc' := 28) (v := 0) dX5_holdRow_27 rfl (by decide) ?_
    obtain ⟨j2, ha2, hb2, h⟩ := h
    refine z_last (pc' := 29) (j := j2) (w' := zs I (xL L (32 + 2 * q0) j2 (0 : Int64))) dX5_holdRow_28 rfl (zS_el hq0) (by decide) ha2 hb2 rfl ?_
    refine z_iinc (pc' := 32) (x := x3) (v := (x3 + (1 : Int32))) (ls' := [some (.ref (31 + 2 * q0)), none, some (.int x2), some (.int (x3 + (1 : Int32)))]) dX5_holdRow_29 rfl rfl (by rfl) (by decide) rfl ?_
    refine z_goto (pc' := 17) dX5_holdRow_32 (by decide) ?_
    exact h
set_option maxHeartbeats 4000000 in
set_option maxRecDepth 100000 in
theorem t_X5_setElement {l : Launch} {G : zG} {d : Nat} {P : zIM → zLM → Prop} {I : zIM} {L : zLM} {q0 : Nat} {x1 : Int32} {x2 : Int64} (hq0 : q0 < 6) (h : ∃ (d1 : Nat) (P1 : Int64 → zIM → zLM → Prop), d1 + 1 ≤ d ∧ zCl l G d1 mX5_lowestBits [.ref (31 + 2 * q0), .long x2] I L P1 ∧ ∀ (y1 : Int64) (I1 : zIM) (L1 : zLM), P1 y1 I1 L1 → (∃ j2 : Nat, x1 = nI j2 ∧ j2 < 60 ∧ (P I1 (xL L1 (32 + 2 * q0) j2 y1)))) : zCv l G d mX5_setElement [.ref (31 + 2 * q0), .int x1, .long x2] I L P := by
  refine zCn.of (ls := [some (.ref (31 + 2 * q0)), some (.int x1), some (.long x2), none]) (by decide) (Nat.le_of_ble_eq_true rfl) rfl ?_
  refine z_aload_n (pc' := 1) (x := (31 + 2 * q0)) dX5_setElement_0 rfl rfl ?_
  refine z_getr (pc' := 4) (x := (32 + 2 * q0)) dX5_setElement_1 rfl fl_X5_21 (zS_sh hq0) rfl (zR_el hq0) ?_
  refine z_iload_n (pc' := 5) (x := x1) dX5_setElement_4 rfl rfl ?_
  refine z_aload_n (pc' := 6) (x := (31 + 2 * q0)) dX5_setElement_5 rfl rfl ?_
  refine z_lload_n (pc' := 7) (x := x2) dX5_setElement_6 rfl rfl ?_
  obtain ⟨d1, P1, hd1, hC1, h⟩ := h
  refine z_callV (pc' := 10) (M' := mX5_lowestBits) (As := [.long x2]) dX5_setElement_7 rfl ml_X5_25 me_X5_lowestBits hC1 (zS_sh hq0) (by decide) rfl rfl hd1 (Nat.le_of_ble_eq_true rfl) ⟨Nat.le_refl _, Nat.le_refl _⟩ rfl ?_
  rintro _ _ ⟨y1, I1, L1, rfl, rfl, hP1⟩
  replace h := h y1 I1 L1 hP1
  obtain ⟨j2, ha2, hb2, h⟩ := h
  refine z_last (pc' := 11) (j := j2) (w' := zs I1 (xL L1 (32 + 2 * q0) j2 y1)) dX5_setElement_10 rfl (zS_el hq0) (by decide) ha2 hb2 rfl ?_
  exact z_vret dX5_setElement_11 rfl ⟨Nat.le_refl _, Nat.le_refl _⟩ ⟨_, _, rfl, rfl, h⟩
set_option maxHeartbeats 4000000 in
set_option maxRecDepth 100000 in
theorem t_X5_lowestBits {l : Launch} {G : zG} {d : Nat} {P : Int64 → zIM → zLM → Prop} {I : zIM} {L : zLM} {q0 : Nat} {x1 : Int64} (hq0 : q0 < 6) (h : (((I (31 + 2 * q0) 0) = (0 : Int32) → (P (((x1.toInt32).toInt8.toInt32).toInt64) I L)) ∧ ((I (31 + 2 * q0) 0) = (1 : Int32) → (P (((x1.toInt32).toInt16.toInt32).toInt64) I L)) ∧ ((I (31 + 2 * q0) 0) = (2 : Int32) → (P ((x1.toInt32).toInt64) I L)) ∧ ((I (31 + 2 * q0) 0) = (3 : Int32) → (P x1 I L)) ∧ (¬ (I (31 + 2 * q0) 0) = (0 : Int32) → ¬ (I (31 + 2 * q0) 0) = (1 : Int32) → ¬ (I (31 + 2 * q0) 0) = (2 : Int32) → ¬ (I (31 + 2 * q0) 0) = (3 : Int32) → (((x1 = (0 : Int64) → (P (0 : Int64) I L)) ∧ (¬ x1 = (0 : Int64) → (P (1 : Int64) I L))))))) : zCl l G d mX5_lowestBits [.ref (31 + 2 * q0), .long x1] I L P := by
  refine zCn.of (ls := [some (.ref (31 + 2 * q0)), some (.long x1), none]) (by decide) (Nat.le_of_ble_eq_true rfl) rfl ?_
  refine z_aload_n (pc' := 1) (x := (31 + 2 * q0)) dX5_lowestBits_0 rfl rfl ?_
  refine z_geti (pc' := 4) (x := (I (31 + 2 * q0) 0)) dX5_lowestBits_1 rfl fl_X5_11 (zS_sh hq0) rfl rfl ?_
  by_cases c1_0 : (I (31 + 2 * q0) 0) = (0 : Int32)
  · replace h := h.1 c1_0
    refine z_tableIn (pc' := 36) dX5_lowestBits_4 (by rw [c1_0]; decide) (by rw [c1_0]; decide) (by rw [c1_0]; rfl) (by decide) ?_
    refine z_lload_n (pc' := 37) (x := x1) dX5_lowestBits_36 rfl rfl ?_
    refine z_l2i (pc' := 38) dX5_lowestBits_37 rfl ?_
    refine z_i2b (pc' := 39) dX5_lowestBits_38 rfl ?_
    refine z_i2l (pc' := 40) dX5_lowestBits_39 rfl ?_
    exact z_lret dX5_lowestBits_40 rfl ⟨Nat.le_refl _, Nat.le_refl _⟩ ⟨_, _, _, rfl, rfl, h⟩
  by_cases c1_1 : (I (31 + 2 * q0) 0) = (1 : Int32)
  · replace h := h.2.1 c1_1
    refine z_tableIn (pc' := 41) dX5_lowestBits_4 (by rw [c1_1]; decide) (by rw [c1_1]; decide) (by rw [c1_1]; rfl) (by decide) ?_
    refine z_lload_n (pc' := 42) (x := x1) dX5_lowestBits_41 rfl rfl ?_
    refine z_l2i (pc' := 43) dX5_lowestBits_42 rfl ?_
    refine z_i2s (pc' := 44) dX5_lowestBits_43 rfl ?_
    refine z_i2l (pc' := 45) dX5_lowestBits_44 rfl ?_
    exact z_lret dX5_lowestBits_45 rfl ⟨Nat.le_refl _, Nat.le_refl _⟩ ⟨_, _, _, rfl, rfl, h⟩
  by_cases c1_2 : (I (31 + 2 * q0) 0) = (2 : Int32)
  · replace h := h.2.2.1 c1_2
    refine z_tableIn (pc' := 46) dX5_lowestBits_4 (by rw [c1_2]; decide) (by rw [c1_2]; decide) (by rw [c1_2]; rfl) (by decide) ?_
    refine z_lload_n (pc' := 47) (x := x1) dX5_lowestBits_46 rfl rfl ?_
    refine z_l2i (pc' := 48) dX5_lowestBits_47 rfl ?_
    refine z_i2l (pc' := 49) dX5_lowestBits_48 rfl ?_
    exact z_lret dX5_lowestBits_49 rfl ⟨Nat.le_refl _, Nat.le_refl _⟩ ⟨_, _, _, rfl, rfl, h⟩
  by_cases c1_3 : (I (31 + 2 * q0) 0) = (3 : Int32)
  · replace h := h.2.2.2.1 c1_3
    refine z_tableIn (pc' := 50) dX5_lowestBits_4 (by rw [c1_3]; decide) (by rw [c1_3]; decide) (by rw [c1_3]; rfl) (by decide) ?_
    refine z_lload_n (pc' := 51) (x := x1) dX5_lowestBits_50 rfl rfl ?_
    exact z_lret dX5_lowestBits_51 rfl ⟨Nat.le_refl _, Nat.le_refl _⟩ ⟨_, _, _, rfl, rfl, h⟩
  replace h := h.2.2.2.2 c1_0 c1_1 c1_2 c1_3
  have hne1 : (I (31 + 2 * q0) 0).toInt < 0 ∨ 3 < (I (31 + 2 * q0) 0).toInt := by
    have nc1_0 := lv_neT c1_0 (a := 0) (by decide); have nc1_1 := lv_neT c1_1 (a := 1) (by decide); have nc1_2 := lv_neT c1_2 (a := 2) (by decide); have nc1_3 := lv_neT c1_3 (a := 3) (by decide); omega
  refine z_tableOut (pc' := 52) dX5_lowestBits_4 hne1 (by decide) ?_
  refine z_lload_n (pc' := 53) (x := x1) dX5_lowestBits_52 rfl rfl ?_
  refine z_lconst (pc' := 54) (v := 0) dX5_lowestBits_53 rfl (by decide) ?_
  refine z_lc_eq (pc' := 58) (tgt := 62) dX5_lowestBits_54 dX5_lowestBits_55 rfl (by decide) (fun c2 => ?_) (fun c2 => ?_)
  · replace h := h.1 c2
    refine z_lconst (pc' := 63) (v := 0) dX5_lowestBits_62 rfl (by decide) ?_
    exact z_lret dX5_lowestBits_63 rfl ⟨Nat.le_refl _, Nat.le_refl _⟩ ⟨_, _, _, rfl, rfl, h⟩
  · replace h := h.2 c2
    refine z_lconst (pc' := 59) (v := 1) dX5_lowestBits_58 rfl (by decide) ?_
    refine z_goto (pc' := 63) dX5_lowestBits_59 (by decide) ?_
    exact z_lret dX5_lowestBits_63 rfl ⟨Nat.le_refl _, Nat.le_refl _⟩ ⟨_, _, _, rfl, rfl, h⟩
set_option maxHeartbeats 4000000 in
set_option maxRecDepth 100000 in
theorem t_J6_bitCount_0f7a4 {l : Launch} {G : zG} {d : Nat} {P : Int32 → zIM → zLM → Prop} {I : zIM} {L : zLM} {x0 : Int32}  (h : P ((((((((x0 - (((x0.toUInt32 >>> ((1 : Int32).toUInt32 &&& Int32.toUInt32 31)).toInt32) &&& (1431655765 : Int32))) &&& (858993459 : Int32)) + ((((x0 - (((x0.toUInt32 >>> ((1 : Int32).toUInt32 &&& Int32.toUInt32 31)).toInt32) &&& (1431655765 : Int32))).toUInt32 >>> ((2 : Int32).toUInt32 &&& Int32.toUInt32 31)).toInt32) &&& (858993459 : Int32))) + (((((x0 - (((x0.toUInt32 >>> ((1 : Int32).toUInt32 &&& Int32.toUInt32 31)).toInt32) &&& (1431655765 : Int32))) &&& (858993459 : Int32)) + ((((x0 - (((x0.toUInt32 >>> ((1 : Int32).toUInt32 &&& Int32.toUInt32 31)).toInt32) &&& (1431655765 : Int32))).toUInt32 >>> ((2 : Int32).toUInt32 &&& Int32.toUInt32 31)).toInt32) &&& (858993459 : Int32))).toUInt32 >>> ((4 : Int32).toUInt32 &&& Int32.toUInt32 31)).toInt32)) &&& (252645135 : Int32)) + (((((((x0 - (((x0.toUInt32 >>> ((1 : Int32).toUInt32 &&& Int32.toUInt32 31)).toInt32) &&& (1431655765 : Int32))) &&& (858993459 : Int32)) + ((((x0 - (((x0.toUInt32 >>> ((1 : Int32).toUInt32 &&& Int32.toUInt32 31)).toInt32) &&& (1431655765 : Int32))).toUInt32 >>> ((2 : Int32).toUInt32 &&& Int32.toUInt32 31)).toInt32) &&& (858993459 : Int32))) + (((((x0 - (((x0.toUInt32 >>> ((1 : Int32).toUInt32 &&& Int32.toUInt32 31)).toInt32) &&& (1431655765 : Int32))) &&& (858993459 : Int32)) + ((((x0 - (((x0.toUInt32 >>> ((1 : Int32).toUInt32 &&& Int32.toUInt32 31)).toInt32) &&& (1431655765 : Int32))).toUInt32 >>> ((2 : Int32).toUInt32 &&& Int32.toUInt32 31)).toInt32) &&& (858993459 : Int32))).toUInt32 >>> ((4 : Int32).toUInt32 &&& Int32.toUInt32 31)).toInt32)) &&& (252645135 : Int32)).toUInt32 >>> ((8 : Int32).toUInt32 &&& Int32.toUInt32 31)).toInt32)) + ((((((((x0 - (((x0.toUInt32 >>> ((1 : Int32).toUInt32 &&& Int32.toUInt32 31)).toInt32) &&& (1431655765 : Int32))) &&& (858993459 : Int32)) + ((((x0 - (((x0.toUInt32 >>> ((1 : Int32).toUInt32 &&& Int32.toUInt32 31)).toInt32) &&& (1431655765 : Int32))).toUInt32 >>> ((2 : Int32).toUInt32 &&& Int32.toUInt32 31)).toInt32) &&& (858993459 : Int32))) + (((((x0 - (((x0.toUInt32 >>> ((1 : Int32).toUInt32 &&& Int32.toUInt32 31)).toInt32) &&& (1431655765 : Int32))) &&& (858993459 : Int32)) + ((((x0 - (((x0.toUInt32 >>> ((1 : Int32).toUInt32 &&& Int32.toUInt32 31)).toInt32) &&& (1431655765 : Int32))).toUInt32 >>> ((2 : Int32).toUInt32 &&& Int32.toUInt32 31)).toInt32) &&& (858993459 : Int32))).toUInt32 >>> ((4 : Int32).toUInt32 &&& Int32.toUInt32 31)).toInt32)) &&& (252645135 : Int32)) + (((((((x0 - (((x0.toUInt32 >>> ((1 : Int32).toUInt32 &&& Int32.toUInt32 31)).toInt32) &&& (1431655765 : Int32))) &&& (858993459 : Int32)) + ((((x0 - (((x0.toUInt32 >>> ((1 : Int32).toUInt32 &&& Int32.toUInt32 31)).toInt32) &&& (1431655765 : Int32))).toUInt32 >>> ((2 : Int32).toUInt32 &&& Int32.toUInt32 31)).toInt32) &&& (858993459 : Int32))) + (((((x0 - (((x0.toUInt32 >>> ((1 : Int32).toUInt32 &&& Int32.toUInt32 31)).toInt32) &&& (1431655765 : Int32))) &&& (858993459 : Int32)) + ((((x0 - (((x0.toUInt32 >>> ((1 : Int32).toUInt32 &&& Int32.toUInt32 31)).toInt32) &&& (1431655765 : Int32))).toUInt32 >>> ((2 : Int32).toUInt32 &&& Int32.toUInt32 31)).toInt32) &&& (858993459 : Int32))).toUInt32 >>> ((4 : Int32).toUInt32 &&& Int32.toUInt32 31)).toInt32)) &&& (252645135 : Int32)).toUInt32 >>> ((8 : Int32).toUInt32 &&& Int32.toUInt32 31)).toInt32)).toUInt32 >>> ((16 : Int32).toUInt32 &&& Int32.toUInt32 31)).toInt32)) &&& (63 : Int32)) I L) : zCi l G d mJ6_bitCount_0f7a4 [.int x0] I L P := by
  refine zCn.of (ls := [some (.int x0)]) (by decide) (Nat.le_of_ble_eq_true rfl) rfl ?_
  refine z_iload_n (pc' := 1) (x := x0) dJ6_bitCount_0f7a4_0 rfl rfl ?_
  refine z_iload_n (pc' := 2) (x := x0) dJ6_bitCount_0f7a4_1 rfl rfl ?_
  refine z_iconst (pc' := 3) (v := 1) dJ6_bitCount_0f7a4_2 rfl (by decide) ?_
  refine z_iushr (pc' := 4) dJ6_bitCount_0f7a4_3 rfl ?_
  refine z_ldcw (pc' := 7) (v := 1431655765) dJ6_bitCount_0f7a4_4 rfl kc_J6_265 ?_
  refine z_iand (pc' := 8) dJ6_bitCount_0f7a4_7 rfl ?_
  refine z_isub (pc' := 9) dJ6_bitCount_0f7a4_8 rfl ?_
  refine z_istore_n (pc' := 10) (ls' := [some (.int (x0 - (((x0.toUInt32 >>> ((1 : Int32).toUInt32 &&& Int32.toUInt32 31)).toInt32) &&& (1431655765 : Int32))))]) dJ6_bitCount_0f7a4_9 rfl (by decide) rfl ?_
  refine z_iload_n (pc' := 11) (x := (x0 - (((x0.toUInt32 >>> ((1 : Int32).toUInt32 &&& Int32.toUInt32 31)).toInt32) &&& (1431655765 : Int32)))) dJ6_bitCount_0f7a4_10 rfl rfl ?_
  refine z_ldcw (pc' := 14) (v := 858993459) dJ6_bitCount_0f7a4_11 rfl kc_J6_266 ?_
  refine z_iand (pc' := 15) dJ6_bitCount_0f7a4_14 rfl ?_
  refine z_iload_n (pc' := 16) (x := (x0 - (((x0.toUInt32 >>> ((1 : Int32).toUInt32 &&& Int32.toUInt32 31)).toInt32) &&& (1431655765 : Int32)))) dJ6_bitCount_0f7a4_15 rfl rfl ?_
  refine z_iconst (pc' := 17) (v := 2) dJ6_bitCount_0f7a4_16 rfl (by decide) ?_
  refine z_iushr (pc' := 18) dJ6_bitCount_0f7a4_17 rfl ?_
  refine z_ldcw (pc' := 21) (v := 858993459) dJ6_bitCount_0f7a4_18 rfl kc_J6_266 ?_
  refine z_iand (pc' := 22) dJ6_bitCount_0f7a4_21 rfl ?_
  refine z_iadd (pc' := 23) dJ6_bitCount_0f7a4_22 rfl ?_
  refine z_istore_n (pc' := 24) (ls' := [some (.int (((x0 - (((x0.toUInt32 >>> ((1 : Int32).toUInt32 &&& Int32.toUInt32 31)).toInt32) &&& (1431655765 : Int32))) &&& (858993459 : Int32)) + ((((x0 - (((x0.toUInt32 >>> ((1 : Int32).toUInt32 &&& Int32.toUInt32 31)).toInt32) &&& (1431655765 : Int32))).toUInt32 >>> ((2 : Int32).toUInt32 &&& Int32.toUInt32 31)).toInt32) &&& (858993459 : Int32))))]) dJ6_bitCount_0f7a4_23 rfl (by decide) rfl ?_
  refine z_iload_n (pc' := 25) (x := (((x0 - (((x0.toUInt32 >>> ((1 : Int32).toUInt32 &&& Int32.toUInt32 31)).toInt32) &&& (1431655765 : Int32))) &&& (858993459 : Int32)) + ((((x0 - (((x0.toUInt32 >>> ((1 : Int32).toUInt32 &&& Int32.toUInt32 31)).toInt32) &&& (1431655765 : Int32))).toUInt32 >>> ((2 : Int32).toUInt32 &&& Int32.toUInt32 31)).toInt32) &&& (858993459 : Int32)))) dJ6_bitCount_0f7a4_24 rfl rfl ?_
  refine z_iload_n (pc' := 26) (x := (((x0 - (((x0.toUInt32 >>> ((1 : Int32).toUInt32 &&& Int32.toUInt32 31)).toInt32) &&& (1431655765 : Int32))) &&& (858993459 : Int32)) + ((((x0 - (((x0.toUInt32 >>> ((1 : Int32).toUInt32 &&& Int32.toUInt32 31)).toInt32) &&& (1431655765 : Int32))).toUInt32 >>> ((2 : Int32).toUInt32 &&& Int32.toUInt32 31)).toInt32) &&& (858993459 : Int32)))) dJ6_bitCount_0f7a4_25 rfl rfl ?_
  refine z_iconst (pc' := 27) (v := 4) dJ6_bitCount_0f7a4_26 rfl (by decide) ?_
  refine z_iushr (pc' := 28) dJ6_bitCount_0f7a4_27 rfl ?_
  refine z_iadd (pc' := 29) dJ6_bitCount_0f7a4_28 rfl ?_
  refine z_ldcw (pc' := 32) (v := 252645135) dJ6_bitCount_0f7a4_29 rfl kc_J6_267 ?_
  refine z_iand (pc' := 33) dJ6_bitCount_0f7a4_32 rfl ?_
  refine z_istore_n (pc' := 34) (ls' := [some (.int (((((x0 - (((x0.toUInt32 >>> ((1 : Int32).toUInt32 &&& Int32.toUInt32 31)).toInt32) &&& (1431655765 : Int32))) &&& (858993459 : Int32)) + ((((x0 - (((x0.toUInt32 >>> ((1 : Int32).toUInt32 &&& Int32.toUInt32 31)).toInt32) &&& (1431655765 : Int32))).toUInt32 >>> ((2 : Int32).toUInt32 &&& Int32.toUInt32 31)).toInt32) &&& (858993459 : Int32))) + (((((x0 - (((x0.toUInt32 >>> ((1 : Int32).toUInt32 &&& Int32.toUInt32 31)).toInt32) &&& (1431655765 : Int32))) &&& (858993459 : Int32)) + ((((x0 - (((x0.toUInt32 >>> ((1 : Int32).toUInt32 &&& Int32.toUInt32 31)).toInt32) &&& (1431655765 : Int32))).toUInt32 >>> ((2 : Int32).toUInt32 &&& Int32.toUInt32 31)).toInt32) &&& (858993459 : Int32))).toUInt32 >>> ((4 : Int32).toUInt32 &&& Int32.toUInt32 31)).toInt32)) &&& (252645135 : Int32)))]) dJ6_bitCount_0f7a4_33 rfl (by decide) rfl ?_
  refine z_iload_n (pc' := 35) (x := (((((x0 - (((x0.toUInt32 >>> ((1 : Int32).toUInt32 &&& Int32.toUInt32 31)).toInt32) &&& (1431655765 : Int32))) &&& (858993459 : Int32)) + ((((x0 - (((x0.toUInt32 >>> ((1 : Int32).toUInt32 &&& Int32.toUInt32 31)).toInt32) &&& (1431655765 : Int32))).toUInt32 >>> ((2 : Int32).toUInt32 &&& Int32.toUInt32 31)).toInt32) &&& (858993459 : Int32))) + (((((x0 - (((x0.toUInt32 >>> ((1 : Int32).toUInt32 &&& Int32.toUInt32 31)).toInt32) &&& (1431655765 : Int32))) &&& (858993459 : Int32)) + ((((x0 - (((x0.toUInt32 >>> ((1 : Int32).toUInt32 &&& Int32.toUInt32 31)).toInt32) &&& (1431655765 : Int32))).toUInt32 >>> ((2 : Int32).toUInt32 &&& Int32.toUInt32 31)).toInt32) &&& (858993459 : Int32))).toUInt32 >>> ((4 : Int32).toUInt32 &&& Int32.toUInt32 31)).toInt32)) &&& (252645135 : Int32))) dJ6_bitCount_0f7a4_34 rfl rfl ?_
  refine z_iload_n (pc' := 36) (x := (((((x0 - (((x0.toUInt32 >>> ((1 : Int32).toUInt32 &&& Int32.toUInt32 31)).toInt32) &&& (1431655765 : Int32))) &&& (858993459 : Int32)) + ((((x0 - (((x0.toUInt32 >>> ((1 : Int32).toUInt32 &&& Int32.toUInt32 31)).toInt32) &&& (1431655765 : Int32))).toUInt32 >>> ((2 : Int32).toUInt32 &&& Int32.toUInt32 31)).toInt32) &&& (858993459 : Int32))) + (((((x0 - (((x0.toUInt32 >>> ((1 : Int32).toUInt32 &&& Int32.toUInt32 31)).toInt32) &&& (1431655765 : Int32))) &&& (858993459 : Int32)) + ((((x0 - (((x0.toUInt32 >>> ((1 : Int32).toUInt32 &&& Int32.toUInt32 31)).toInt32) &&& (1431655765 : Int32))).toUInt32 >>> ((2 : Int32).toUInt32 &&& Int32.toUInt32 31)).toInt32) &&& (858993459 : Int32))).toUInt32 >>> ((4 : Int32).toUInt32 &&& Int32.toUInt32 31)).toInt32)) &&& (252645135 : Int32))) dJ6_bitCount_0f7a4_35 rfl rfl ?_
  refine z_bipush (pc' := 38) (v := 8) dJ6_bitCount_0f7a4_36 rfl (by decide) ?_
  refine z_iushr (pc' := 39) dJ6_bitCount_0f7a4_38 rfl ?_
  refine z_iadd (pc' := 40) dJ6_bitCount_0f7a4_39 rfl ?_
  refine z_istore_n (pc' := 41) (ls' := [some (.int ((((((x0 - (((x0.toUInt32 >>> ((1 : Int32).toUInt32 &&& Int32.toUInt32 31)).toInt32) &&& (1431655765 : Int32))) &&& (858993459 : Int32)) + ((((x0 - (((x0.toUInt32 >>> ((1 : Int32).toUInt32 &&& Int32.toUInt32 31)).toInt32) &&& (1431655765 : Int32))).toUInt32 >>> ((2 : Int32).toUInt32 &&& Int32.toUInt32 31)).toInt32) &&& (858993459 : Int32))) + (((((x0 - (((x0.toUInt32 >>> ((1 : Int32).toUInt32 &&& Int32.toUInt32 31)).toInt32) &&& (1431655765 : Int32))) &&& (858993459 : Int32)) + ((((x0 - (((x0.toUInt32 >>> ((1 : Int32).toUInt32 &&& Int32.toUInt32 31)).toInt32) &&& (1431655765 : Int32))).toUInt32 >>> ((2 : Int32).toUInt32 &&& Int32.toUInt32 31)).toInt32) &&& (858993459 : Int32))).toUInt32 >>> ((4 : Int32).toUInt32 &&& Int32.toUInt32 31)).toInt32)) &&& (252645135 : Int32)) + (((((((x0 - (((x0.toUInt32 >>> ((1 : Int32).toUInt32 &&& Int32.toUInt32 31)).toInt32) &&& (1431655765 : Int32))) &&& (858993459 : Int32)) + ((((x0 - (((x0.toUInt32 >>> ((1 : Int32).toUInt32 &&& Int32.toUInt32 31)).toInt32) &&& (1431655765 : Int32))).toUInt32 >>> ((2 : Int32).toUInt32 &&& Int32.toUInt32 31)).toInt32) &&& (858993459 : Int32))) + (((((x0 - (((x0.toUInt32 >>> ((1 : Int32).toUInt32 &&& Int32.toUInt32 31)).toInt32) &&& (1431655765 : Int32))) &&& (858993459 : Int32)) + ((((x0 - (((x0.toUInt32 >>> ((1 : Int32).toUInt32 &&& Int32.toUInt32 31)).toInt32) &&& (1431655765 : Int32))).toUInt32 >>> ((2 : Int32).toUInt32 &&& Int32.toUInt32 31)).toInt32) &&& (858993459 : Int32))).toUInt32 >>> ((4 : Int32).toUInt32 &&& Int32.toUInt32 31)).toInt32)) &&& (252645135 : Int32)).toUInt32 >>> ((8 : Int32).toUInt32 &&& Int32.toUInt32 31)).toInt32)))]) dJ6_bitCount_0f7a4_40 rfl (by decide) rfl ?_
  refine z_iload_n (pc' := 42) (x := ((((((x0 - (((x0.toUInt32 >>> ((1 : Int32).toUInt32 &&& Int32.toUInt32 31)).toInt32) &&& (1431655765 : Int32))) &&& (858993459 : Int32)) + ((((x0 - (((x0.toUInt32 >>> ((1 : Int32).toUInt32 &&& Int32.toUInt32 31)).toInt32) &&& (1431655765 : Int32))).toUInt32 >>> ((2 : Int32).toUInt32 &&& Int32.toUInt32 31)).toInt32) &&& (858993459 : Int32))) + (((((x0 - (((x0.toUInt32 >>> ((1 : Int32).toUInt32 &&& Int32.toUInt32 31)).toInt32) &&& (1431655765 : Int32))) &&& (858993459 : Int32)) + ((((x0 - (((x0.toUInt32 >>> ((1 : Int32).toUInt32 &&& Int32.toUInt32 31)).toInt32) &&& (1431655765 : Int32))).toUInt32 >>> ((2 : Int32).toUInt32 &&& Int32.toUInt32 31)).toInt32) &&& (858993459 : Int32))).toUInt32 >>> ((4 : Int32).toUInt32 &&& Int32.toUInt32 31)).toInt32)) &&& (252645135 : Int32)) + (((((((x0 - (((x0.toUInt32 >>> ((1 : Int32).toUInt32 &&& Int32.toUInt32 31)).toInt32) &&& (1431655765 : Int32))) &&& (858993459 : Int32)) + ((((x0 - (((x0.toUInt32 >>> ((1 : Int32).toUInt32 &&& Int32.toUInt32 31)).toInt32) &&& (1431655765 : Int32))).toUInt32 >>> ((2 : Int32).toUInt32 &&& Int32.toUInt32 31)).toInt32) &&& (858993459 : Int32))) + (((((x0 - (((x0.toUInt32 >>> ((1 : Int32).toUInt32 &&& Int32.toUInt32 31)).toInt32) &&& (1431655765 : Int32))) &&& (858993459 : Int32)) + ((((x0 - (((x0.toUInt32 >>> ((1 : Int32).toUInt32 &&& Int32.toUInt32 31)).toInt32) &&& (1431655765 : Int32))).toUInt32 >>> ((2 : Int32).toUInt32 &&& Int32.toUInt32 31)).toInt32) &&& (858993459 : Int32))).toUInt32 >>> ((4 : Int32).toUInt32 &&& Int32.toUInt32 31)).toInt32)) &&& (252645135 : Int32)).toUInt32 >>> ((8 : Int32).toUInt32 &&& Int32.toUInt32 31)).toInt32))) dJ6_bitCount_0f7a4_41 rfl rfl ?_
  refine z_iload_n (pc' := 43) (x := ((((((x0 - (((x0.toUInt32 >>> ((1 : Int32).toUInt32 &&& Int32.toUInt32 31)).toInt32) &&& (1431655765 : Int32))) &&& (858993459 : Int32)) + ((((x0 - (((x0.toUInt32 >>> ((1 : Int32).toUInt32 &&& Int32.toUInt32 31)).toInt32) &&& (1431655765 : Int32))).toUInt32 >>> ((2 : Int32).toUInt32 &&& Int32.toUInt32 31)).toInt32) &&& (858993459 : Int32))) + (((((x0 - (((x0.toUInt32 >>> ((1 : Int32).toUInt32 &&& Int32.toUInt32 31)).toInt32) &&& (1431655765 : Int32))) &&& (858993459 : Int32)) + ((((x0 - (((x0.toUInt32 >>> ((1 : Int32).toUInt32 &&& Int32.toUInt32 31)).toInt32) &&& (1431655765 : Int32))).toUInt32 >>> ((2 : Int32).toUInt32 &&& Int32.toUInt32 31)).toInt32) &&& (858993459 : Int32))).toUInt32 >>> ((4 : Int32).toUInt32 &&& Int32.toUInt32 31)).toInt32)) &&& (252645135 : Int32)) + (((((((x0 - (((x0.toUInt32 >>> ((1 : Int32).toUInt32 &&& Int32.toUInt32 31)).toInt32) &&& (1431655765 : Int32))) &&& (858993459 : Int32)) + ((((x0 - (((x0.toUInt32 >>> ((1 : Int32).toUInt32 &&& Int32.toUInt32 31)).toInt32) &&& (1431655765 : Int32))).toUInt32 >>> ((2 : Int32).toUInt32 &&& Int32.toUInt32 31)).toInt32) &&& (858993459 : Int32))) + (((((x0 - (((x0.toUInt32 >>> ((1 : Int32).toUInt32 &&& Int32.toUInt32 31)).toInt32) &&& (1431655765 : Int32))) &&& (858993459 : Int32)) + ((((x0 - (((x0.toUInt32 >>> ((1 : Int32).toUInt32 &&& Int32.toUInt32 31)).toInt32) &&& (1431655765 : Int32))).toUInt32 >>> ((2 : Int32).toUInt32 &&& Int32.toUInt32 31)).toInt32) &&& (858993459 : Int32))).toUInt32 >>> ((4 : Int32).toUInt32 &&& Int32.toUInt32 31)).toInt32)) &&& (252645135 : Int32)).toUInt32 >>> ((8 : Int32).toUInt32 &&& Int32.toUInt32 31)).toInt32))) dJ6_bitCount_0f7a4_42 rfl rfl ?_
  refine z_bipush (pc' := 45) (v := 16) dJ6_bitCount_0f7a4_43 rfl (by decide) ?_
  refine z_iushr (pc' := 46) dJ6_bitCount_0f7a4_45 rfl ?_
  refine z_iadd (pc' := 47) dJ6_bitCount_0f7a4_46 rfl ?_
  refine z_istore_n (pc' := 48) (ls' := [some (.int (((((((x0 - (((x0.toUInt32 >>> ((1 : Int32).toUInt32 &&& Int32.toUInt32 31)).toInt32) &&& (1431655765 : Int32))) &&& (858993459 : Int32)) + ((((x0 - (((x0.toUInt32 >>> ((1 : Int32).toUInt32 &&& Int32.toUInt32 31)).toInt32) &&& (1431655765 : Int32))).toUInt32 >>> ((2 : Int32).toUInt32 &&& Int32.toUInt32 31)).toInt32) &&& (858993459 : Int32))) + (((((x0 - (((x0.toUInt32 >>> ((1 : Int32).toUInt32 &&& Int32.toUInt32 31)).toInt32) &&& (1431655765 : Int32))) &&& (858993459 : Int32)) + ((((x0 - (((x0.toUInt32 >>> ((1 : Int32).toUInt32 &&& Int32.toUInt32 31)).toInt32) &&& (1431655765 : Int32))).toUInt32 >>> ((2 : Int32).toUInt32 &&& Int32.toUInt32 31)).toInt32) &&& (858993459 : Int32))).toUInt32 >>> ((4 : Int32).toUInt32 &&& Int32.toUInt32 31)).toInt32)) &&& (252645135 : Int32)) + (((((((x0 - (((x0.toUInt32 >>> ((1 : Int32).toUInt32 &&& Int32.toUInt32 31)).toInt32) &&& (1431655765 : Int32))) &&& (858993459 : Int32)) + ((((x0 - (((x0.toUInt32 >>> ((1 : Int32).toUInt32 &&& Int32.toUInt32 31)).toInt32) &&& (1431655765 : Int32))).toUInt32 >>> ((2 : Int32).toUInt32 &&& Int32.toUInt32 31)).toInt32) &&& (858993459 : Int32))) + (((((x0 - (((x0.toUInt32 >>> ((1 : Int32).toUInt32 &&& Int32.toUInt32 31)).toInt32) &&& (1431655765 : Int32))) &&& (858993459 : Int32)) + ((((x0 - (((x0.toUInt32 >>> ((1 : Int32).toUInt32 &&& Int32.toUInt32 31)).toInt32) &&& (1431655765 : Int32))).toUInt32 >>> ((2 : Int32).toUInt32 &&& Int32.toUInt32 31)).toInt32) &&& (858993459 : Int32))).toUInt32 >>> ((4 : Int32).toUInt32 &&& Int32.toUInt32 31)).toInt32)) &&& (252645135 : Int32)).toUInt32 >>> ((8 : Int32).toUInt32 &&& Int32.toUInt32 31)).toInt32)) + ((((((((x0 - (((x0.toUInt32 >>> ((1 : Int32).toUInt32 &&& Int32.toUInt32 31)).toInt32) &&& (1431655765 : Int32))) &&& (858993459 : Int32)) + ((((x0 - (((x0.toUInt32 >>> ((1 : Int32).toUInt32 &&& Int32.toUInt32 31)).toInt32) &&& (1431655765 : Int32))).toUInt32 >>> ((2 : Int32).toUInt32 &&& Int32.toUInt32 31)).toInt32) &&& (858993459 : Int32))) + (((((x0 - (((x0.toUInt32 >>> ((1 : Int32).toUInt32 &&& Int32.toUInt32 31)).toInt32) &&& (1431655765 : Int32))) &&& (858993459 : Int32)) + ((((x0 - (((x0.toUInt32 >>> ((1 : Int32).toUInt32 &&& Int32.toUInt32 31)).toInt32) &&& (1431655765 : Int32))).toUInt32 >>> ((2 : Int32).toUInt32 &&& Int32.toUInt32 31)).toInt32) &&& (858993459 : Int32))).toUInt32 >>> ((4 : Int32).toUInt32 &&& Int32.toUInt32 31)).toInt32)) &&& (252645135 : Int32)) + (((((((x0 - (((x0.toUInt32 >>> ((1 : Int32).toUInt32 &&& Int32.toUInt32 31)).toInt32) &&& (1431655765 : Int32))) &&& (858993459 : Int32)) + ((((x0 - (((x0.toUInt32 >>> ((1 : Int32).toUInt32 &&& Int32.toUInt32 31)).toInt32) &&& (1431655765 : Int32))).toUInt32 >>> ((2 : Int32).toUInt32 &&& Int32.toUInt32 31)).toInt32) &&& (858993459 : Int32))) + (((((x0 - (((x0.toUInt32 >>> ((1 : Int32).toUInt32 &&& Int32.toUInt32 31)).toInt32) &&& (1431655765 : Int32))) &&& (858993459 : Int32)) + ((((x0 - (((x0.toUInt32 >>> ((1 : Int32).toUInt32 &&& Int32.toUInt32 31)).toInt32) &&& (1431655765 : Int32))).toUInt32 >>> ((2 : Int32).toUInt32 &&& Int32.toUInt32 31)).toInt32) &&& (858993459 : Int32))).toUInt32 >>> ((4 : Int32).toUInt32 &&& Int32.toUInt32 31)).toInt32)) &&& (252645135 : Int32)).toUInt32 >>> ((8 : Int32).toUInt32 &&& Int32.toUInt32 31)).toInt32)).toUInt32 >>> ((16 : Int32).toUInt32 &&& Int32.toUInt32 31)).toInt32)))]) dJ6_bitCount_0f7a4_47 rfl (by decide) rfl ?_
  refine z_iload_n (pc' := 49) (x := (((((((x0 - (((x0.toUInt32 >>> ((1 : Int32).toUInt32 &&& Int32.toUInt32 31)).toInt32) &&& (1431655765 : Int32))) &&& (858993459 : Int32)) + ((((x0 - (((x0.toUInt32 >>> ((1 : Int32).toUInt32 &&& Int32.toUInt32 31)).toInt32) &&& (1431655765 : Int32))).toUInt32 >>> ((2 : Int32).toUInt32 &&& Int32.toUInt32 31)).toInt32) &&& (858993459 : Int32))) + (((((x0 - (((x0.toUInt32 >>> ((1 : Int32).toUInt32 &&& Int32.toUInt32 31)).toInt32) &&& (1431655765 : Int32))) &&& (858993459 : Int32)) + ((((x0 - (((x0.toUInt32 >>> ((1 : Int32).toUInt32 &&& Int32.toUInt32 31)).toInt32) &&& (1431655765 : Int32))).toUInt32 >>> ((2 : Int32).toUInt32 &&& Int32.toUInt32 31)).toInt32) &&& (858993459 : Int32))).toUInt32 >>> ((4 : Int32).toUInt32 &&& Int32.toUInt32 31)).toInt32)) &&& (252645135 : Int32)) + (((((((x0 - (((x0.toUInt32 >>> ((1 : Int32).toUInt32 &&& Int32.toUInt32 31)).toInt32) &&& (1431655765 : Int32))) &&& (858993459 : Int32)) + ((((x0 - (((x0.toUInt32 >>> ((1 : Int32).toUInt32 &&& Int32.toUInt32 31)).toInt32) &&& (1431655765 : Int32))).toUInt32 >>> ((2 : Int32).toUInt32 &&& Int32.toUInt32 31)).toInt32) &&& (858993459 : Int32))) + (((((x0 - (((x0.toUInt32 >>> ((1 : Int32).toUInt32 &&& Int32.toUInt32 31)).toInt32) &&& (1431655765 : Int32))) &&& (858993459 : Int32)) + ((((x0 - (((x0.toUInt32 >>> ((1 : Int32).toUInt32 &&& Int32.toUInt32 31)).toInt32) &&& (1431655765 : Int32))).toUInt32 >>> ((2 : Int32).toUInt32 &&& Int32.toUInt32 31)).toInt32) &&& (858993459 : Int32))).toUInt32 >>> ((4 : Int32).toUInt32 &&& Int32.toUInt32 31)).toInt32)) &&& (252645135 : Int32)).toUInt32 >>> ((8 : Int32).toUInt32 &&& Int32.toUInt32 31)).toInt32)) + ((((((((x0 - (((x0.toUInt32 >>> ((1 : Int32).toUInt32 &&& Int32.toUInt32 31)).toInt32) &&& (1431655765 : Int32))) &&& (858993459 : Int32)) + ((((x0 - (((x0.toUInt32 >>> ((1 : Int32).toUInt32 &&& Int32.toUInt32 31)).toInt32) &&& (1431655765 : Int32))).toUInt32 >>> ((2 : Int32).toUInt32 &&& Int32.toUInt32 31)).toInt32) &&& (858993459 : Int32))) + (((((x0 - (((x0.toUInt32 >>> ((1 : Int32).toUInt32 &&& Int32.toUInt32 31)).toInt32) &&& (1431655765 : Int32))) &&& (858993459 : Int32)) + ((((x0 - (((x0.toUInt32 >>> ((1 : Int32).toUInt32 &&& Int32.toUInt32 31)).toInt32) &&& (1431655765 : Int32))).toUInt32 >>> ((2 : Int32).toUInt32 &&& Int32.toUInt32 31)).toInt32) &&& (858993459 : Int32))).toUInt32 >>> ((4 : Int32).toUInt32 &&& Int32.toUInt32 31)).toInt32)) &&& (252645135 : Int32)) + (((((((x0 - (((x0.toUInt32 >>> ((1 : Int32).toUInt32 &&& Int32.toUInt32 31)).toInt32) &&& (1431655765 : Int32))) &&& (858993459 : Int32)) + ((((x0 - (((x0.toUInt32 >>> ((1 : Int32).toUInt32 &&& Int32.toUInt32 31)).toInt32) &&& (1431655765 : Int32))).toUInt32 >>> ((2 : Int32).toUInt32 &&& Int32.toUInt32 31)).toInt32) &&& (858993459 : Int32))) + (((((x0 - (((x0.toUInt32 >>> ((1 : Int32).toUInt32 &&& Int32.toUInt32 31)).toInt32) &&& (1431655765 : Int32))) &&& (858993459 : Int32)) + ((((x0 - (((x0.toUInt32 >>> ((1 : Int32).toUInt32 &&& Int32.toUInt32 31)).toInt32) &&& (1431655765 : Int32))).toUInt32 >>> ((2 : Int32).toUInt32 &&& Int32.toUInt32 31)).toInt32) &&& (858993459 : Int32))).toUInt32 >>> ((4 : Int32).toUInt32 &&& Int32.toUInt32 31)).toInt32)) &&& (252645135 : Int32)).toUInt32 >>> ((8 : Int32).toUInt32 &&& Int32.toUInt32 31)).toInt32)).toUInt32 >>> ((16 : Int32).toUInt32 &&& Int32.toUInt32 31)).toInt32))) dJ6_bitCount_0f7a4_48 rfl rfl ?_
  refine z_bipush (pc' := 51) (v := 63) dJ6_bitCount_0f7a4_49 rfl (by decide) ?_
  refine z_iand (pc' := 52) dJ6_bitCount_0f7a4_51 rfl ?_
  exact z_iret dJ6_bitCount_0f7a4_52 rfl rfl ⟨Nat.le_refl _, Nat.le_refl _⟩ ⟨_, _, _, rfl, rfl, h⟩
