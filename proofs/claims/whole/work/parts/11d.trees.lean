/-! ===== trees (written by wip/whole/gen/emit.py) ===== -/
abbrev K_X8_players_77 (l : Launch) (G : zG) (d : Nat) (P : Int32 → zIM → zLM → Prop) (I : zIM) (L : zLM) (q1 : Nat) (x2 : Int32) (x3 : Int32) (x5 : Int32) (x6 : Int32) : Prop := zWp (zXi l G d P) mX8_players (0, 0) 77 [some (.ref 0), none, some (.int x2), some (.int x3), some (.ref (31 + 2 * q1)), some (.int x5), some (.int x6), none, none, none, none] [] (zs I L)
abbrev K_X8_begin_24 (l : Launch) (G : zG) (d : Nat) (P : Int32 → zIM → zLM → Prop) (I : zIM) (L : zLM) (x1 : Int32) (x2 : Int32) (x3 : Int32) : Prop := zWp (zXi l G d P) mX8_begin (0, 0) 24 [some (.ref 0), some (.int x1), some (.int x2), some (.int x3)] [] (zs I L)
abbrev K_X8_fair_24 (l : Launch) (G : zG) (d : Nat) (P : Int32 → zIM → zLM → Prop) (I : zIM) (L : zLM) (x1 : Int32) (x2 : Int32) : Prop := zWp (zXi l G d P) mX8_fair (0, 0) 24 [some (.ref 0), some (.int x1), some (.int x2)] [] (zs I L)
abbrev K_X8_settle_42 (l : Launch) (G : zG) (d : Nat) (P : Int32 → zIM → zLM → Prop) (I : zIM) (L : zLM) (x1 : Int32) (x2 : Int32) (x3 : Int32) : Prop := zWp (zXi l G d P) mX8_settle (0, 0) 42 [some (.ref 0), some (.int x1), some (.int x2), some (.int x3), none] [] (zs I L)
abbrev K_X8_even_33 (l : Launch) (G : zG) (d : Nat) (P : Int32 → zIM → zLM → Prop) (I : zIM) (L : zLM) (x1 : Int32) (x2 : Int32) (x3 : Int32) (x4 : Int64) (x6 : Int32) : Prop := zWp (zXi l G d P) mX8_even (0, 0) 33 [some (.ref 0), some (.int x1), some (.int x2), some (.int x3), some (.long x4), none, some (.int x6), none, none] [] (zs I L)
abbrev K_X8_points_24 (l : Launch) (G : zG) (d : Nat) (P : Int32 → zIM → zLM → Prop) (I : zIM) (L : zLM) (x1 : Int32) (x2 : Int32) (x3 : Int32) : Prop := zWp (zXi l G d P) mX8_points (0, 0) 24 [some (.ref 0), some (.int x1), some (.int x2), some (.int x3), none] [] (zs I L)
abbrev K_X8_seen_29 (l : Launch) (G : zG) (d : Nat) (P : Int32 → zIM → zLM → Prop) (I : zIM) (L : zLM) (x1 : Int32) (x2 : Int32) (x3 : Int32) (x4 : Int64) (x6 : Int32) : Prop := zWp (zXi l G d P) mX8_seen (0, 0) 29 [none, some (.int x1), some (.int x2), some (.int x3), some (.long x4), none, some (.int x6), none, none] [] (zs I L)
abbrev K_X8_drawn_40 (l : Launch) (G : zG) (d : Nat) (P : Int32 → zIM → zLM → Prop) (I : zIM) (L : zLM) (x2 : Int32) (x3 : Int32) (x4 : Int32) (x5 : Int32) (x6 : Int32) : Prop := zWp (zXi l G d P) mX8_drawn (0, 0) 40 [some (.ref 0), none, some (.int x2), some (.int x3), some (.int x4), some (.int x5), some (.int x6), none, none, none, none] [] (zs I L)
abbrev K_X8_drawn_69 (l : Launch) (G : zG) (d : Nat) (P : Int32 → zIM → zLM → Prop) (I : zIM) (L : zLM) (x2 : Int32) (x3 : Int32) (x4 : Int32) (x5 : Int32) (x6 : Int32) (x7 : Int32) (x8 : Int32) (x9 : Int32) : Prop := zWp (zXi l G d P) mX8_drawn (0, 0) 69 [some (.ref 0), none, some (.int x2), some (.int x3), some (.int x4), some (.int x5), some (.int x6), some (.int x7), some (.int x8), some (.int x9), none] [] (zs I L)
abbrev K_X8_shift_16 (l : Launch) (G : zG) (d : Nat) (P : Int32 → zIM → zLM → Prop) (I : zIM) (L : zLM)  : Prop := zWp (zXi l G d P) mX8_shift (0, 0) 16 [none, none, none, none, none, none, none, none] [] (zs I L)
abbrev K_X8_shift_54 (l : Launch) (G : zG) (d : Nat) (P : Int32 → zIM → zLM → Prop) (I : zIM) (L : zLM)  : Prop := zWp (zXi l G d P) mX8_shift (0, 0) 54 [none, none, none, none, none, none, none, none] [] (zs I L)
abbrev K_X8_shift_79 (l : Launch) (G : zG) (d : Nat) (P : Int32 → zIM → zLM → Prop) (I : zIM) (L : zLM)  : Prop := zWp (zXi l G d P) mX8_shift (0, 0) 79 [none, none, none, none, none, none, none, none] [] (zs I L)
abbrev K_X8_shift_121 (l : Launch) (G : zG) (d : Nat) (P : Int32 → zIM → zLM → Prop) (I : zIM) (L : zLM)  : Prop := zWp (zXi l G d P) mX8_shift (0, 0) 121 [none, none, none, none, none, none, none, none] [] (zs I L)
abbrev K_X8_power_5 (l : Launch) (G : zG) (d : Nat) (P : Int64 → zIM → zLM → Prop) (I : zIM) (L : zLM) (x0 : Int32) (x1 : Int32) (x2 : Int64) (x4 : Int32) : Prop := zWp (zXl2 l G d P) mX8_power (0, 0) 5 [some (.int x0), some (.int x1), some (.long x2), none, some (.int x4)] [] (zs I L)
abbrev K_X8_lowest_9 (l : Launch) (G : zG) (d : Nat) (P : Int64 → zIM → zLM → Prop) (I : zIM) (L : zLM) (x0 : Int64) (x2 : Int64) (x4 : Int32) (x5 : Int64) (x7 : Int64) (x9 : Int32) : Prop := zWp (zXl2 l G d P) mX8_lowest (0, 0) 9 [some (.long x0), none, some (.long x2), none, some (.int x4), some (.long x5), none, some (.long x7), none, some (.int x9), none, none] [] (zs I L)
abbrev K_X8_spanIfBegins_13 (l : Launch) (G : zG) (d : Nat) (P : Int64 → zIM → zLM → Prop) (I : zIM) (L : zLM) (x1 : Int32) (x2 : Int64) (x4 : Int64) (x6 : Int32) : Prop := zWp (zXl2 l G d P) mX8_spanIfBegins (0, 0) 13 [some (.ref 0), some (.int x1), some (.long x2), none, some (.long x4), none, some (.int x6), none, none] [] (zs I L)
abbrev K_X8_distanceFromMean_5 (l : Launch) (G : zG) (d : Nat) (P : Int64 → zIM → zLM → Prop) (I : zIM) (L : zLM) (x1 : Int32) (x2 : Int64) (x4 : Int32) : Prop := zWp (zXl2 l G d P) mX8_distanceFromMean (0, 0) 5 [some (.ref 0), some (.int x1), some (.long x2), none, some (.int x4)] [] (zs I L)
abbrev K_X8_wantedWay_29 (l : Launch) (G : zG) (d : Nat) (P : Int32 → zIM → zLM → Prop) (I : zIM) (L : zLM) (x1 : Int32) (x2 : Int32) (x3 : Int64) (x5 : Int32) (x6 : Int32) : Prop := zWp (zXi l G d P) mX8_wantedWay (0, 0) 29 [some (.ref 0), some (.int x1), some (.int x2), some (.long x3), none, some (.int x5), some (.int x6), none, none] [] (zs I L)
abbrev K_X8_firstMove_2 (l : Launch) (G : zG) (d : Nat) (P : Int32 → zIM → zLM → Prop) (I : zIM) (L : zLM) (x1 : Int32) : Prop := zWp (zXi l G d P) mX8_firstMove (0, 0) 2 [some (.ref 0), some (.int x1), none] [] (zs I L)
set_option maxHeartbeats 4000000 in
set_option maxRecDepth 100000 in
theorem t_X8_player {l : Launch} {G : zG} {d : Nat} {P : Int32 → zIM → zLM → Prop} {I : zIM} {L : zLM} {x1 : Int32} {x2 : Int32}  (h : ∃ (d1 : Nat) (P1 : Int32 → zIM → zLM → Prop), d1 + 1 ≤ d ∧ zCi l G d1 mX8_isWithin [.int x1, .int (12 : Int32)] I L P1 ∧ ∀ (y1 : Int32) (I1 : zIM) (L1 : zLM), P1 y1 I1 L1 → (((y1 = 0 → (P (-1 : Int32) I1 L1)) ∧ (¬ y1 = 0 → (∃ (d3 : Nat) (P3 : Int32 → zIM → zLM → Prop), d3 + 1 ≤ d ∧ zCi l G d3 mX8_isWithin [.int x2, .int (5 : Int32)] I1 L1 P3 ∧ ∀ (y3 : Int32) (I3 : zIM) (L3 : zLM), P3 y3 I3 L3 → (((¬ y3 = 0 → ((((I3 1 6) < (4 : Int32) → (∃ (d6 : Nat) (P6 : Int32 → zIM → zLM → Prop), d6 + 1 ≤ d ∧ zCi l G d6 mX8_come [.ref 0, .int x1, .int x2] I3 L3 P6 ∧ ∀ (y6 : Int32) (I6 : zIM) (L6 : zLM), P6 y6 I6 L6 → (P y6 I6 L6))) ∧ (¬ (I3 1 6) < (4 : Int32) → (P (-3 : Int32) I3 L3))))) ∧ (y3 = 0 → (P (-1 : Int32) I3 L3))))))))) : zCi l G d mX8_player [.ref 0, .int x1, .int x2] I L P := by
  refine zCn.of (ls := [some (.ref 0), some (.int x1), some (.int x2)]) (by decide) (Nat.le_of_ble_eq_true rfl) rfl ?_
  refine z_iload_n (pc' := 1) (x := x1) dX8_player_0 rfl rfl ?_
  refine z_bipush (pc' := 3) (v := 12) dX8_player_1 rfl (by decide) ?_
  obtain ⟨d1, P1, hd1, hC1, h⟩ := h
  refine z_callS (pc' := 6) (M' := mX8_isWithin) (As := [.int x1, .int (12 : Int32)]) dX8_player_3 rfl ml_X8_75 me_X8_isWithin hC1 rfl hd1 (Nat.le_of_ble_eq_true rfl) ⟨Nat.le_refl _, Nat.le_refl _⟩ rfl ?_
  rintro _ _ ⟨y1, I1, L1, rfl, rfl, hP1⟩
  replace h := h y1 I1 L1 hP1
  refine z_if_eq (pc' := 9) (tgt := 17) dX8_player_6 rfl (by decide) (fun c2 => ?_) (fun c2 => ?_)
  · replace h := h.1 c2
    refine z_iconst (pc' := 18) (v := -1) dX8_player_17 rfl (by decide) ?_
    exact z_iret dX8_player_18 rfl rfl ⟨Nat.le_refl _, Nat.le_refl _⟩ ⟨_, _, _, rfl, rfl, h⟩
  · replace h := h.2 c2
    refine z_iload_n (pc' := 10) (x := x2) dX8_player_9 rfl rfl ?_
    refine z_iconst (pc' := 11) (v := 5) dX8_player_10 rfl (by decide) ?_
    obtain ⟨d3, P3, hd3, hC3, h⟩ := h
    refine z_callS (pc' := 14) (M' := mX8_isWithin) (As := [.int x2, .int (5 : Int32)]) dX8_player_11 rfl ml_X8_75 me_X8_isWithin hC3 rfl hd3 (Nat.le_of_ble_eq_true rfl) ⟨Nat.le_refl _, Nat.le_refl _⟩ rfl ?_
    rintro _ _ ⟨y3, I3, L3, rfl, rfl, hP3⟩
    replace h := h y3 I3 L3 hP3
    refine z_if_ne (pc' := 17) (tgt := 19) dX8_player_14 rfl (by decide) (fun c4 => ?_) (fun c4 => ?_)
    · replace h := h.1 c4
      refine z_aload_n (pc' := 20) (x := 0) dX8_player_19 rfl rfl ?_
      refine z_getr (pc' := 23) (x := 1) dX8_player_20 rfl fl_X8_10 rfl rfl rfl ?_
      refine z_geti (pc' := 26) (x := (I3 1 6)) dX8_player_23 rfl fl_X8_79 rfl rfl rfl ?_
      refine z_iconst (pc' := 27) (v := 4) dX8_player_26 rfl (by decide) ?_
      refine z_icmp_lt (pc' := 30) (tgt := 35) dX8_player_27 rfl (by decide) (fun c5 => ?_) (fun c5 => ?_)
      · replace h := h.1 c5
        refine z_aload_n (pc' := 36) (x := 0) dX8_player_35 rfl rfl ?_
        refine z_iload_n (pc' := 37) (x := x1) dX8_player_36 rfl rfl ?_
        refine z_iload_n (pc' := 38) (x := x2) dX8_player_37 rfl rfl ?_
        obtain ⟨d6, P6, hd6, hC6, h⟩ := h
        refine z_callV (pc' := 41) (M' := mX8_come) (As := [.int x1, .int x2]) dX8_player_38 rfl ml_X8_83 me_X8_come hC6 rfl (by decide) rfl rfl hd6 (Nat.le_of_ble_eq_true rfl) ⟨Nat.le_refl _, Nat.le_refl _⟩ rfl ?_
        rintro _ _ ⟨y6, I6, L6, rfl, rfl, hP6⟩
        replace h := h y6 I6 L6 hP6
        exact z_iret dX8_player_41 rfl rfl ⟨Nat.le_refl _, Nat.le_refl _⟩ ⟨_, _, _, rfl, rfl, h⟩
      · replace h := h.2 c5
        refine z_bipush (pc' := 32) (v := -3) dX8_player_30 rfl (by decide) ?_
        refine z_goto (pc' := 41) dX8_player_32 (by decide) ?_
        exact z_iret dX8_player_41 rfl rfl ⟨Nat.le_refl _, Nat.le_refl _⟩ ⟨_, _, _, rfl, rfl, h⟩
    · replace h := h.2 c4
      refine z_iconst (pc' := 18) (v := -1) dX8_player_17 rfl (by decide) ?_
      exact z_iret dX8_player_18 rfl rfl ⟨Nat.le_refl _, Nat.le_refl _⟩ ⟨_, _, _, rfl, rfl, h⟩
set_option maxHeartbeats 4000000 in
set_option maxRecDepth 100000 in
theorem t_X8_players {l : Launch} {G : zG} {d : Nat} {P : Int32 → zIM → zLM → Prop} {I : zIM} {L : zLM} {x1 : Int32} {x2 : Int32} {x3 : Int32}  (h : ∃ (d1 : Nat) (P1 : Int32 → zIM → zLM → Prop), d1 + 1 ≤ d ∧ zCi l G d1 mX8_isWithin [.int x1, .int (5 : Int32)] I L P1 ∧ ∀ (y1 : Int32) (I1 : zIM) (L1 : zLM), P1 y1 I1 L1 → (((y1 = 0 → (P (-1 : Int32) I1 L1)) ∧ (¬ y1 = 0 → (((x3 < (1 : Int32) → (P (-1 : Int32) I1 L1)) ∧ (¬ x3 < (1 : Int32) → (((x3 ≤ (4 : Int32) → (∃ j5 : Nat, x1 = nI j5 ∧ j5 < 6 ∧ ((((I1 (31 + 2 * j5) 0) = (-2 : Int32) → (((¬ (I1 (31 + 2 * j5) 0) = 0 → (K_X8_players_77 l G d P I1 L1 j5 x2 x3 (0 : Int32) (0 : Int32))) ∧ ((I1 (31 + 2 * j5) 0) = 0 → (((x2 < 0 → (K_X8_players_77 l G d P I1 L1 j5 x2 x3 (0 : Int32) (0 : Int32))) ∧ (¬ x2 < 0 → (K_X8_players_77 l G d P I1 L1 j5 x2 x3 ((I1 (31 + 2 * j5) 2) - x2) (0 : Int32))))))))) ∧ (¬ (I1 (31 + 2 * j5) 0) = (-2 : Int32) → ((((I1 (31 + 2 * j5) 0) = 0 → (((¬ (I1 (31 + 2 * j5) 0) = 0 → (K_X8_players_77 l G d P I1 L1 j5 x2 x3 (0 : Int32) (0 : Int32))) ∧ ((I1 (31 + 2 * j5) 0) = 0 → (((x2 < 0 → (K_X8_players_77 l G d P I1 L1 j5 x2 x3 (0 : Int32) (0 : Int32))) ∧ (¬ x2 < 0 → (K_X8_players_77 l G d P I1 L1 j5 x2 x3 ((I1 (31 + 2 * j5) 2) - x2) (0 : Int32))))))))) ∧ (¬ (I1 (31 + 2 * j5) 0) = 0 → (P (-12 : Int32) I1 L1))))))))) ∧ (¬ x3 ≤ (4 : Int32) → (P (-1 : Int32) I1 L1))))))))))) : zCi l G d mX8_players [.ref 0, .int x1, .int x2, .int x3] I L P := by
  refine zCn.of (ls := [some (.ref 0), some (.int x1), some (.int x2), some (.int x3), none, none, none, none, none, none, none]) (by decide) (Nat.le_of_ble_eq_true rfl) rfl ?_
  refine z_iload_n (pc' := 1) (x := x1) dX8_players_0 rfl rfl ?_
  refine z_iconst (pc' := 2) (v := 5) dX8_players_1 rfl (by decide) ?_
  obtain ⟨d1, P1, hd1, hC1, h⟩ := h
  refine z_callS (pc' := 5) (M' := mX8_isWithin) (As := [.int x1, .int (5 : Int32)]) dX8_players_2 rfl ml_X8_75 me_X8_isWithin hC1 rfl hd1 (Nat.le_of_ble_eq_true rfl) ⟨Nat.le_refl _, Nat.le_refl _⟩ rfl ?_
  rintro _ _ ⟨y1, I1, L1, rfl, rfl, hP1⟩
  replace h := h y1 I1 L1 hP1
  refine z_if_eq (pc' := 8) (tgt := 18) dX8_players_5 rfl (by decide) (fun c2 => ?_) (fun c2 => ?_)
  · replace h := h.1 c2
    refine z_iconst (pc' := 19) (v := -1) dX8_players_18 rfl (by decide) ?_
    exact z_iret dX8_players_19 rfl rfl ⟨Nat.le_refl _, Nat.le_refl _⟩ ⟨_, _, _, rfl, rfl, h⟩
  · replace h := h.2 c2
    refine z_iload_n (pc' := 9) (x := x3) dX8_players_8 rfl rfl ?_
    refine z_iconst (pc' := 10) (v := 1) dX8_players_9 rfl (by decide) ?_
    refine z_icmp_lt (pc' := 13) (tgt := 18) dX8_players_10 rfl (by decide) (fun c3 => ?_) (fun c3 => ?_)
    · replace h := h.1 c3
      refine z_iconst (pc' := 19) (v := -1) dX8_players_18 rfl (by decide) ?_
      exact z_iret dX8_players_19 rfl rfl ⟨Nat.le_refl _, Nat.le_refl _⟩ ⟨_, _, _, rfl, rfl, h⟩
    · replace h := h.2 c3
      refine z_iload_n (pc' := 14) (x := x3) dX8_players_13 rfl rfl ?_
      refine z_iconst (pc' := 15) (v := 4) dX8_players_14 rfl (by decide) ?_
      refine z_icmp_le (pc' := 18) (tgt := 20) dX8_players_15 rfl (by decide) (fun c4 => ?_) (fun c4 => ?_)
      · replace h := h.1 c4
        refine z_aload_n (pc' := 21) (x := 0) dX8_players_20 rfl rfl ?_
        refine z_getr (pc' := 24) (x := 30) dX8_players_21 rfl fl_X8_66 rfl rfl rfl ?_
        refine z_iload_n (pc' := 25) (x := x1) dX8_players_24 rfl rfl ?_
        obtain ⟨j5, ha5, hb5, h⟩ := h
        refine z_aald (pc' := 26) (x := (31 + 2 * j5)) (j := j5) dX8_players_25 rfl rfl (by decide) ha5 hb5 (zR_sh hb5) ?_
        refine z_astore (pc' := 28) (ls' := [some (.ref 0), some (.int x1), some (.int x2), some (.int x3), some (.ref (31 + 2 * j5)), none, none, none, none, none, none]) dX8_players_26 rfl (by decide) rfl ?_
        refine z_aload (pc' := 30) (x := (31 + 2 * j5)) dX8_players_28 rfl rfl ?_
        refine z_geti (pc' := 33) (x := (I1 (31 + 2 * j5) 0)) dX8_players_30 rfl fl_X8_87 (zS_sh hb5) rfl rfl ?_
        refine z_bipush (pc' := 35) (v := -2) dX8_players_33 rfl (by decide) ?_
        refine z_icmp_eq (pc' := 38) (tgt := 49) dX8_players_35 rfl (by decide) (fun c6 => ?_) (fun c6 => ?_)
        · replace h := h.1 c6
          refine z_aload (pc' := 51) (x := (31 + 2 * j5)) dX8_players_49 rfl rfl ?_
          refine z_geti (pc' := 54) (x := (I1 (31 + 2 * j5) 0)) dX8_players_51 rfl fl_X8_87 (zS_sh hb5) rfl rfl ?_
          refine z_if_ne (pc' := 57) (tgt := 71) dX8_players_54 rfl (by decide) (fun c7 => ?_) (fun c7 => ?_)
          · replace h := h.1 c7
            refine z_iconst (pc' := 72) (v := 0) dX8_players_71 rfl (by decide) ?_
            refine z_istore (pc' := 74) (ls' := [some (.ref 0), some (.int x1), some (.int x2), some (.int x3), some (.ref (31 + 2 * j5)), some (.int (0 : Int32)), none, none, none, none, none]) dX8_players_72 rfl (by decide) rfl ?_
            refine z_iconst (pc' := 75) (v := 0) dX8_players_74 rfl (by decide) ?_
            refine z_istore (pc' := 77) (ls' := [some (.ref 0), some (.int x1), some (.int x2), some (.int x3), some (.ref (31 + 2 * j5)), some (.int (0 : Int32)), some (.int (0 : Int32)), none, none, none, none]) dX8_players_75 rfl (by decide) rfl ?_
            refine z_sub (pc' := 0) [some (.ref 0), none, some (.int x2), some (.int x3), some (.ref (31 + 2 * j5)), some (.int (0 : Int32)), some (.int (0 : Int32)), none, none, none, none] (zsub_s (zsub_n (zsub_s (zsub_s (zsub_s (zsub_s (zsub_s (zsub_n (zsub_n (zsub_n (zsub_n zsub_nil))))))))))) ?_
            exact h
          · replace h := h.2 c7
            refine z_iload_n (pc' := 58) (x := x2) dX8_players_57 rfl rfl ?_
            refine z_if_lt (pc' := 61) (tgt := 71) dX8_players_58 rfl (by decide) (fun c8 => ?_) (fun c8 => ?_)
            · replace h := h.1 c8
              refine z_iconst (pc' := 72) (v := 0) dX8_players_71 rfl (by decide) ?_
              refine z_istore (pc' := 74) (ls' := [some (.ref 0), some (.int x1), some (.int x2), some (.int x3), some (.ref (31 + 2 * j5)), some (.int (0 : Int32)), none, none, none, none, none]) dX8_players_72 rfl (by decide) rfl ?_
              refine z_iconst (pc' := 75) (v := 0) dX8_players_74 rfl (by decide) ?_
              refine z_istore (pc' := 77) (ls' := [some (.ref 0), some (.int x1), some (.int x2), some (.int x3), some (.ref (31 + 2 * j5)), some (.int (0 : Int32)), some (.int (0 : Int32)), none, none, none, none]) dX8_players_75 rfl (by decide) rfl ?_
              refine z_sub (pc' := 0) [some (.ref 0), none, some (.int x2), some (.int x3), some (.ref (31 + 2 * j5)), some (.int (0 : Int32)), some (.int (0 : Int32)), none, none, none, none] (zsub_s (zsub_n (zsub_s (zsub_s (zsub_s (zsub_s (zsub_s (zsub_n (zsub_n (zsub_n (zsub_n zsub_nil))))))))))) ?_
              exact h
            · replace h := h.2 c8
              refine z_aload (pc' := 63) (x := (31 + 2 * j5)) dX8_players_61 rfl rfl ?_
              refine z_geti (pc' := 66) (x := (I1 (31 + 2 * j5) 2)) dX8_players_63 rfl fl_X8_90 (zS_sh hb5) rfl rfl ?_
              refine z_iload_n (pc' := 67) (x := x2) dX8_players_66 rfl rfl ?_
              refine z_isub (pc' := 68) dX8_players_67 rfl ?_
              refine z_goto (pc' := 72) dX8_players_68 (by decide) ?_
              refine z_istore (pc' := 74) (ls' := [some (.ref 0), some (.int x1), some (.int x2), some (.int x3), some (.ref (31 + 2 * j5)), some (.int ((I1 (31 + 2 * j5) 2) - x2)), none, none, none, none, none]) dX8_players_72 rfl (by decide) rfl ?_
              refine z_iconst (pc' := 75) (v := 0) dX8_players_74 rfl (by decide) ?_
              refine z_istore (pc' := 77) (ls' := [some (.ref 0), some (.int x1), some (.int x2), some (.int x3), some (.ref (31 + 2 * j5)), some (.int ((I1 (31 + 2 * j5) 2) - x2)), some (.int (0 : Int32)), none, none, none, none]) dX8_players_75 rfl (by decide) rfl ?_
              refine z_sub (pc' := 0) [some (.ref 0), none, some (.int x2), some (.int x3), some (.ref (31 + 2 * j5)), some (.int ((I1 (31 + 2 * j5) 2) - x2)), some (.int (0 : Int32)), none, none, none, none] (zsub_s (zsub_n (zsub_s (zsub_s (zsub_s (zsub_s (zsub_s (zsub_n (zsub_n (zsub_n (zsub_n zsub_nil))))))))))) ?_
              exact h
        · replace h := h.2 c6
          refine z_aload (pc' := 40) (x := (31 + 2 * j5)) dX8_players_38 rfl rfl ?_
          refine z_geti (pc' := 43) (x := (I1 (31 + 2 * j5) 0)) dX8_players_40 rfl fl_X8_87 (zS_sh hb5) rfl rfl ?_
          refine z_if_eq (pc' := 46) (tgt := 49) dX8_players_43 rfl (by decide) (fun c9 => ?_) (fun c9 => ?_)
          · replace h := h.1 c9
            refine z_aload (pc' := 51) (x := (31 + 2 * j5)) dX8_players_49 rfl rfl ?_
            refine z_geti (pc' := 54) (x := (I1 (31 + 2 * j5) 0)) dX8_players_51 rfl fl_X8_87 (zS_sh hb5) rfl rfl ?_
            refine z_if_ne (pc' := 57) (tgt := 71) dX8_players_54 rfl (by decide) (fun c10 => ?_) (fun c10 => ?_)
            · replace h := h.1 c10
              refine z_iconst (pc' := 72) (v := 0) dX8_players_71 rfl (by decide) ?_
              refine z_istore (pc' := 74) (ls' := [some (.ref 0), some (.int x1), some (.int x2), some (.int x3), some (.ref (31 + 2 * j5)), some (.int (0 : Int32)), none, none, none, none, none]) dX8_players_72 rfl (by decide) rfl ?_
              refine z_iconst (pc' := 75) (v := 0) dX8_players_74 rfl (by decide) ?_
              refine z_istore (pc' := 77) (ls' := [some (.ref 0), some (.int x1), some (.int x2), some (.int x3), some (.ref (31 + 2 * j5)), some (.int (0 : Int32)), some (.int (0 : Int32)), none, none, none, none]) dX8_players_75 rfl (by decide) rfl ?_
              refine z_sub (pc' := 0) [some (.ref 0), none, some (.int x2), some (.int x3), some (.ref (31 + 2 * j5)), some (.int (0 : Int32)), some (.int (0 : Int32)), none, none, none, none] (zsub_s (zsub_n (zsub_s (zsub_s (zsub_s (zsub_s (zsub_s (zsub_n (zsub_n (zsub_n (zsub_n zsub_nil))))))))))) ?_
              exact h
            · replace h := h.2 c10
              refine z_iload_n (pc' := 58) (x := x2) dX8_players_57 rfl rfl ?_
              refine z_if_lt (pc' := 61) (tgt := 71) dX8_players_58 rfl (by decide) (fun c11 => ?_) (fun c11 => ?_)
              · replace h := h.1 c11
                refine z_iconst (pc' := 72) (v := 0) dX8_players_71 rfl (by decide) ?_
                refine z_istore (pc' := 74) (ls' := [some (.ref 0), some (.int x1), some (.int x2), some (.int x3), some (.ref (31 + 2 * j5)), some (.int (0 : Int32)), none, none, none, none, none]) dX8_players_72 rfl (by decide) rfl ?_
                refine z_iconst (pc' := 75) (v := 0) dX8_players_74 rfl (by decide) ?_
                refine z_istore (pc' := 77) (ls' := [some (.ref 0), some (.int x1), some (.int x2), some (.int x3), some (.ref (31 + 2 * j5)), some (.int (0 : Int32)), some (.int (0 : Int32)), none, none, none, none]) dX8_players_75 rfl (by decide) rfl ?_
                refine z_sub (pc' := 0) [some (.ref 0), none, some (.int x2), some (.int x3), some (.ref (31 + 2 * j5)), some (.int (0 : Int32)), some (.int (0 : Int32)), none, none, none, none] (zsub_s (zsub_n (zsub_s (zsub_s (zsub_s (zsub_s (zsub_s (zsub_n (zsub_n (zsub_n (zsub_n zsub_nil))))))))))) ?_
                exact h
              · replace h := h.2 c11
                refine z_aload (pc' := 63) (x := (31 + 2 * j5)) dX8_players_61 rfl rfl ?_
                refine z_geti (pc' := 66) (x := (I1 (31 + 2 * j5) 2)) dX8_players_63 rfl fl_X8_90 (zS_sh hb5) rfl rfl ?_
                refine z_iload_n (pc' := 67) (x := x2) dX8_players_66 rfl rfl ?_
                refine z_isub (pc' := 68) dX8_players_67 rfl ?_
                refine z_goto (pc' := 72) dX8_players_68 (by decide) ?_
                refine z_istore (pc' := 74) (ls' := [some (.ref 0), some (.int x1), some (.int x2), some (.int x3), some (.ref (31 + 2 * j5)), some (.int ((I1 (31 + 2 * j5) 2) - x2)), none, none, none, none, none]) dX8_players_72 rfl (by decide) rfl ?_
                refine z_iconst (pc' := 75) (v := 0) dX8_players_74 rfl (by decide) ?_
                refine z_istore (pc' := 77) (ls' := [some (.ref 0), some (.int x1), some (.int x2), some (.int x3), some (.ref (31 + 2 * j5)), some (.int ((I1 (31 + 2 * j5) 2) - x2)), some (.int (0 : Int32)), none, none, none, none]) dX8_players_75 rfl (by decide) rfl ?_
                refine z_sub (pc' := 0) [some (.ref 0), none, some (.int x2), some (.int x3), some (.ref (31 + 2 * j5)), some (.int ((I1 (31 + 2 * j5) 2) - x2)), some (.int (0 : Int32)), none, none, none, none] (zsub_s (zsub_n (zsub_s (zsub_s (zsub_s (zsub_s (zsub_s (zsub_n (zsub_n (zsub_n (zsub_n zsub_nil))))))))))) ?_
                exact h
          · replace h := h.2 c9
            refine z_bipush (pc' := 48) (v := -12) dX8_players_46 rfl (by decide) ?_
            exact z_iret dX8_players_48 rfl rfl ⟨Nat.le_refl _, Nat.le_refl _⟩ ⟨_, _, _, rfl, rfl, h⟩
      · replace h := h.2 c4
        refine z_iconst (pc' := 19) (v := -1) dX8_players_18 rfl (by decide) ?_
        exact z_iret dX8_players_19 rfl rfl ⟨Nat.le_refl _, Nat.le_refl _⟩ ⟨_, _, _, rfl, rfl, h⟩
set_option maxHeartbeats 4000000 in
set_option maxRecDepth 100000 in
theorem t_X8_players_77 {l : Launch} {G : zG} {d : Nat} {P : Int32 → zIM → zLM → Prop} {I : zIM} {L : zLM} {q1 : Nat} {x2 : Int32} {x3 : Int32} {x5 : Int32} {x6 : Int32}  (hq1 : q1 < 6) (h : ((x3 ≤ x6 → (P x6 I L)) ∧ (¬ x3 ≤ x6 → (((x5 ≤ (((2 : Int32) * x6) + (1 : Int32)) → (P x6 I L)) ∧ (¬ x5 ≤ (((2 : Int32) * x6) + (1 : Int32)) → ((((4 : Int32) ≤ (I 1 6) → (P x6 I L)) ∧ (¬ (4 : Int32) ≤ (I 1 6) → (∃ j4 : Nat, (x2 + ((2 : Int32) * x6)) = nI j4 ∧ j4 < 60 ∧ (∃ j5 : Nat, ((x2 + ((2 : Int32) * x6)) + (1 : Int32)) = nI j5 ∧ j5 < 60 ∧ ((((L (32 + 2 * q1) j4) < (0 : Int64) → (P x6 I L)) ∧ (¬ (L (32 + 2 * q1) j4) < (0 : Int64) → ((((12 : Int64) < (L (32 + 2 * q1) j4) → (P x6 I L)) ∧ (¬ (12 : Int64) < (L (32 + 2 * q1) j4) → ((((L (32 + 2 * q1) j5) < (0 : Int64) → (P x6 I L)) ∧ (¬ (L (32 + 2 * q1) j5) < (0 : Int64) → ((((L (32 + 2 * q1) j5) < (6 : Int64) → (∃ (d10 : Nat) (P10 : Int32 → zIM → zLM → Prop), d10 + 1 ≤ d ∧ zCi l G d10 mX8_come [.ref 0, .int ((L (32 + 2 * q1) j4).toInt32), .int ((L (32 + 2 * q1) j5).toInt32)] I L P10 ∧ ∀ (y10 : Int32) (I10 : zIM) (L10 : zLM), P10 y10 I10 L10 → (K_X8_players_77 l G d P I10 L10 q1 x2 x3 x5 (x6 + (1 : Int32))))) ∧ (¬ (L (32 + 2 * q1) j5) < (6 : Int64) → (P x6 I L)))))))))))))))))))))))) : K_X8_players_77 l G d P I L q1 x2 x3 x5 x6  := by
  refine z_iload (pc' := 79) (x := x6) dX8_players_77 rfl rfl ?_
  refine z_iload_n (pc' := 80) (x := x3) dX8_players_79 rfl rfl ?_
  refine z_icmp_ge (pc' := 83) (tgt := 187) dX8_players_80 rfl (by decide) (fun c1 => ?_) (fun c1 => ?_)
  · replace h := h.1 c1
    refine z_iload (pc' := 189) (x := x6) dX8_players_187 rfl rfl ?_
    exact z_iret dX8_players_189 rfl rfl ⟨Nat.le_refl _, Nat.le_refl _⟩ ⟨_, _, _, rfl, rfl, h⟩
  · replace h := h.2 c1
    refine z_iconst (pc' := 84) (v := 2) dX8_players_83 rfl (by decide) ?_
    refine z_iload (pc' := 86) (x := x6) dX8_players_84 rfl rfl ?_
    refine z_imul (pc' := 87) dX8_players_86 rfl ?_
    refine z_iconst (pc' := 88) (v := 1) dX8_players_87 rfl (by decide) ?_
    refine z_iadd (pc' := 89) dX8_players_88 rfl ?_
    refine z_iload (pc' := 91) (x := x5) dX8_players_89 rfl rfl ?_
    refine z_icmp_ge (pc' := 94) (tgt := 187) dX8_players_91 rfl (by decide) (fun c2 => ?_) (fun c2 => ?_)
    · replace h := h.1 c2
      refine z_iload (pc' := 189) (x := x6) dX8_players_187 rfl rfl ?_
      exact z_iret dX8_players_189 rfl rfl ⟨Nat.le_refl _, Nat.le_refl _⟩ ⟨_, _, _, rfl, rfl, h⟩
    · replace h := h.2 c2
      refine z_aload_n (pc' := 95) (x := 0) dX8_players_94 rfl rfl ?_
      refine z_getr (pc' := 98) (x := 1) dX8_players_95 rfl fl_X8_10 rfl rfl rfl ?_
      refine z_geti (pc' := 101) (x := (I 1 6)) dX8_players_98 rfl fl_X8_79 rfl rfl rfl ?_
      refine z_iconst (pc' := 102) (v := 4) dX8_players_101 rfl (by decide) ?_
      refine z_icmp_ge (pc' := 105) (tgt := 187) dX8_players_102 rfl (by decide) (fun c3 => ?_) (fun c3 => ?_)
      · replace h := h.1 c3
        refine z_iload (pc' := 189) (x := x6) dX8_players_187 rfl rfl ?_
        exact z_iret dX8_players_189 rfl rfl ⟨Nat.le_refl _, Nat.le_refl _⟩ ⟨_, _, _, rfl, rfl, h⟩
      · replace h := h.2 c3
        refine z_aload (pc' := 107) (x := (31 + 2 * q1)) dX8_players_105 rfl rfl ?_
        refine z_getr (pc' := 110) (x := (32 + 2 * q1)) dX8_players_107 rfl fl_X8_93 (zS_sh hq1) rfl (zR_el hq1) ?_
        refine z_iload_n (pc' := 111) (x := x2) dX8_players_110 rfl rfl ?_
        refine z_iconst (pc' := 112) (v := 2) dX8_players_111 rfl (by decide) ?_
        refine z_iload (pc' := 114) (x := x6) dX8_players_112 rfl rfl ?_
        refine z_imul (pc' := 115) dX8_players_114 rfl ?_
        refine z_iadd (pc' := 116) dX8_players_115 rfl ?_
        obtain ⟨j4, ha4, hb4, h⟩ := h
        refine z_lald (pc' := 117) (x := (L (32 + 2 * q1) j4)) (j := j4) dX8_players_116 rfl (zS_el hq1) (by decide) ha4 hb4 rfl ?_
        refine z_lstore (pc' := 119) (ls' := [some (.ref 0), none, some (.int x2), some (.int x3), some (.ref (31 + 2 * q1)), some (.int x5), some (.int x6), some (.long (L (32 + 2 * q1) j4)), none, none, none]) dX8_players_117 rfl (by decide) rfl ?_
        refine z_aload (pc' := 121) (x := (31 + 2 * q1)) dX8_players_119 rfl rfl ?_
        refine z_getr (pc' := 124) (x := (32 + 2 * q1)) dX8_players_121 rfl fl_X8_93 (zS_sh hq1) rfl (zR_el hq1) ?_
        refine z_iload_n (pc' := 125) (x := x2) dX8_players_124 rfl rfl ?_
        refine z_iconst (pc' := 126) (v := 2) dX8_players_125 rfl (by decide) ?_
        refine z_iload (pc' := 128) (x := x6) dX8_players_126 rfl rfl ?_
        refine z_imul (pc' := 129) dX8_players_128 rfl ?_
        refine z_iadd (pc' := 130) dX8_players_129 rfl ?_
        refine z_iconst (pc' := 131) (v := 1) dX8_players_130 rfl (by decide) ?_
        refine z_iadd (pc' := 132) dX8_players_131 rfl ?_
        obtain ⟨j5, ha5, hb5, h⟩ := h
        refine z_lald (pc' := 133) (x := (L (32 + 2 * q1) j5)) (j := j5) dX8_players_132 rfl (zS_el hq1) (by decide) ha5 hb5 rfl ?_
        refine z_lstore (pc' := 135) (ls' := [some (.ref 0), none, some (.int x2), some (.int x3), some (.ref (31 + 2 * q1)), some (.int x5), some (.int x6), some (.long (L (32 + 2 * q1) j4)), none, some (.long (L (32 + 2 * q1) j5)), none]) dX8_players_133 rfl (by decide) rfl ?_
        refine z_lload (pc' := 137) (x := (L (32 + 2 * q1) j4)) dX8_players_135 rfl rfl ?_
        refine z_lconst (pc' := 138) (v := 0) dX8_players_137 rfl (by decide) ?_
        refine z_lc_lt (pc' := 142) (tgt := 187) dX8_players_138 dX8_players_139 rfl (by decide) (fun c6 => ?_) (fun c6 => ?_)
        · replace h := h.1 c6
          refine z_iload (pc' := 189) (x := x6) dX8_players_187 rfl rfl ?_
          exact z_iret dX8_players_189 rfl rfl ⟨Nat.le_refl _, Nat.le_refl _⟩ ⟨_, _, _, rfl, rfl, h⟩
        · replace h := h.2 c6
          refine z_lload (pc' := 144) (x := (L (32 + 2 * q1) j4)) dX8_players_142 rfl rfl ?_
          refine z_ldc2 (pc' := 147) (v := 12) dX8_players_144 rfl kl_X8_97 ?_
          refine z_lc_gt (pc' := 151) (tgt := 187) dX8_players_147 dX8_players_148 rfl (by decide) (fun c7 => ?_) (fun c7 => ?_)
          · replace h := h.1 c7
            refine z_iload (pc' := 189) (x := x6) dX8_players_187 rfl rfl ?_
            exact z_iret dX8_players_189 rfl rfl ⟨Nat.le_refl _, Nat.le_refl _⟩ ⟨_, _, _, rfl, rfl, h⟩
          · replace h := h.2 c7
            refine z_lload (pc' := 153) (x := (L (32 + 2 * q1) j5)) dX8_players_151 rfl rfl ?_
            refine z_lconst (pc' := 154) (v := 0) dX8_players_153 rfl (by decide) ?_
            refine z_lc_lt (pc' := 158) (tgt := 187) dX8_players_154 dX8_players_155 rfl (by decide) (fun c8 => ?_) (fun c8 => ?_)
            · replace h := h.1 c8
              refine z_iload (pc' := 189) (x := x6) dX8_players_187 rfl rfl ?_
              exact z_iret dX8_players_189 rfl rfl ⟨Nat.le_refl _, Nat.le_refl _⟩ ⟨_, _, _, rfl, rfl, h⟩
            · replace h := h.2 c8
              refine z_lload (pc' := 160) (x := (L (32 + 2 * q1) j5)) dX8_players_158 rfl rfl ?_
              refine z_ldc2 (pc' := 163) (v := 6) dX8_players_160 rfl kl_X8_99 ?_
              refine z_lc_lt (pc' := 167) (tgt := 170) dX8_players_163 dX8_players_164 rfl (by decide) (fun c9 => ?_) (fun c9 => ?_)
              · replace h := h.1 c9
                refine z_aload_n (pc' := 171) (x := 0) dX8_players_170 rfl rfl ?_
                refine z_lload (pc' := 173) (x := (L (32 + 2 * q1) j4)) dX8_players_171 rfl rfl ?_
                refine z_l2i (pc' := 174) dX8_players_173 rfl ?_
                refine z_lload (pc' := 176) (x := (L (32 + 2 * q1) j5)) dX8_players_174 rfl rfl ?_
                refine z_l2i (pc' := 177) dX8_players_176 rfl ?_
                obtain ⟨d10, P10, hd10, hC10, h⟩ := h
                refine z_callV (pc' := 180) (M' := mX8_come) (As := [.int ((L (32 + 2 * q1) j4).toInt32), .int ((L (32 + 2 * q1) j5).toInt32)]) dX8_players_177 rfl ml_X8_83 me_X8_come hC10 rfl (by decide) rfl rfl hd10 (Nat.le_of_ble_eq_true rfl) ⟨Nat.le_refl _, Nat.le_refl _⟩ rfl ?_
                rintro _ _ ⟨y10, I10, L10, rfl, rfl, hP10⟩
                replace h := h y10 I10 L10 hP10
                refine z_pop (pc' := 181) dX8_players_180 rfl rfl ?_
                refine z_iinc (pc' := 184) (x := x6) (v := (x6 + (1 : Int32))) (ls' := [some (.ref 0), none, some (.int x2), some (.int x3), some (.ref (31 + 2 * q1)), some (.int x5), some (.int (x6 + (1 : Int32))), some (.long (L (32 + 2 * q1) j4)), none, some (.long (L (32 + 2 * q1) j5)), none]) dX8_players_181 rfl rfl (by rfl) (by decide) rfl ?_
                refine z_goto (pc' := 77) dX8_players_184 (by decide) ?_
                refine z_sub (pc' := 0) [some (.ref 0), none, some (.int x2), some (.int x3), some (.ref (31 + 2 * q1)), some (.int x5), some (.int (x6 + (1 : Int32))), none, none, none, none] (zsub_s (zsub_n (zsub_s (zsub_s (zsub_s (zsub_s (zsub_s (zsub_n (zsub_n (zsub_n (zsub_n zsub_nil))))))))))) ?_
                exact h
              · replace h := h.2 c9
                refine z_goto (pc' := 187) dX8_players_167 (by decide) ?_
                refine z_iload (pc' := 189) (x := x6) dX8_players_187 rfl rfl ?_
                exact z_iret dX8_players_189 rfl rfl ⟨Nat.le_refl _, Nat.le_refl _⟩ ⟨_, _, _, rfl, rfl, h⟩
set_option maxHeartbeats 4000000 in
set_option maxRecDepth 100000 in
theorem t_X8_mend {l : Launch} {G : zG} {d : Nat} {P : Int32 → zIM → zLM → Prop} {I : zIM} {L : zLM} {x1 : Int32} {x2 : Int32} {x3 : Int32}  (h : ∃ (d1 : Nat) (P1 : Int32 → zIM → zLM → Prop), d1 + 1 ≤ d ∧ zCi l G d1 mX2_has [.ref 1, .int x1] I L P1 ∧ ∀ (y1 : Int32) (I1 : zIM) (L1 : zLM), P1 y1 I1 L1 → (((y1 = 0 → (P (-1 : Int32) I1 L1)) ∧ (¬ y1 = 0 → (∃ (d3 : Nat) (P3 : Int32 → zIM → zLM → Prop), d3 + 1 ≤ d ∧ zCi l G d3 mX8_isWithin [.int x2, .int (2 : Int32)] I1 L1 P3 ∧ ∀ (y3 : Int32) (I3 : zIM) (L3 : zLM), P3 y3 I3 L3 → (((y3 = 0 → (P (-1 : Int32) I3 L3)) ∧ (¬ y3 = 0 → (∃ (d5 : Nat) (P5 : Int32 → zIM → zLM → Prop), d5 + 1 ≤ d ∧ zCi l G d5 mX8_greatest [.int x2] I3 L3 P5 ∧ ∀ (y5 : Int32) (I5 : zIM) (L5 : zLM), P5 y5 I5 L5 → (∃ (d6 : Nat) (P6 : Int32 → zIM → zLM → Prop), d6 + 1 ≤ d ∧ zCi l G d6 mX8_isWithin [.int x3, .int y5] I5 L5 P6 ∧ ∀ (y6 : Int32) (I6 : zIM) (L6 : zLM), P6 y6 I6 L6 → (((¬ y6 = 0 → (∃ (d8 : Nat) (P8 : Int32 → zIM → zLM → Prop), d8 + 1 ≤ d ∧ zCi l G d8 mX2_told [.ref 1, .int x1, .int x2] I6 L6 P8 ∧ ∀ (y8 : Int32) (I8 : zIM) (L8 : zLM), P8 y8 I8 L8 → (((y8 = x3 → (P y8 I8 L8)) ∧ (¬ y8 = x3 → (∃ (d10 : Nat) (P10 : zIM → zLM → Prop), d10 + 1 ≤ d ∧ zCv l G d10 mX0_came [.ref 22, .int x1, .int x2, .int y8, .int x3] I8 L8 P10 ∧ ∀ (I10 : zIM) (L10 : zLM), P10 I10 L10 → (∃ (d11 : Nat) (P11 : zIM → zLM → Prop), d11 + 1 ≤ d ∧ zCv l G d11 mX8_tell [.ref 0, .int x1, .int x2, .int x3] I10 L10 P11 ∧ ∀ (I11 : zIM) (L11 : zLM), P11 I11 L11 → (P y8 I11 L11)))))))) ∧ (y6 = 0 → (P (-1 : Int32) I6 L6)))))))))))))) : zCi l G d mX8_mend [.ref 0, .int x1, .int x2, .int x3] I L P := by
  refine zCn.of (ls := [some (.ref 0), some (.int x1), some (.int x2), some (.int x3), none]) (by decide) (Nat.le_of_ble_eq_true rfl) rfl ?_
  refine z_aload_n (pc' := 1) (x := 0) dX8_mend_0 rfl rfl ?_
  refine z_getr (pc' := 4) (x := 1) dX8_mend_1 rfl fl_X8_10 rfl rfl rfl ?_
  refine z_iload_n (pc' := 5) (x := x1) dX8_mend_4 rfl rfl ?_
  obtain ⟨d1, P1, hd1, hC1, h⟩ := h
  refine z_callV (pc' := 8) (M' := mX2_has) (As := [.int x1]) dX8_mend_5 rfl ml_X8_101 me_X2_has hC1 rfl (by decide) rfl rfl hd1 (Nat.le_of_ble_eq_true rfl) ⟨Nat.le_refl _, Nat.le_refl _⟩ rfl ?_
  rintro _ _ ⟨y1, I1, L1, rfl, rfl, hP1⟩
  replace h := h y1 I1 L1 hP1
  refine z_if_eq (pc' := 11) (tgt := 30) dX8_mend_8 rfl (by decide) (fun c2 => ?_) (fun c2 => ?_)
  · replace h := h.1 c2
    refine z_iconst (pc' := 31) (v := -1) dX8_mend_30 rfl (by decide) ?_
    exact z_iret dX8_mend_31 rfl rfl ⟨Nat.le_refl _, Nat.le_refl _⟩ ⟨_, _, _, rfl, rfl, h⟩
  · replace h := h.2 c2
    refine z_iload_n (pc' := 12) (x := x2) dX8_mend_11 rfl rfl ?_
    refine z_iconst (pc' := 13) (v := 2) dX8_mend_12 rfl (by decide) ?_
    obtain ⟨d3, P3, hd3, hC3, h⟩ := h
    refine z_callS (pc' := 16) (M' := mX8_isWithin) (As := [.int x2, .int (2 : Int32)]) dX8_mend_13 rfl ml_X8_75 me_X8_isWithin hC3 rfl hd3 (Nat.le_of_ble_eq_true rfl) ⟨Nat.le_refl _, Nat.le_refl _⟩ rfl ?_
    rintro _ _ ⟨y3, I3, L3, rfl, rfl, hP3⟩
    replace h := h y3 I3 L3 hP3
    refine z_if_eq (pc' := 19) (tgt := 30) dX8_mend_16 rfl (by decide) (fun c4 => ?_) (fun c4 => ?_)
    · replace h := h.1 c4
      refine z_iconst (pc' := 31) (v := -1) dX8_mend_30 rfl (by decide) ?_
      exact z_iret dX8_mend_31 rfl rfl ⟨Nat.le_refl _, Nat.le_refl _⟩ ⟨_, _, _, rfl, rfl, h⟩
    · replace h := h.2 c4
      refine z_iload_n (pc' := 20) (x := x3) dX8_mend_19 rfl rfl ?_
      refine z_iload_n (pc' := 21) (x := x2) dX8_mend_20 rfl rfl ?_
      obtain ⟨d5, P5, hd5, hC5, h⟩ := h
      refine z_callS (pc' := 24) (M' := mX8_greatest) (As := [.int x2]) dX8_mend_21 rfl ml_X8_105 me_X8_greatest hC5 rfl hd5 (Nat.le_of_ble_eq_true rfl) ⟨Nat.le_refl _, Nat.le_refl _⟩ rfl ?_
      rintro _ _ ⟨y5, I5, L5, rfl, rfl, hP5⟩
      replace h := h y5 I5 L5 hP5
      obtain ⟨d6, P6, hd6, hC6, h⟩ := h
      refine z_callS (pc' := 27) (M' := mX8_isWithin) (As := [.int x3, .int y5]) dX8_mend_24 rfl ml_X8_75 me_X8_isWithin hC6 rfl hd6 (Nat.le_of_ble_eq_true rfl) ⟨Nat.le_refl _, Nat.le_refl _⟩ rfl ?_
      rintro _ _ ⟨y6, I6, L6, rfl, rfl, hP6⟩
      replace h := h y6 I6 L6 hP6
      refine z_if_ne (pc' := 30) (tgt := 32) dX8_mend_27 rfl (by decide) (fun c7 => ?_) (fun c7 => ?_)
      · replace h := h.1 c7
        refine z_aload_n (pc' := 33) (x := 0) dX8_mend_32 rfl rfl ?_
        refine z_getr (pc' := 36) (x := 1) dX8_mend_33 rfl fl_X8_10 rfl rfl rfl ?_
        refine z_iload_n (pc' := 37) (x := x1) dX8_mend_36 rfl rfl ?_
        refine z_iload_n (pc' := 38) (x := x2) dX8_mend_37 rfl rfl ?_
        obtain ⟨d8, P8, hd8, hC8, h⟩ := h
        refine z_callV (pc' := 41) (M' := mX2_told) (As := [.int x1, .int x2]) dX8_mend_38 rfl ml_X8_109 me_X2_told hC8 rfl (by decide) rfl rfl hd8 (Nat.le_of_ble_eq_true rfl) ⟨Nat.le_refl _, Nat.le_refl _⟩ rfl ?_
        rintro _ _ ⟨y8, I8, L8, rfl, rfl, hP8⟩
        replace h := h y8 I8 L8 hP8
        refine z_istore (pc' := 43) (ls' := [some (.ref 0), some (.int x1), some (.int x2), some (.int x3), some (.int y8)]) dX8_mend_41 rfl (by decide) rfl ?_
        refine z_iload (pc' := 45) (x := y8) dX8_mend_43 rfl rfl ?_
        refine z_iload_n (pc' := 46) (x := x3) dX8_mend_45 rfl rfl ?_
        refine z_icmp_eq (pc' := 49) (tgt := 68) dX8_mend_46 rfl (by decide) (fun c9 => ?_) (fun c9 => ?_)
        · replace h := h.1 c9
          refine z_iload (pc' := 70) (x := y8) dX8_mend_68 rfl rfl ?_
          exact z_iret dX8_mend_70 rfl rfl ⟨Nat.le_refl _, Nat.le_refl _⟩ ⟨_, _, _, rfl, rfl, h⟩
        · replace h := h.2 c9
          refine z_aload_n (pc' := 50) (x := 0) dX8_mend_49 rfl rfl ?_
          refine z_getr (pc' := 53) (x := 22) dX8_mend_50 rfl fl_X8_53 rfl rfl rfl ?_
          refine z_iload_n (pc' := 54) (x := x1) dX8_mend_53 rfl rfl ?_
          refine z_iload_n (pc' := 55) (x := x2) dX8_mend_54 rfl rfl ?_
          refine z_iload (pc' := 57) (x := y8) dX8_mend_55 rfl rfl ?_
          refine z_iload_n (pc' := 58) (x := x3) dX8_mend_57 rfl rfl ?_
          obtain ⟨d10, P10, hd10, hC10, h⟩ := h
          refine z_callV (pc' := 61) (M' := mX0_came) (As := [.int x1, .int x2, .int y8, .int x3]) dX8_mend_58 rfl ml_X8_112 me_X0_came hC10 rfl (by decide) rfl rfl hd10 (Nat.le_of_ble_eq_true rfl) ⟨Nat.le_refl _, Nat.le_refl _⟩ rfl ?_
          rintro _ _ ⟨I10, L10, rfl, rfl, hP10⟩
          replace h := h I10 L10 hP10
          refine z_aload_n (pc' := 62) (x := 0) dX8_mend_61 rfl rfl ?_
          refine z_iload_n (pc' := 63) (x := x1) dX8_mend_62 rfl rfl ?_
          refine z_iload_n (pc' := 64) (x := x2) dX8_mend_63 rfl rfl ?_
          refine z_iload_n (pc' := 65) (x := x3) dX8_mend_64 rfl rfl ?_
          obtain ⟨d11, P11, hd11, hC11, h⟩ := h
          refine z_callV (pc' := 68) (M' := mX8_tell) (As := [.int x1, .int x2, .int x3]) dX8_mend_65 rfl ml_X8_116 me_X8_tell hC11 rfl (by decide) rfl rfl hd11 (Nat.le_of_ble_eq_true rfl) ⟨Nat.le_refl _, Nat.le_refl _⟩ rfl ?_
          rintro _ _ ⟨I11, L11, rfl, rfl, hP11⟩
          replace h := h I11 L11 hP11
          refine z_iload (pc' := 70) (x := y8) dX8_mend_68 rfl rfl ?_
          exact z_iret dX8_mend_70 rfl rfl ⟨Nat.le_refl _, Nat.le_refl _⟩ ⟨_, _, _, rfl, rfl, h⟩
      · replace h := h.2 c7
        refine z_iconst (pc' := 31) (v := -1) dX8_mend_30 rfl (by decide) ?_
        exact z_iret dX8_mend_31 rfl rfl ⟨Nat.le_refl _, Nat.le_refl _⟩ ⟨_, _, _, rfl, rfl, h⟩
set_option maxHeartbeats 4000000 in
set_option maxRecDepth 100000 in
theorem t_X8_order {l : Launch} {G : zG} {d : Nat} {P : Int32 → zIM → zLM → Prop} {I : zIM} {L : zLM} {x1 : Int32}  (h : ∃ (d1 : Nat) (P1 : Int32 → zIM → zLM → Prop), d1 + 1 ≤ d ∧ zCi l G d1 mX2_turnAs [.ref 1, .int x1] I L P1 ∧ ∀ (y1 : Int32) (I1 : zIM) (L1 : zLM), P1 y1 I1 L1 → (((¬ y1 = 0 → (∃ (d3 : Nat) (P3 : zIM → zLM → Prop), d3 + 1 ≤ d ∧ zCv l G d3 mX1_startForNewGroup [.ref 20] I1 L1 P3 ∧ ∀ (I3 : zIM) (L3 : zLM), P3 I3 L3 → (P (1 : Int32) I3 L3))) ∧ (y1 = 0 → (P (-1 : Int32) I1 L1))))) : zCi l G d mX8_order [.ref 0, .int x1] I L P := by
  refine zCn.of (ls := [some (.ref 0), some (.int x1)]) (by decide) (Nat.le_of_ble_eq_true rfl) rfl ?_
  refine z_aload_n (pc' := 1) (x := 0) dX8_order_0 rfl rfl ?_
  refine z_getr (pc' := 4) (x := 1) dX8_order_1 rfl fl_X8_10 rfl rfl rfl ?_
  refine z_iload_n (pc' := 5) (x := x1) dX8_order_4 rfl rfl ?_
  obtain ⟨d1, P1, hd1, hC1, h⟩ := h
  refine z_callV (pc' := 8) (M' := mX2_turnAs) (As := [.int x1]) dX8_order_5 rfl ml_X8_120 me_X2_turnAs hC1 rfl (by decide) rfl rfl hd1 (Nat.le_of_ble_eq_true rfl) ⟨Nat.le_refl _, Nat.le_refl _⟩ rfl ?_
  rintro _ _ ⟨y1, I1, L1, rfl, rfl, hP1⟩
  replace h := h y1 I1 L1 hP1
  refine z_if_ne (pc' := 11) (tgt := 13) dX8_order_8 rfl (by decide) (fun c2 => ?_) (fun c2 => ?_)
  · replace h := h.1 c2
    refine z_aload_n (pc' := 14) (x := 0) dX8_order_13 rfl rfl ?_
    refine z_getr (pc' := 17) (x := 20) dX8_order_14 rfl fl_X8_37 rfl rfl rfl ?_
    obtain ⟨d3, P3, hd3, hC3, h⟩ := h
    refine z_callV (pc' := 20) (M' := mX1_startForNewGroup) (As := []) dX8_order_17 rfl ml_X8_123 me_X1_startForNewGroup hC3 rfl (by decide) rfl rfl hd3 (Nat.le_of_ble_eq_true rfl) ⟨Nat.le_refl _, Nat.le_refl _⟩ rfl ?_
    rintro _ _ ⟨I3, L3, rfl, rfl, hP3⟩
    replace h := h I3 L3 hP3
    refine z_iconst (pc' := 21) (v := 1) dX8_order_20 rfl (by decide) ?_
    exact z_iret dX8_order_21 rfl rfl ⟨Nat.le_refl _, Nat.le_refl _⟩ ⟨_, _, _, rfl, rfl, h⟩
  · replace h := h.2 c2
    refine z_iconst (pc' := 12) (v := -1) dX8_order_11 rfl (by decide) ?_
    exact z_iret dX8_order_12 rfl rfl ⟨Nat.le_refl _, Nat.le_refl _⟩ ⟨_, _, _, rfl, rfl, h⟩
set_option maxHeartbeats 4000000 in
set_option maxRecDepth 100000 in
theorem t_X8_bell {l : Launch} {G : zG} {d : Nat} {P : Int32 → zIM → zLM → Prop} {I : zIM} {L : zLM} {x1 : Int32}  (h : ∃ (d1 : Nat) (P1 : Int32 → zIM → zLM → Prop), d1 + 1 ≤ d ∧ zCi l G d1 mX8_isWithin [.int x1, .int (9 : Int32)] I L P1 ∧ ∀ (y1 : Int32) (I1 : zIM) (L1 : zLM), P1 y1 I1 L1 → (((¬ y1 = 0 → (∃ (d3 : Nat) (P3 : zIM → zLM → Prop), d3 + 1 ≤ d ∧ zCv l G d3 mX1_startForNewGroup [.ref 20] (xI I1 1 7 x1) L1 P3 ∧ ∀ (I3 : zIM) (L3 : zLM), P3 I3 L3 → (P (I1 1 7) I3 L3))) ∧ (y1 = 0 → (P (-1 : Int32) I1 L1))))) : zCi l G d mX8_bell [.ref 0, .int x1] I L P := by
  refine zCn.of (ls := [some (.ref 0), some (.int x1), none]) (by decide) (Nat.le_of_ble_eq_true rfl) rfl ?_
  refine z_iload_n (pc' := 1) (x := x1) dX8_bell_0 rfl rfl ?_
  refine z_bipush (pc' := 3) (v := 9) dX8_bell_1 rfl (by decide) ?_
  obtain ⟨d1, P1, hd1, hC1, h⟩ := h
  refine z_callS (pc' := 6) (M' := mX8_isWithin) (As := [.int x1, .int (9 : Int32)]) dX8_bell_3 rfl ml_X8_75 me_X8_isWithin hC1 rfl hd1 (Nat.le_of_ble_eq_true rfl) ⟨Nat.le_refl _, Nat.le_refl _⟩ rfl ?_
  rintro _ _ ⟨y1, I1, L1, rfl, rfl, hP1⟩
  replace h := h y1 I1 L1 hP1
  refine z_if_ne (pc' := 9) (tgt := 11) dX8_bell_6 rfl (by decide) (fun c2 => ?_) (fun c2 => ?_)
  · replace h := h.1 c2
    refine z_aload_n (pc' := 12) (x := 0) dX8_bell_11 rfl rfl ?_
    refine z_getr (pc' := 15) (x := 1) dX8_bell_12 rfl fl_X8_10 rfl rfl rfl ?_
    refine z_geti (pc' := 18) (x := (I1 1 7)) dX8_bell_15 rfl fl_X8_126 rfl rfl rfl ?_
    refine z_istore_n (pc' := 19) (ls' := [some (.ref 0), some (.int x1), some (.int (I1 1 7))]) dX8_bell_18 rfl (by decide) rfl ?_
    refine z_aload_n (pc' := 20) (x := 0) dX8_bell_19 rfl rfl ?_
    refine z_getr (pc' := 23) (x := 1) dX8_bell_20 rfl fl_X8_10 rfl rfl rfl ?_
    refine z_iload_n (pc' := 24) (x := x1) dX8_bell_23 rfl rfl ?_
    refine z_puti (pc' := 27) (w' := zs (xI I1 1 7 x1) L1) dX8_bell_24 rfl fl_X8_126 rfl rfl rfl rfl rfl rfl ?_
    refine z_aload_n (pc' := 28) (x := 0) dX8_bell_27 rfl rfl ?_
    refine z_getr (pc' := 31) (x := 20) dX8_bell_28 rfl fl_X8_37 rfl rfl rfl ?_
    obtain ⟨d3, P3, hd3, hC3, h⟩ := h
    refine z_callV (pc' := 34) (M' := mX1_startForNewGroup) (As := []) dX8_bell_31 rfl ml_X8_123 me_X1_startForNewGroup hC3 rfl (by decide) rfl rfl hd3 (Nat.le_of_ble_eq_true rfl) ⟨Nat.le_refl _, Nat.le_refl _⟩ rfl ?_
    rintro _ _ ⟨I3, L3, rfl, rfl, hP3⟩
    replace h := h I3 L3 hP3
    refine z_iload_n (pc' := 35) (x := (I1 1 7)) dX8_bell_34 rfl rfl ?_
    exact z_iret dX8_bell_35 rfl rfl ⟨Nat.le_refl _, Nat.le_refl _⟩ ⟨_, _, _, rfl, rfl, h⟩
  · replace h := h.2 c2
    refine z_iconst (pc' := 10) (v := -1) dX8_bell_9 rfl (by decide) ?_
    exact z_iret dX8_bell_10 rfl rfl ⟨Nat.le_refl _, Nat.le_refl _⟩ ⟨_, _, _, rfl, rfl, h⟩
set_option maxHeartbeats 4000000 in
set_option maxRecDepth 100000 in
theorem t_X8_prize {l : Launch} {G : zG} {d : Nat} {P : Int32 → zIM → zLM → Prop} {I : zIM} {L : zLM} {x1 : Int32} {x2 : Int32}  (h : ((x1 < (1 : Int32) → (P (-1 : Int32) I L)) ∧ (¬ x1 < (1 : Int32) → ((((4 : Int32) < x1 → (P (-1 : Int32) I L)) ∧ (¬ (4 : Int32) < x1 → (∃ (d3 : Nat) (P3 : Int32 → zIM → zLM → Prop), d3 + 1 ≤ d ∧ zCi l G d3 mX8_isWithin [.int x2, .int (9 : Int32)] I L P3 ∧ ∀ (y3 : Int32) (I3 : zIM) (L3 : zLM), P3 y3 I3 L3 → (((¬ y3 = 0 → (∃ j5 : Nat, x1 = nI j5 ∧ j5 < 5 ∧ (P (I3 7 j5) (xI I3 7 j5 x2) L3))) ∧ (y3 = 0 → (P (-1 : Int32) I3 L3))))))))))) : zCi l G d mX8_prize [.ref 0, .int x1, .int x2] I L P := by
  refine zCn.of (ls := [some (.ref 0), some (.int x1), some (.int x2), none]) (by decide) (Nat.le_of_ble_eq_true rfl) rfl ?_
  refine z_iload_n (pc' := 1) (x := x1) dX8_prize_0 rfl rfl ?_
  refine z_iconst (pc' := 2) (v := 1) dX8_prize_1 rfl (by decide) ?_
  refine z_icmp_lt (pc' := 5) (tgt := 19) dX8_prize_2 rfl (by decide) (fun c1 => ?_) (fun c1 => ?_)
  · replace h := h.1 c1
    refine z_iconst (pc' := 20) (v := -1) dX8_prize_19 rfl (by decide) ?_
    exact z_iret dX8_prize_20 rfl rfl ⟨Nat.le_refl _, Nat.le_refl _⟩ ⟨_, _, _, rfl, rfl, h⟩
  · replace h := h.2 c1
    refine z_iload_n (pc' := 6) (x := x1) dX8_prize_5 rfl rfl ?_
    refine z_iconst (pc' := 7) (v := 4) dX8_prize_6 rfl (by decide) ?_
    refine z_icmp_gt (pc' := 10) (tgt := 19) dX8_prize_7 rfl (by decide) (fun c2 => ?_) (fun c2 => ?_)
    · replace h := h.1 c2
      refine z_iconst (pc' := 20) (v := -1) dX8_prize_19 rfl (by decide) ?_
      exact z_iret dX8_prize_20 rfl rfl ⟨Nat.le_refl _, Nat.le_refl _⟩ ⟨_, _, _, rfl, rfl, h⟩
    · replace h := h.2 c2
      refine z_iload_n (pc' := 11) (x := x2) dX8_prize_10 rfl rfl ?_
      refine z_bipush (pc' := 13) (v := 9) dX8_prize_11 rfl (by decide) ?_
      obtain ⟨d3, P3, hd3, hC3, h⟩ := h
      refine z_callS (pc' := 16) (M' := mX8_isWithin) (As := [.int x2, .int (9 : Int32)]) dX8_prize_13 rfl ml_X8_75 me_X8_isWithin hC3 rfl hd3 (Nat.le_of_ble_eq_true rfl) ⟨Nat.le_refl _, Nat.le_refl _⟩ rfl ?_
      rintro _ _ ⟨y3, I3, L3, rfl, rfl, hP3⟩
      replace h := h y3 I3 L3 hP3
      refine z_if_ne (pc' := 19) (tgt := 21) dX8_prize_16 rfl (by decide) (fun c4 => ?_) (fun c4 => ?_)
      · replace h := h.1 c4
        refine z_aload_n (pc' := 22) (x := 0) dX8_prize_21 rfl rfl ?_
        refine z_getr (pc' := 25) (x := 1) dX8_prize_22 rfl fl_X8_10 rfl rfl rfl ?_
        refine z_getr (pc' := 28) (x := 7) dX8_prize_25 rfl fl_X8_129 rfl rfl rfl ?_
        refine z_iload_n (pc' := 29) (x := x1) dX8_prize_28 rfl rfl ?_
        obtain ⟨j5, ha5, hb5, h⟩ := h
        refine z_iald (pc' := 30) (x := (I3 7 j5)) (j := j5) dX8_prize_29 rfl rfl (by decide) ha5 hb5 rfl ?_
        refine z_istore_n (pc' := 31) (ls' := [some (.ref 0), some (.int x1), some (.int x2), some (.int (I3 7 j5))]) dX8_prize_30 rfl (by decide) rfl ?_
        refine z_aload_n (pc' := 32) (x := 0) dX8_prize_31 rfl rfl ?_
        refine z_getr (pc' := 35) (x := 1) dX8_prize_32 rfl fl_X8_10 rfl rfl rfl ?_
        refine z_getr (pc' := 38) (x := 7) dX8_prize_35 rfl fl_X8_129 rfl rfl rfl ?_
        refine z_iload_n (pc' := 39) (x := x1) dX8_prize_38 rfl rfl ?_
        refine z_iload_n (pc' := 40) (x := x2) dX8_prize_39 rfl rfl ?_
        refine z_iast (pc' := 41) (j := j5) (w' := zs (xI I3 7 j5 x2) L3) dX8_prize_40 rfl rfl (by decide) ha5 hb5 rfl ?_
        refine z_iload_n (pc' := 42) (x := (I3 7 j5)) dX8_prize_41 rfl rfl ?_
        exact z_iret dX8_prize_42 rfl rfl ⟨Nat.le_refl _, Nat.le_refl _⟩ ⟨_, _, _, rfl, rfl, h⟩
      · replace h := h.2 c4
        refine z_iconst (pc' := 20) (v := -1) dX8_prize_19 rfl (by decide) ?_
        exact z_iret dX8_prize_20 rfl rfl ⟨Nat.le_refl _, Nat.le_refl _⟩ ⟨_, _, _, rfl, rfl, h⟩
set_option maxHeartbeats 4000000 in
set_option maxRecDepth 100000 in
theorem t_X8_of {l : Launch} {G : zG} {d : Nat} {P : Int32 → zIM → zLM → Prop} {I : zIM} {L : zLM} {x1 : Int32} {x2 : Int32}  (h : ∃ (d1 : Nat) (P1 : Int32 → zIM → zLM → Prop), d1 + 1 ≤ d ∧ zCi l G d1 mX2_has [.ref 1, .int x1] I L P1 ∧ ∀ (y1 : Int32) (I1 : zIM) (L1 : zLM), P1 y1 I1 L1 → (((y1 = 0 → (P (-1 : Int32) I1 L1)) ∧ (¬ y1 = 0 → (∃ (d3 : Nat) (P3 : Int32 → zIM → zLM → Prop), d3 + 1 ≤ d ∧ zCi l G d3 mX8_isWithin [.int x2, .int (4 : Int32)] I1 L1 P3 ∧ ∀ (y3 : Int32) (I3 : zIM) (L3 : zLM), P3 y3 I3 L3 → (((¬ y3 = 0 → (((¬ x2 = (4 : Int32) → (((¬ x2 = (3 : Int32) → (∃ (d7 : Nat) (P7 : Int32 → zIM → zLM → Prop), d7 + 1 ≤ d ∧ zCi l G d7 mX2_told [.ref 1, .int x1, .int x2] I3 L3 P7 ∧ ∀ (y7 : Int32) (I7 : zIM) (L7 : zLM), P7 y7 I7 L7 → (P y7 I7 L7))) ∧ (x2 = (3 : Int32) → (∃ j8 : Nat, x1 = nI j8 ∧ j8 < 4 ∧ (P (I3 6 j8) I3 L3)))))) ∧ (x2 = (4 : Int32) → (P (((I3 20 0) >>> (x1 &&& 31)) &&& (1 : Int32)) I3 L3))))) ∧ (y3 = 0 → (P (-1 : Int32) I3 L3))))))))) : zCi l G d mX8_of [.ref 0, .int x1, .int x2] I L P := by
  refine zCn.of (ls := [some (.ref 0), some (.int x1), some (.int x2)]) (by decide) (Nat.le_of_ble_eq_true rfl) rfl ?_
  refine z_aload_n (pc' := 1) (x := 0) dX8_of_0 rfl rfl ?_
  refine z_getr (pc' := 4) (x := 1) dX8_of_1 rfl fl_X8_10 rfl rfl rfl ?_
  refine z_iload_n (pc' := 5) (x := x1) dX8_of_4 rfl rfl ?_
  obtain ⟨d1, P1, hd1, hC1, h⟩ := h
  refine z_callV (pc' := 8) (M' := mX2_has) (As := [.int x1]) dX8_of_5 rfl ml_X8_101 me_X2_has hC1 rfl (by decide) rfl rfl hd1 (Nat.le_of_ble_eq_true rfl) ⟨Nat.le_refl _, Nat.le_refl _⟩ rfl ?_
  rintro _ _ ⟨y1, I1, L1, rfl, rfl, hP1⟩
  replace h := h y1 I1 L1 hP1
  refine z_if_eq (pc' := 11) (tgt := 19) dX8_of_8 rfl (by decide) (fun c2 => ?_) (fun c2 => ?_)
  · replace h := h.1 c2
    refine z_iconst (pc' := 20) (v := -1) dX8_of_19 rfl (by decide) ?_
    exact z_iret dX8_of_20 rfl rfl ⟨Nat.le_refl _, Nat.le_refl _⟩ ⟨_, _, _, rfl, rfl, h⟩
  · replace h := h.2 c2
    refine z_iload_n (pc' := 12) (x := x2) dX8_of_11 rfl rfl ?_
    refine z_iconst (pc' := 13) (v := 4) dX8_of_12 rfl (by decide) ?_
    obtain ⟨d3, P3, hd3, hC3, h⟩ := h
    refine z_callS (pc' := 16) (M' := mX8_isWithin) (As := [.int x2, .int (4 : Int32)]) dX8_of_13 rfl ml_X8_75 me_X8_isWithin hC3 rfl hd3 (Nat.le_of_ble_eq_true rfl) ⟨Nat.le_refl _, Nat.le_refl _⟩ rfl ?_
    rintro _ _ ⟨y3, I3, L3, rfl, rfl, hP3⟩
    replace h := h y3 I3 L3 hP3
    refine z_if_ne (pc' := 19) (tgt := 21) dX8_of_16 rfl (by decide) (fun c4 => ?_) (fun c4 => ?_)
    · replace h := h.1 c4
      refine z_iload_n (pc' := 22) (x := x2) dX8_of_21 rfl rfl ?_
      refine z_iconst (pc' := 23) (v := 4) dX8_of_22 rfl (by decide) ?_
      refine z_icmp_ne (pc' := 26) (tgt := 38) dX8_of_23 rfl (by decide) (fun c5 => ?_) (fun c5 => ?_)
      · replace h := h.1 c5
        refine z_iload_n (pc' := 39) (x := x2) dX8_of_38 rfl rfl ?_
        refine z_iconst (pc' := 40) (v := 3) dX8_of_39 rfl (by decide) ?_
        refine z_icmp_ne (pc' := 43) (tgt := 55) dX8_of_40 rfl (by decide) (fun c6 => ?_) (fun c6 => ?_)
        · replace h := h.1 c6
          refine z_aload_n (pc' := 56) (x := 0) dX8_of_55 rfl rfl ?_
          refine z_getr (pc' := 59) (x := 1) dX8_of_56 rfl fl_X8_10 rfl rfl rfl ?_
          refine z_iload_n (pc' := 60) (x := x1) dX8_of_59 rfl rfl ?_
          refine z_iload_n (pc' := 61) (x := x2) dX8_of_60 rfl rfl ?_
          obtain ⟨d7, P7, hd7, hC7, h⟩ := h
          refine z_callV (pc' := 64) (M' := mX2_told) (As := [.int x1, .int x2]) dX8_of_61 rfl ml_X8_109 me_X2_told hC7 rfl (by decide) rfl rfl hd7 (Nat.le_of_ble_eq_true rfl) ⟨Nat.le_refl _, Nat.le_refl _⟩ rfl ?_
          rintro _ _ ⟨y7, I7, L7, rfl, rfl, hP7⟩
          replace h := h y7 I7 L7 hP7
          exact z_iret dX8_of_64 rfl rfl ⟨Nat.le_refl _, Nat.le_refl _⟩ ⟨_, _, _, rfl, rfl, h⟩
        · replace h := h.2 c6
          refine z_aload_n (pc' := 44) (x := 0) dX8_of_43 rfl rfl ?_
          refine z_getr (pc' := 47) (x := 1) dX8_of_44 rfl fl_X8_10 rfl rfl rfl ?_
          refine z_getr (pc' := 50) (x := 6) dX8_of_47 rfl fl_X8_135 rfl rfl rfl ?_
          refine z_iload_n (pc' := 51) (x := x1) dX8_of_50 rfl rfl ?_
          obtain ⟨j8, ha8, hb8, h⟩ := h
          refine z_iald (pc' := 52) (x := (I3 6 j8)) (j := j8) dX8_of_51 rfl rfl (by decide) ha8 hb8 rfl ?_
          refine z_goto (pc' := 64) dX8_of_52 (by decide) ?_
          exact z_iret dX8_of_64 rfl rfl ⟨Nat.le_refl _, Nat.le_refl _⟩ ⟨_, _, _, rfl, rfl, h⟩
      · replace h := h.2 c5
        refine z_aload_n (pc' := 27) (x := 0) dX8_of_26 rfl rfl ?_
        refine z_getr (pc' := 30) (x := 20) dX8_of_27 rfl fl_X8_37 rfl rfl rfl ?_
        refine z_geti (pc' := 33) (x := (I3 20 0)) dX8_of_30 rfl fl_X8_132 rfl rfl rfl ?_
        refine z_iload_n (pc' := 34) (x := x1) dX8_of_33 rfl rfl ?_
        refine z_ishr (pc' := 35) dX8_of_34 rfl ?_
        refine z_iconst (pc' := 36) (v := 1) dX8_of_35 rfl (by decide) ?_
        refine z_iand (pc' := 37) dX8_of_36 rfl ?_
        exact z_iret dX8_of_37 rfl rfl ⟨Nat.le_refl _, Nat.le_refl _⟩ ⟨_, _, _, rfl, rfl, h⟩
    · replace h := h.2 c4
      refine z_iconst (pc' := 20) (v := -1) dX8_of_19 rfl (by decide) ?_
      exact z_iret dX8_of_20 rfl rfl ⟨Nat.le_refl _, Nat.le_refl _⟩ ⟨_, _, _, rfl, rfl, h⟩
set_option maxHeartbeats 4000000 in
set_option maxRecDepth 100000 in
theorem t_X8_feed {l : Launch} {G : zG} {d : Nat} {P : Int32 → zIM → zLM → Prop} {I : zIM} {L : zLM} {x1 : Int32}  (h : ∃ (d1 : Nat) (P1 : Int32 → zIM → zLM → Prop), d1 + 1 ≤ d ∧ zCi l G d1 mX8_isWithin [.int x1, .int (255 : Int32)] I L P1 ∧ ∀ (y1 : Int32) (I1 : zIM) (L1 : zLM), P1 y1 I1 L1 → (((y1 = 0 → (P (-1 : Int32) I1 L1)) ∧ (¬ y1 = 0 → (∃ (d3 : Nat) (P3 : Int32 → zIM → zLM → Prop), d3 + 1 ≤ d ∧ zCi l G d3 mX3_take [.ref 9, .int x1] I1 L1 P3 ∧ ∀ (y3 : Int32) (I3 : zIM) (L3 : zLM), P3 y3 I3 L3 → (P y3 I3 L3)))))) : zCi l G d mX8_feed [.ref 0, .int x1] I L P := by
  refine zCn.of (ls := [some (.ref 0), some (.int x1)]) (by decide) (Nat.le_of_ble_eq_true rfl) rfl ?_
  refine z_iload_n (pc' := 1) (x := x1) dX8_feed_0 rfl rfl ?_
  refine z_sipush (pc' := 4) (v := 255) dX8_feed_1 rfl (by decide) ?_
  obtain ⟨d1, P1, hd1, hC1, h⟩ := h
  refine z_callS (pc' := 7) (M' := mX8_isWithin) (As := [.int x1, .int (255 : Int32)]) dX8_feed_4 rfl ml_X8_75 me_X8_isWithin hC1 rfl hd1 (Nat.le_of_ble_eq_true rfl) ⟨Nat.le_refl _, Nat.le_refl _⟩ rfl ?_
  rintro _ _ ⟨y1, I1, L1, rfl, rfl, hP1⟩
  replace h := h y1 I1 L1 hP1
  refine z_if_eq (pc' := 10) (tgt := 21) dX8_feed_7 rfl (by decide) (fun c2 => ?_) (fun c2 => ?_)
  · replace h := h.1 c2
    refine z_iconst (pc' := 22) (v := -1) dX8_feed_21 rfl (by decide) ?_
    exact z_iret dX8_feed_22 rfl rfl ⟨Nat.le_refl _, Nat.le_refl _⟩ ⟨_, _, _, rfl, rfl, h⟩
  · replace h := h.2 c2
    refine z_aload_n (pc' := 11) (x := 0) dX8_feed_10 rfl rfl ?_
    refine z_getr (pc' := 14) (x := 9) dX8_feed_11 rfl fl_X8_19 rfl rfl rfl ?_
    refine z_iload_n (pc' := 15) (x := x1) dX8_feed_14 rfl rfl ?_
    obtain ⟨d3, P3, hd3, hC3, h⟩ := h
    refine z_callV (pc' := 18) (M' := mX3_take) (As := [.int x1]) dX8_feed_15 rfl ml_X8_138 me_X3_take hC3 rfl (by decide) rfl rfl hd3 (Nat.le_of_ble_eq_true rfl) ⟨Nat.le_refl _, Nat.le_refl _⟩ rfl ?_
    rintro _ _ ⟨y3, I3, L3, rfl, rfl, hP3⟩
    replace h := h y3 I3 L3 hP3
    refine z_goto (pc' := 22) dX8_feed_18 (by decide) ?_
    exact z_iret dX8_feed_22 rfl rfl ⟨Nat.le_refl _, Nat.le_refl _⟩ ⟨_, _, _, rfl, rfl, h⟩
set_option maxHeartbeats 4000000 in
set_option maxRecDepth 100000 in
theorem t_X8_law {l : Launch} {G : zG} {d : Nat} {P : Int32 → zIM → zLM → Prop} {I : zIM} {L : zLM}   (h : ∃ (d1 : Nat) (P1 : Int32 → zIM → zLM → Prop), d1 + 1 ≤ d ∧ zCi l G d1 mX3_readTape [.ref 9] I L P1 ∧ ∀ (y1 : Int32) (I1 : zIM) (L1 : zLM), P1 y1 I1 L1 → (((y1 = (-1 : Int32) → (∃ (d3 : Nat) (P3 : zIM → zLM → Prop), d3 + 1 ≤ d ∧ zCv l G d3 mX4_forgetNumbers [.ref 14] I1 L1 P3 ∧ ∀ (I3 : zIM) (L3 : zLM), P3 I3 L3 → (P (1 : Int32) I3 L3))) ∧ (¬ y1 = (-1 : Int32) → (P ((-100 : Int32) - y1) I1 L1))))) : zCi l G d mX8_law [.ref 0] I L P := by
  refine zCn.of (ls := [some (.ref 0), none]) (by decide) (Nat.le_of_ble_eq_true rfl) rfl ?_
  refine z_aload_n (pc' := 1) (x := 0) dX8_law_0 rfl rfl ?_
  refine z_getr (pc' := 4) (x := 9) dX8_law_1 rfl fl_X8_19 rfl rfl rfl ?_
  obtain ⟨d1, P1, hd1, hC1, h⟩ := h
  refine z_callV (pc' := 7) (M' := mX3_readTape) (As := []) dX8_law_4 rfl ml_X8_141 me_X3_readTape hC1 rfl (by decide) rfl rfl hd1 (Nat.le_of_ble_eq_true rfl) ⟨Nat.le_refl _, Nat.le_refl _⟩ rfl ?_
  rintro _ _ ⟨y1, I1, L1, rfl, rfl, hP1⟩
  replace h := h y1 I1 L1 hP1
  refine z_istore_n (pc' := 8) (ls' := [some (.ref 0), some (.int y1)]) dX8_law_7 rfl (by decide) rfl ?_
  refine z_iload_n (pc' := 9) (x := y1) dX8_law_8 rfl rfl ?_
  refine z_iconst (pc' := 10) (v := -1) dX8_law_9 rfl (by decide) ?_
  refine z_icmp_eq (pc' := 13) (tgt := 18) dX8_law_10 rfl (by decide) (fun c2 => ?_) (fun c2 => ?_)
  · replace h := h.1 c2
    refine z_aload_n (pc' := 19) (x := 0) dX8_law_18 rfl rfl ?_
    refine z_getr (pc' := 22) (x := 14) dX8_law_19 rfl fl_X8_28 rfl rfl rfl ?_
    obtain ⟨d3, P3, hd3, hC3, h⟩ := h
    refine z_callV (pc' := 25) (M' := mX4_forgetNumbers) (As := []) dX8_law_22 rfl ml_X8_145 me_X4_forgetNumbers hC3 rfl (by decide) rfl rfl hd3 (Nat.le_of_ble_eq_true rfl) ⟨Nat.le_refl _, Nat.le_refl _⟩ rfl ?_
    rintro _ _ ⟨I3, L3, rfl, rfl, hP3⟩
    replace h := h I3 L3 hP3
    refine z_iconst (pc' := 26) (v := 1) dX8_law_25 rfl (by decide) ?_
    exact z_iret dX8_law_26 rfl rfl ⟨Nat.le_refl _, Nat.le_refl _⟩ ⟨_, _, _, rfl, rfl, h⟩
  · replace h := h.2 c2
    refine z_bipush (pc' := 15) (v := -100) dX8_law_13 rfl (by decide) ?_
    refine z_iload_n (pc' := 16) (x := y1) dX8_law_15 rfl rfl ?_
    refine z_isub (pc' := 17) dX8_law_16 rfl ?_
    exact z_iret dX8_law_17 rfl rfl ⟨Nat.le_refl _, Nat.le_refl _⟩ ⟨_, _, _, rfl, rfl, h⟩
set_option maxHeartbeats 4000000 in
set_option maxRecDepth 100000 in
theorem t_X8_worth {l : Launch} {G : zG} {d : Nat} {P : Int64 → zIM → zLM → Prop} {I : zIM} {L : zLM} {x1 : Int32} {x2 : Int32} {x3 : Int32}  (h : ∃ (d1 : Nat) (P1 : Int32 → zIM → zLM → Prop), d1 + 1 ≤ d ∧ zCi l G d1 mX2_has [.ref 1, .int x1] I L P1 ∧ ∀ (y1 : Int32) (I1 : zIM) (L1 : zLM), P1 y1 I1 L1 → (((y1 = 0 → (P (-9223372036854775808 : Int64) I1 L1)) ∧ (¬ y1 = 0 → (∃ (d3 : Nat) (P3 : Int32 → zIM → zLM → Prop), d3 + 1 ≤ d ∧ zCi l G d3 mX8_isWithin [.int x2, .int (2 : Int32)] I1 L1 P3 ∧ ∀ (y3 : Int32) (I3 : zIM) (L3 : zLM), P3 y3 I3 L3 → (((y3 = 0 → (P (-9223372036854775808 : Int64) I3 L3)) ∧ (¬ y3 = 0 → (∃ (d5 : Nat) (P5 : Int32 → zIM → zLM → Prop), d5 + 1 ≤ d ∧ zCi l G d5 mX8_isWithin [.int x3, .int (1 : Int32)] I3 L3 P5 ∧ ∀ (y5 : Int32) (I5 : zIM) (L5 : zLM), P5 y5 I5 L5 → (((¬ y5 = 0 → (∃ (d7 : Nat) (P7 : zIM → zLM → Prop), d7 + 1 ≤ d ∧ zCv l G d7 mX4_solve [.ref 14] I5 L5 P7 ∧ ∀ (I7 : zIM) (L7 : zLM), P7 I7 L7 → (((¬ x2 = 0 → (∃ (d9 : Nat) (P9 : zIM → zLM → Prop), d9 + 1 ≤ d ∧ zCv l G d9 mX4_spread [.ref 14] I7 L7 P9 ∧ ∀ (I9 : zIM) (L9 : zLM), P9 I9 L9 → (((¬ x2 = (1 : Int32) → (∃ j11 : Nat, ((1 : Int32) <<< (x1 &&& 31)) = nI j11 ∧ j11 < 16 ∧ (∃ (d12 : Nat) (P12 : Int64 → zIM → zLM → Prop), d12 + 1 ≤ d ∧ zCl l G d12 mX4_whole [.ref 14] I9 L9 P12 ∧ ∀ (y12 : Int64) (I12 : zIM) (L12 : zLM), P12 y12 I12 L12 → (∃ (d13 : Nat) (P13 : Int64 → zIM → zLM → Prop), d13 + 1 ≤ d ∧ zCl l G d13 mX8_lowest [.long (L9 15 j11), .long y12, .int x3] I12 L12 P13 ∧ ∀ (y13 : Int64) (I13 : zIM) (L13 : zLM), P13 y13 I13 L13 → (P y13 I13 L13))))) ∧ (x2 = (1 : Int32) → (∃ (d14 : Nat) (P14 : Int64 → zIM → zLM → Prop), d14 + 1 ≤ d ∧ zCl l G d14 mX4_leftOf [.ref 14, .int x1] I9 L9 P14 ∧ ∀ (y14 : Int64) (I14 : zIM) (L14 : zLM), P14 y14 I14 L14 → (∃ (d15 : Nat) (P15 : Int64 → zIM → zLM → Prop), d15 + 1 ≤ d ∧ zCl l G d15 mX4_whole [.ref 14] I14 L14 P15 ∧ ∀ (y15 : Int64) (I15 : zIM) (L15 : zLM), P15 y15 I15 L15 → (∃ (d16 : Nat) (P16 : Int64 → zIM → zLM → Prop), d16 + 1 ≤ d ∧ zCl l G d16 mX8_lowest [.long y14, .long y15, .int x3] I15 L15 P16 ∧ ∀ (y16 : Int64) (I16 : zIM) (L16 : zLM), P16 y16 I16 L16 → (P y16 I16 L16))))))))) ∧ (x2 = 0 → (∃ (d17 : Nat) (P17 : Int64 → zIM → zLM → Prop), d17 + 1 ≤ d ∧ zCl l G d17 mX8_worthNow [.ref 0, .int x1] I7 L7 P17 ∧ ∀ (y17 : Int64) (I17 : zIM) (L17 : zLM), P17 y17 I17 L17 → (∃ (d18 : Nat) (P18 : Int64 → zIM → zLM → Prop), d18 + 1 ≤ d ∧ zCl l G d18 mX4_whole [.ref 14] I17 L17 P18 ∧ ∀ (y18 : Int64) (I18 : zIM) (L18 : zLM), P18 y18 I18 L18 → (∃ (d19 : Nat) (P19 : Int64 → zIM → zLM → Prop), d19 + 1 ≤ d ∧ zCl l G d19 mX8_lowest [.long y17, .long y18, .int x3] I18 L18 P19 ∧ ∀ (y19 : Int64) (I19 : zIM) (L19 : zLM), P19 y19 I19 L19 → (P y19 I19 L19))))))))) ∧ (y5 = 0 → (P (-9223372036854775808 : Int64) I5 L5))))))))))))) : zCl l G d mX8_worth [.ref 0, .int x1, .int x2, .int x3] I L P := by
  refine zCn.of (ls := [some (.ref 0), some (.int x1), some (.int x2), some (.int x3), none, none]) (by decide) (Nat.le_of_ble_eq_true rfl) rfl ?_
  refine z_aload_n (pc' := 1) (x := 0) dX8_worth_0 rfl rfl ?_
  refine z_getr (pc' := 4) (x := 1) dX8_worth_1 rfl fl_X8_10 rfl rfl rfl ?_
  refine z_iload_n (pc' := 5) (x := x1) dX8_worth_4 rfl rfl ?_
  obtain ⟨d1, P1, hd1, hC1, h⟩ := h
  refine z_callV (pc' := 8) (M' := mX2_has) (As := [.int x1]) dX8_worth_5 rfl ml_X8_101 me_X2_has hC1 rfl (by decide) rfl rfl hd1 (Nat.le_of_ble_eq_true rfl) ⟨Nat.le_refl _, Nat.le_refl _⟩ rfl ?_
  rintro _ _ ⟨y1, I1, L1, rfl, rfl, hP1⟩
  replace h := h y1 I1 L1 hP1
  refine z_if_eq (pc' := 11) (tgt := 27) dX8_worth_8 rfl (by decide) (fun c2 => ?_) (fun c2 => ?_)
  · replace h := h.1 c2
    refine z_ldc2 (pc' := 30) (v := -9223372036854775808) dX8_worth_27 rfl kl_X8_150 ?_
    exact z_lret dX8_worth_30 rfl ⟨Nat.le_refl _, Nat.le_refl _⟩ ⟨_, _, _, rfl, rfl, h⟩
  · replace h := h.2 c2
    refine z_iload_n (pc' := 12) (x := x2) dX8_worth_11 rfl rfl ?_
    refine z_iconst (pc' := 13) (v := 2) dX8_worth_12 rfl (by decide) ?_
    obtain ⟨d3, P3, hd3, hC3, h⟩ := h
    refine z_callS (pc' := 16) (M' := mX8_isWithin) (As := [.int x2, .int (2 : Int32)]) dX8_worth_13 rfl ml_X8_75 me_X8_isWithin hC3 rfl hd3 (Nat.le_of_ble_eq_true rfl) ⟨Nat.le_refl _, Nat.le_refl _⟩ rfl ?_
    rintro _ _ ⟨y3, I3, L3, rfl, rfl, hP3⟩
    replace h := h y3 I3 L3 hP3
    refine z_if_eq (pc' := 19) (tgt := 27) dX8_worth_16 rfl (by decide) (fun c4 => ?_) (fun c4 => ?_)
    · replace h := h.1 c4
      refine z_ldc2 (pc' := 30) (v := -9223372036854775808) dX8_worth_27 rfl kl_X8_150 ?_
      exact z_lret dX8_worth_30 rfl ⟨Nat.le_refl _, Nat.le_refl _⟩ ⟨_, _, _, rfl, rfl, h⟩
    · replace h := h.2 c4
      refine z_iload_n (pc' := 20) (x := x3) dX8_worth_19 rfl rfl ?_
      refine z_iconst (pc' := 21) (v := 1) dX8_worth_20 rfl (by decide) ?_
      obtain ⟨d5, P5, hd5, hC5, h⟩ := h
      refine z_callS (pc' := 24) (M' := mX8_isWithin) (As := [.int x3, .int (1 : Int32)]) dX8_worth_21 rfl ml_X8_75 me_X8_isWithin hC5 rfl hd5 (Nat.le_of_ble_eq_true rfl) ⟨Nat.le_refl _, Nat.le_refl _⟩ rfl ?_
      rintro _ _ ⟨y5, I5, L5, rfl, rfl, hP5⟩
      replace h := h y5 I5 L5 hP5
      refine z_if_ne (pc' := 27) (tgt := 31) dX8_worth_24 rfl (by decide) (fun c6 => ?_) (fun c6 => ?_)
      · replace h := h.1 c6
        refine z_aload_n (pc' := 32) (x := 0) dX8_worth_31 rfl rfl ?_
        refine z_getr (pc' := 35) (x := 14) dX8_worth_32 rfl fl_X8_28 rfl rfl rfl ?_
        obtain ⟨d7, P7, hd7, hC7, h⟩ := h
        refine z_callV (pc' := 38) (M' := mX4_solve) (As := []) dX8_worth_35 rfl ml_X8_152 me_X4_solve hC7 rfl (by decide) rfl rfl hd7 (Nat.le_of_ble_eq_true rfl) ⟨Nat.le_refl _, Nat.le_refl _⟩ rfl ?_
        rintro _ _ ⟨I7, L7, rfl, rfl, hP7⟩
        replace h := h I7 L7 hP7
        refine z_iload_n (pc' := 39) (x := x2) dX8_worth_38 rfl rfl ?_
        refine z_if_ne (pc' := 42) (tgt := 59) dX8_worth_39 rfl (by decide) (fun c8 => ?_) (fun c8 => ?_)
        · replace h := h.1 c8
          refine z_aload_n (pc' := 60) (x := 0) dX8_worth_59 rfl rfl ?_
          refine z_getr (pc' := 63) (x := 14) dX8_worth_60 rfl fl_X8_28 rfl rfl rfl ?_
          obtain ⟨d9, P9, hd9, hC9, h⟩ := h
          refine z_callV (pc' := 66) (M' := mX4_spread) (As := []) dX8_worth_63 rfl ml_X8_167 me_X4_spread hC9 rfl (by decide) rfl rfl hd9 (Nat.le_of_ble_eq_true rfl) ⟨Nat.le_refl _, Nat.le_refl _⟩ rfl ?_
          rintro _ _ ⟨I9, L9, rfl, rfl, hP9⟩
          replace h := h I9 L9 hP9
          refine z_iload_n (pc' := 67) (x := x2) dX8_worth_66 rfl rfl ?_
          refine z_iconst (pc' := 68) (v := 1) dX8_worth_67 rfl (by decide) ?_
          refine z_icmp_ne (pc' := 71) (tgt := 82) dX8_worth_68 rfl (by decide) (fun c10 => ?_) (fun c10 => ?_)
          · replace h := h.1 c10
            refine z_aload_n (pc' := 83) (x := 0) dX8_worth_82 rfl rfl ?_
            refine z_getr (pc' := 86) (x := 14) dX8_worth_83 rfl fl_X8_28 rfl rfl rfl ?_
            refine z_getr (pc' := 89) (x := 15) dX8_worth_86 rfl fl_X8_173 rfl rfl rfl ?_
            refine z_iconst (pc' := 90) (v := 1) dX8_worth_89 rfl (by decide) ?_
            refine z_iload_n (pc' := 91) (x := x1) dX8_worth_90 rfl rfl ?_
            refine z_ishl (pc' := 92) dX8_worth_91 rfl ?_
            obtain ⟨j11, ha11, hb11, h⟩ := h
            refine z_lald (pc' := 93) (x := (L9 15 j11)) (j := j11) dX8_worth_92 rfl rfl (by decide) ha11 hb11 rfl ?_
            refine z_lstore (pc' := 95) (ls' := [some (.ref 0), some (.int x1), some (.int x2), some (.int x3), some (.long (L9 15 j11)), none]) dX8_worth_93 rfl (by decide) rfl ?_
            refine z_lload (pc' := 97) (x := (L9 15 j11)) dX8_worth_95 rfl rfl ?_
            refine z_aload_n (pc' := 98) (x := 0) dX8_worth_97 rfl rfl ?_
            refine z_getr (pc' := 101) (x := 14) dX8_worth_98 rfl fl_X8_28 rfl rfl rfl ?_
            obtain ⟨d12, P12, hd12, hC12, h⟩ := h
            refine z_callV (pc' := 104) (M' := mX4_whole) (As := []) dX8_worth_101 rfl ml_X8_159 me_X4_whole hC12 rfl (by decide) rfl rfl hd12 (Nat.le_of_ble_eq_true rfl) ⟨Nat.le_refl _, Nat.le_refl _⟩ rfl ?_
            rintro _ _ ⟨y12, I12, L12, rfl, rfl, hP12⟩
            replace h := h y12 I12 L12 hP12
            refine z_iload_n (pc' := 105) (x := x3) dX8_worth_104 rfl rfl ?_
            obtain ⟨d13, P13, hd13, hC13, h⟩ := h
            refine z_callS (pc' := 108) (M' := mX8_lowest) (As := [.long (L9 15 j11), .long y12, .int x3]) dX8_worth_105 rfl ml_X8_163 me_X8_lowest hC13 rfl hd13 (Nat.le_of_ble_eq_true rfl) ⟨Nat.le_refl _, Nat.le_refl _⟩ rfl ?_
            rintro _ _ ⟨y13, I13, L13, rfl, rfl, hP13⟩
            replace h := h y13 I13 L13 hP13
            exact z_lret dX8_worth_108 rfl ⟨Nat.le_refl _, Nat.le_refl _⟩ ⟨_, _, _, rfl, rfl, h⟩
          · replace h := h.2 c10
            refine z_aload_n (pc' := 72) (x := 0) dX8_worth_71 rfl rfl ?_
            refine z_getr (pc' := 75) (x := 14) dX8_worth_72 rfl fl_X8_28 rfl rfl rfl ?_
            refine z_iload_n (pc' := 76) (x := x1) dX8_worth_75 rfl rfl ?_
            obtain ⟨d14, P14, hd14, hC14, h⟩ := h
            refine z_callV (pc' := 79) (M' := mX4_leftOf) (As := [.int x1]) dX8_worth_76 rfl ml_X8_170 me_X4_leftOf hC14 rfl (by decide) rfl rfl hd14 (Nat.le_of_ble_eq_true rfl) ⟨Nat.le_refl _, Nat.le_refl _⟩ rfl ?_
            rintro _ _ ⟨y14, I14, L14, rfl, rfl, hP14⟩
            replace h := h y14 I14 L14 hP14
            refine z_goto (pc' := 93) dX8_worth_79 (by decide) ?_
            refine z_lstore (pc' := 95) (ls' := [some (.ref 0), some (.int x1), some (.int x2), some (.int x3), some (.long y14), none]) dX8_worth_93 rfl (by decide) rfl ?_
            refine z_lload (pc' := 97) (x := y14) dX8_worth_95 rfl rfl ?_
            refine z_aload_n (pc' := 98) (x := 0) dX8_worth_97 rfl rfl ?_
            refine z_getr (pc' := 101) (x := 14) dX8_worth_98 rfl fl_X8_28 rfl rfl rfl ?_
            obtain ⟨d15, P15, hd15, hC15, h⟩ := h
            refine z_callV (pc' := 104) (M' := mX4_whole) (As := []) dX8_worth_101 rfl ml_X8_159 me_X4_whole hC15 rfl (by decide) rfl rfl hd15 (Nat.le_of_ble_eq_true rfl) ⟨Nat.le_refl _, Nat.le_refl _⟩ rfl ?_
            rintro _ _ ⟨y15, I15, L15, rfl, rfl, hP15⟩
            replace h := h y15 I15 L15 hP15
            refine z_iload_n (pc' := 105) (x := x3) dX8_worth_104 rfl rfl ?_
            obtain ⟨d16, P16, hd16, hC16, h⟩ := h
            refine z_callS (pc' := 108) (M' := mX8_lowest) (As := [.long y14, .long y15, .int x3]) dX8_worth_105 rfl ml_X8_163 me_X8_lowest hC16 rfl hd16 (Nat.le_of_ble_eq_true rfl) ⟨Nat.le_refl _, Nat.le_refl _⟩ rfl ?_
            rintro _ _ ⟨y16, I16, L16, rfl, rfl, hP16⟩
            replace h := h y16 I16 L16 hP16
            exact z_lret dX8_worth_108 rfl ⟨Nat.le_refl _, Nat.le_refl _⟩ ⟨_, _, _, rfl, rfl, h⟩
        · replace h := h.2 c8
          refine z_aload_n (pc' := 43) (x := 0) dX8_worth_42 rfl rfl ?_
          refine z_iload_n (pc' := 44) (x := x1) dX8_worth_43 rfl rfl ?_
          obtain ⟨d17, P17, hd17, hC17, h⟩ := h
          refine z_callV (pc' := 47) (M' := mX8_worthNow) (As := [.int x1]) dX8_worth_44 rfl ml_X8_155 me_X8_worthNow hC17 rfl (by decide) rfl rfl hd17 (Nat.le_of_ble_eq_true rfl) ⟨Nat.le_refl _, Nat.le_refl _⟩ rfl ?_
          rintro _ _ ⟨y17, I17, L17, rfl, rfl, hP17⟩
          replace h := h y17 I17 L17 hP17
          refine z_aload_n (pc' := 48) (x := 0) dX8_worth_47 rfl rfl ?_
          refine z_getr (pc' := 51) (x := 14) dX8_worth_48 rfl fl_X8_28 rfl rfl rfl ?_
          obtain ⟨d18, P18, hd18, hC18, h⟩ := h
          refine z_callV (pc' := 54) (M' := mX4_whole) (As := []) dX8_worth_51 rfl ml_X8_159 me_X4_whole hC18 rfl (by decide) rfl rfl hd18 (Nat.le_of_ble_eq_true rfl) ⟨Nat.le_refl _, Nat.le_refl _⟩ rfl ?_
          rintro _ _ ⟨y18, I18, L18, rfl, rfl, hP18⟩
          replace h := h y18 I18 L18 hP18
          refine z_iload_n (pc' := 55) (x := x3) dX8_worth_54 rfl rfl ?_
          obtain ⟨d19, P19, hd19, hC19, h⟩ := h
          refine z_callS (pc' := 58) (M' := mX8_lowest) (As := [.long y17, .long y18, .int x3]) dX8_worth_55 rfl ml_X8_163 me_X8_lowest hC19 rfl hd19 (Nat.le_of_ble_eq_true rfl) ⟨Nat.le_refl _, Nat.le_refl _⟩ rfl ?_
          rintro _ _ ⟨y19, I19, L19, rfl, rfl, hP19⟩
          replace h := h y19 I19 L19 hP19
          exact z_lret dX8_worth_58 rfl ⟨Nat.le_refl _, Nat.le_refl _⟩ ⟨_, _, _, rfl, rfl, h⟩
      · replace h := h.2 c6
        refine z_ldc2 (pc' := 30) (v := -9223372036854775808) dX8_worth_27 rfl kl_X8_150 ?_
        exact z_lret dX8_worth_30 rfl ⟨Nat.le_refl _, Nat.le_refl _⟩ ⟨_, _, _, rfl, rfl, h⟩
set_option maxHeartbeats 4000000 in
set_option maxRecDepth 100000 in
theorem t_X8_just {l : Launch} {G : zG} {d : Nat} {P : Int64 → zIM → zLM → Prop} {I : zIM} {L : zLM} {x1 : Int32} {x2 : Int32}  (h : ((x1 < (-1 : Int32) → (P (-9223372036854775808 : Int64) I L)) ∧ (¬ x1 < (-1 : Int32) → (∃ (d2 : Nat) (P2 : Int32 → zIM → zLM → Prop), d2 + 1 ≤ d ∧ zCi l G d2 mX2_all [.ref 1] I L P2 ∧ ∀ (y2 : Int32) (I2 : zIM) (L2 : zLM), P2 y2 I2 L2 → (((y2 < x1 → (P (-9223372036854775808 : Int64) I2 L2)) ∧ (¬ y2 < x1 → (∃ (d4 : Nat) (P4 : Int32 → zIM → zLM → Prop), d4 + 1 ≤ d ∧ zCi l G d4 mX8_isWithin [.int x2, .int (1 : Int32)] I2 L2 P4 ∧ ∀ (y4 : Int32) (I4 : zIM) (L4 : zLM), P4 y4 I4 L4 → (((¬ y4 = 0 → (∃ (d6 : Nat) (P6 : zIM → zLM → Prop), d6 + 1 ≤ d ∧ zCv l G d6 mX4_solve [.ref 14] I4 L4 P6 ∧ ∀ (I6 : zIM) (L6 : zLM), P6 I6 L6 → (∃ (d7 : Nat) (P7 : zIM → zLM → Prop), d7 + 1 ≤ d ∧ zCv l G d7 mX4_spread [.ref 14] I6 L6 P7 ∧ ∀ (I7 : zIM) (L7 : zLM), P7 I7 L7 → (((¬ x1 = (-1 : Int32) → (∃ j9 : Nat, x1 = nI j9 ∧ j9 < 16 ∧ (∃ (d10 : Nat) (P10 : Int64 → zIM → zLM → Prop), d10 + 1 ≤ d ∧ zCl l G d10 mX4_whole [.ref 14] I7 L7 P10 ∧ ∀ (y10 : Int64) (I10 : zIM) (L10 : zLM), P10 y10 I10 L10 → (∃ (d11 : Nat) (P11 : Int64 → zIM → zLM → Prop), d11 + 1 ≤ d ∧ zCl l G d11 mX8_lowest [.long (L7 15 j9), .long y10, .int x2] I10 L10 P11 ∧ ∀ (y11 : Int64) (I11 : zIM) (L11 : zLM), P11 y11 I11 L11 → (P y11 I11 L11))))) ∧ (x1 = (-1 : Int32) → (∃ (d12 : Nat) (P12 : Int64 → zIM → zLM → Prop), d12 + 1 ≤ d ∧ zCl l G d12 mX4_whole [.ref 14] I7 L7 P12 ∧ ∀ (y12 : Int64) (I12 : zIM) (L12 : zLM), P12 y12 I12 L12 → (∃ (d13 : Nat) (P13 : Int64 → zIM → zLM → Prop), d13 + 1 ≤ d ∧ zCl l G d13 mX8_lowest [.long (L7 14 1), .long y12, .int x2] I12 L12 P13 ∧ ∀ (y13 : Int64) (I13 : zIM) (L13 : zLM), P13 y13 I13 L13 → (P y13 I13 L13))))))))) ∧ (y4 = 0 → (P (-9223372036854775808 : Int64) I4 L4)))))))))))) : zCl l G d mX8_just [.ref 0, .int x1, .int x2] I L P := by
  refine zCn.of (ls := [some (.ref 0), some (.int x1), some (.int x2)]) (by decide) (Nat.le_of_ble_eq_true rfl) rfl ?_
  refine z_iload_n (pc' := 1) (x := x1) dX8_just_0 rfl rfl ?_
  refine z_iconst (pc' := 2) (v := -1) dX8_just_1 rfl (by decide) ?_
  refine z_icmp_lt (pc' := 5) (tgt := 24) dX8_just_2 rfl (by decide) (fun c1 => ?_) (fun c1 => ?_)
  · replace h := h.1 c1
    refine z_ldc2 (pc' := 27) (v := -9223372036854775808) dX8_just_24 rfl kl_X8_150 ?_
    exact z_lret dX8_just_27 rfl ⟨Nat.le_refl _, Nat.le_refl _⟩ ⟨_, _, _, rfl, rfl, h⟩
  · replace h := h.2 c1
    refine z_iload_n (pc' := 6) (x := x1) dX8_just_5 rfl rfl ?_
    refine z_aload_n (pc' := 7) (x := 0) dX8_just_6 rfl rfl ?_
    refine z_getr (pc' := 10) (x := 1) dX8_just_7 rfl fl_X8_10 rfl rfl rfl ?_
    obtain ⟨d2, P2, hd2, hC2, h⟩ := h
    refine z_callV (pc' := 13) (M' := mX2_all) (As := []) dX8_just_10 rfl ml_X8_176 me_X2_all hC2 rfl (by decide) rfl rfl hd2 (Nat.le_of_ble_eq_true rfl) ⟨Nat.le_refl _, Nat.le_refl _⟩ rfl ?_
    rintro _ _ ⟨y2, I2, L2, rfl, rfl, hP2⟩
    replace h := h y2 I2 L2 hP2
    refine z_icmp_gt (pc' := 16) (tgt := 24) dX8_just_13 rfl (by decide) (fun c3 => ?_) (fun c3 => ?_)
    · replace h := h.1 c3
      refine z_ldc2 (pc' := 27) (v := -9223372036854775808) dX8_just_24 rfl kl_X8_150 ?_
      exact z_lret dX8_just_27 rfl ⟨Nat.le_refl _, Nat.le_refl _⟩ ⟨_, _, _, rfl, rfl, h⟩
    · replace h := h.2 c3
      refine z_iload_n (pc' := 17) (x := x2) dX8_just_16 rfl rfl ?_
      refine z_iconst (pc' := 18) (v := 1) dX8_just_17 rfl (by decide) ?_
      obtain ⟨d4, P4, hd4, hC4, h⟩ := h
      refine z_callS (pc' := 21) (M' := mX8_isWithin) (As := [.int x2, .int (1 : Int32)]) dX8_just_18 rfl ml_X8_75 me_X8_isWithin hC4 rfl hd4 (Nat.le_of_ble_eq_true rfl) ⟨Nat.le_refl _, Nat.le_refl _⟩ rfl ?_
      rintro _ _ ⟨y4, I4, L4, rfl, rfl, hP4⟩
      replace h := h y4 I4 L4 hP4
      refine z_if_ne (pc' := 24) (tgt := 28) dX8_just_21 rfl (by decide) (fun c5 => ?_) (fun c5 => ?_)
      · replace h := h.1 c5
        refine z_aload_n (pc' := 29) (x := 0) dX8_just_28 rfl rfl ?_
        refine z_getr (pc' := 32) (x := 14) dX8_just_29 rfl fl_X8_28 rfl rfl rfl ?_
        obtain ⟨d6, P6, hd6, hC6, h⟩ := h
        refine z_callV (pc' := 35) (M' := mX4_solve) (As := []) dX8_just_32 rfl ml_X8_152 me_X4_solve hC6 rfl (by decide) rfl rfl hd6 (Nat.le_of_ble_eq_true rfl) ⟨Nat.le_refl _, Nat.le_refl _⟩ rfl ?_
        rintro _ _ ⟨I6, L6, rfl, rfl, hP6⟩
        replace h := h I6 L6 hP6
        refine z_aload_n (pc' := 36) (x := 0) dX8_just_35 rfl rfl ?_
        refine z_getr (pc' := 39) (x := 14) dX8_just_36 rfl fl_X8_28 rfl rfl rfl ?_
        obtain ⟨d7, P7, hd7, hC7, h⟩ := h
        refine z_callV (pc' := 42) (M' := mX4_spread) (As := []) dX8_just_39 rfl ml_X8_167 me_X4_spread hC7 rfl (by decide) rfl rfl hd7 (Nat.le_of_ble_eq_true rfl) ⟨Nat.le_refl _, Nat.le_refl _⟩ rfl ?_
        rintro _ _ ⟨I7, L7, rfl, rfl, hP7⟩
        replace h := h I7 L7 hP7
        refine z_iload_n (pc' := 43) (x := x1) dX8_just_42 rfl rfl ?_
        refine z_iconst (pc' := 44) (v := -1) dX8_just_43 rfl (by decide) ?_
        refine z_icmp_ne (pc' := 47) (tgt := 57) dX8_just_44 rfl (by decide) (fun c8 => ?_) (fun c8 => ?_)
        · replace h := h.1 c8
          refine z_aload_n (pc' := 58) (x := 0) dX8_just_57 rfl rfl ?_
          refine z_getr (pc' := 61) (x := 14) dX8_just_58 rfl fl_X8_28 rfl rfl rfl ?_
          refine z_getr (pc' := 64) (x := 15) dX8_just_61 rfl fl_X8_173 rfl rfl rfl ?_
          refine z_iload_n (pc' := 65) (x := x1) dX8_just_64 rfl rfl ?_
          obtain ⟨j9, ha9, hb9, h⟩ := h
          refine z_lald (pc' := 66) (x := (L7 15 j9)) (j := j9) dX8_just_65 rfl rfl (by decide) ha9 hb9 rfl ?_
          refine z_aload_n (pc' := 67) (x := 0) dX8_just_66 rfl rfl ?_
          refine z_getr (pc' := 70) (x := 14) dX8_just_67 rfl fl_X8_28 rfl rfl rfl ?_
          obtain ⟨d10, P10, hd10, hC10, h⟩ := h
          refine z_callV (pc' := 73) (M' := mX4_whole) (As := []) dX8_just_70 rfl ml_X8_159 me_X4_whole hC10 rfl (by decide) rfl rfl hd10 (Nat.le_of_ble_eq_true rfl) ⟨Nat.le_refl _, Nat.le_refl _⟩ rfl ?_
          rintro _ _ ⟨y10, I10, L10, rfl, rfl, hP10⟩
          replace h := h y10 I10 L10 hP10
          refine z_iload_n (pc' := 74) (x := x2) dX8_just_73 rfl rfl ?_
          obtain ⟨d11, P11, hd11, hC11, h⟩ := h
          refine z_callS (pc' := 77) (M' := mX8_lowest) (As := [.long (L7 15 j9), .long y10, .int x2]) dX8_just_74 rfl ml_X8_163 me_X8_lowest hC11 rfl hd11 (Nat.le_of_ble_eq_true rfl) ⟨Nat.le_refl _, Nat.le_refl _⟩ rfl ?_
          rintro _ _ ⟨y11, I11, L11, rfl, rfl, hP11⟩
          replace h := h y11 I11 L11 hP11
          exact z_lret dX8_just_77 rfl ⟨Nat.le_refl _, Nat.le_refl _⟩ ⟨_, _, _, rfl, rfl, h⟩
        · replace h := h.2 c8
          refine z_aload_n (pc' := 48) (x := 0) dX8_just_47 rfl rfl ?_
          refine z_getr (pc' := 51) (x := 14) dX8_just_48 rfl fl_X8_28 rfl rfl rfl ?_
          refine z_getl (pc' := 54) (x := (L7 14 1)) dX8_just_51 rfl fl_X8_179 rfl rfl rfl ?_
          refine z_goto (pc' := 66) dX8_just_54 (by decide) ?_
          refine z_aload_n (pc' := 67) (x := 0) dX8_just_66 rfl rfl ?_
          refine z_getr (pc' := 70) (x := 14) dX8_just_67 rfl fl_X8_28 rfl rfl rfl ?_
          obtain ⟨d12, P12, hd12, hC12, h⟩ := h
          refine z_callV (pc' := 73) (M' := mX4_whole) (As := []) dX8_just_70 rfl ml_X8_159 me_X4_whole hC12 rfl (by decide) rfl rfl hd12 (Nat.le_of_ble_eq_true rfl) ⟨Nat.le_refl _, Nat.le_refl _⟩ rfl ?_
          rintro _ _ ⟨y12, I12, L12, rfl, rfl, hP12⟩
          replace h := h y12 I12 L12 hP12
          refine z_iload_n (pc' := 74) (x := x2) dX8_just_73 rfl rfl ?_
          obtain ⟨d13, P13, hd13, hC13, h⟩ := h
          refine z_callS (pc' := 77) (M' := mX8_lowest) (As := [.long (L7 14 1), .long y12, .int x2]) dX8_just_74 rfl ml_X8_163 me_X8_lowest hC13 rfl hd13 (Nat.le_of_ble_eq_true rfl) ⟨Nat.le_refl _, Nat.le_refl _⟩ rfl ?_
          rintro _ _ ⟨y13, I13, L13, rfl, rfl, hP13⟩
          replace h := h y13 I13 L13 hP13
          exact z_lret dX8_just_77 rfl ⟨Nat.le_refl _, Nat.le_refl _⟩ ⟨_, _, _, rfl, rfl, h⟩
      · replace h := h.2 c5
        refine z_ldc2 (pc' := 27) (v := -9223372036854775808) dX8_just_24 rfl kl_X8_150 ?_
        exact z_lret dX8_just_27 rfl ⟨Nat.le_refl _, Nat.le_refl _⟩ ⟨_, _, _, rfl, rfl, h⟩
set_option maxHeartbeats 4000000 in
set_option maxRecDepth 100000 in
theorem t_X8_aims {l : Launch} {G : zG} {d : Nat} {P : Int32 → zIM → zLM → Prop} {I : zIM} {L : zLM} {x1 : Int32} {x2 : Int32} {x3 : Int32}  (h : ∃ (d1 : Nat) (P1 : Int32 → zIM → zLM → Prop), d1 + 1 ≤ d ∧ zCi l G d1 mX2_has [.ref 1, .int x1] I L P1 ∧ ∀ (y1 : Int32) (I1 : zIM) (L1 : zLM), P1 y1 I1 L1 → (((y1 = 0 → (P (-1 : Int32) I1 L1)) ∧ (¬ y1 = 0 → (∃ (d3 : Nat) (P3 : Int32 → zIM → zLM → Prop), d3 + 1 ≤ d ∧ zCi l G d3 mX2_all [.ref 1] I1 L1 P3 ∧ ∀ (y3 : Int32) (I3 : zIM) (L3 : zLM), P3 y3 I3 L3 → (∃ (d4 : Nat) (P4 : Int32 → zIM → zLM → Prop), d4 + 1 ≤ d ∧ zCi l G d4 mX8_isWithin [.int x2, .int y3] I3 L3 P4 ∧ ∀ (y4 : Int32) (I4 : zIM) (L4 : zLM), P4 y4 I4 L4 → (((y4 = 0 → (P (-1 : Int32) I4 L4)) ∧ (¬ y4 = 0 → (∃ (d6 : Nat) (P6 : Int32 → zIM → zLM → Prop), d6 + 1 ≤ d ∧ zCi l G d6 mX8_isWithin [.int x3, .int ((I4 1 7) - (1 : Int32))] I4 L4 P6 ∧ ∀ (y6 : Int32) (I6 : zIM) (L6 : zLM), P6 y6 I6 L6 → (((¬ y6 = 0 → (((¬ ((x2 >>> (x1 &&& 31)) &&& (1 : Int32)) = 0 → (∃ (d9 : Nat) (P9 : zIM → zLM → Prop), d9 + 1 ≤ d ∧ zCv l G d9 mX4_solve [.ref 14] I6 L6 P9 ∧ ∀ (I9 : zIM) (L9 : zLM), P9 I9 L9 → (∃ (d10 : Nat) (P10 : Int32 → zIM → zLM → Prop), d10 + 1 ≤ d ∧ zCi l G d10 mX4_aimAt [.ref 14, .int x3, .int x1, .int x2] I9 L9 P10 ∧ ∀ (y10 : Int32) (I10 : zIM) (L10 : zLM), P10 y10 I10 L10 → (P y10 I10 L10)))) ∧ (((x2 >>> (x1 &&& 31)) &&& (1 : Int32)) = 0 → (P (-1 : Int32) I6 L6))))) ∧ (y6 = 0 → (P (-1 : Int32) I6 L6)))))))))))))) : zCi l G d mX8_aims [.ref 0, .int x1, .int x2, .int x3] I L P := by
  refine zCn.of (ls := [some (.ref 0), some (.int x1), some (.int x2), some (.int x3)]) (by decide) (Nat.le_of_ble_eq_true rfl) rfl ?_
  refine z_aload_n (pc' := 1) (x := 0) dX8_aims_0 rfl rfl ?_
  refine z_getr (pc' := 4) (x := 1) dX8_aims_1 rfl fl_X8_10 rfl rfl rfl ?_
  refine z_iload_n (pc' := 5) (x := x1) dX8_aims_4 rfl rfl ?_
  obtain ⟨d1, P1, hd1, hC1, h⟩ := h
  refine z_callV (pc' := 8) (M' := mX2_has) (As := [.int x1]) dX8_aims_5 rfl ml_X8_101 me_X2_has hC1 rfl (by decide) rfl rfl hd1 (Nat.le_of_ble_eq_true rfl) ⟨Nat.le_refl _, Nat.le_refl _⟩ rfl ?_
  rintro _ _ ⟨y1, I1, L1, rfl, rfl, hP1⟩
  replace h := h y1 I1 L1 hP1
  refine z_if_eq (pc' := 11) (tgt := 41) dX8_aims_8 rfl (by decide) (fun c2 => ?_) (fun c2 => ?_)
  · replace h := h.1 c2
    refine z_iconst (pc' := 42) (v := -1) dX8_aims_41 rfl (by decide) ?_
    exact z_iret dX8_aims_42 rfl rfl ⟨Nat.le_refl _, Nat.le_refl _⟩ ⟨_, _, _, rfl, rfl, h⟩
  · replace h := h.2 c2
    refine z_iload_n (pc' := 12) (x := x2) dX8_aims_11 rfl rfl ?_
    refine z_aload_n (pc' := 13) (x := 0) dX8_aims_12 rfl rfl ?_
    refine z_getr (pc' := 16) (x := 1) dX8_aims_13 rfl fl_X8_10 rfl rfl rfl ?_
    obtain ⟨d3, P3, hd3, hC3, h⟩ := h
    refine z_callV (pc' := 19) (M' := mX2_all) (As := []) dX8_aims_16 rfl ml_X8_176 me_X2_all hC3 rfl (by decide) rfl rfl hd3 (Nat.le_of_ble_eq_true rfl) ⟨Nat.le_refl _, Nat.le_refl _⟩ rfl ?_
    rintro _ _ ⟨y3, I3, L3, rfl, rfl, hP3⟩
    replace h := h y3 I3 L3 hP3
    obtain ⟨d4, P4, hd4, hC4, h⟩ := h
    refine z_callS (pc' := 22) (M' := mX8_isWithin) (As := [.int x2, .int y3]) dX8_aims_19 rfl ml_X8_75 me_X8_isWithin hC4 rfl hd4 (Nat.le_of_ble_eq_true rfl) ⟨Nat.le_refl _, Nat.le_refl _⟩ rfl ?_
    rintro _ _ ⟨y4, I4, L4, rfl, rfl, hP4⟩
    replace h := h y4 I4 L4 hP4
    refine z_if_eq (pc' := 25) (tgt := 41) dX8_aims_22 rfl (by decide) (fun c5 => ?_) (fun c5 => ?_)
    · replace h := h.1 c5
      refine z_iconst (pc' := 42) (v := -1) dX8_aims_41 rfl (by decide) ?_
      exact z_iret dX8_aims_42 rfl rfl ⟨Nat.le_refl _, Nat.le_refl _⟩ ⟨_, _, _, rfl, rfl, h⟩
    · replace h := h.2 c5
      refine z_iload_n (pc' := 26) (x := x3) dX8_aims_25 rfl rfl ?_
      refine z_aload_n (pc' := 27) (x := 0) dX8_aims_26 rfl rfl ?_
      refine z_getr (pc' := 30) (x := 1) dX8_aims_27 rfl fl_X8_10 rfl rfl rfl ?_
      refine z_geti (pc' := 33) (x := (I4 1 7)) dX8_aims_30 rfl fl_X8_126 rfl rfl rfl ?_
      refine z_iconst (pc' := 34) (v := 1) dX8_aims_33 rfl (by decide) ?_
      refine z_isub (pc' := 35) dX8_aims_34 rfl ?_
      obtain ⟨d6, P6, hd6, hC6, h⟩ := h
      refine z_callS (pc' := 38) (M' := mX8_isWithin) (As := [.int x3, .int ((I4 1 7) - (1 : Int32))]) dX8_aims_35 rfl ml_X8_75 me_X8_isWithin hC6 rfl hd6 (Nat.le_of_ble_eq_true rfl) ⟨Nat.le_refl _, Nat.le_refl _⟩ rfl ?_
      rintro _ _ ⟨y6, I6, L6, rfl, rfl, hP6⟩
      replace h := h y6 I6 L6 hP6
      refine z_if_ne (pc' := 41) (tgt := 43) dX8_aims_38 rfl (by decide) (fun c7 => ?_) (fun c7 => ?_)
      · replace h := h.1 c7
        refine z_iload_n (pc' := 44) (x := x2) dX8_aims_43 rfl rfl ?_
        refine z_iload_n (pc' := 45) (x := x1) dX8_aims_44 rfl rfl ?_
        refine z_ishr (pc' := 46) dX8_aims_45 rfl ?_
        refine z_iconst (pc' := 47) (v := 1) dX8_aims_46 rfl (by decide) ?_
        refine z_iand (pc' := 48) dX8_aims_47 rfl ?_
        refine z_if_ne (pc' := 51) (tgt := 53) dX8_aims_48 rfl (by decide) (fun c8 => ?_) (fun c8 => ?_)
        · replace h := h.1 c8
          refine z_aload_n (pc' := 54) (x := 0) dX8_aims_53 rfl rfl ?_
          refine z_getr (pc' := 57) (x := 14) dX8_aims_54 rfl fl_X8_28 rfl rfl rfl ?_
          obtain ⟨d9, P9, hd9, hC9, h⟩ := h
          refine z_callV (pc' := 60) (M' := mX4_solve) (As := []) dX8_aims_57 rfl ml_X8_152 me_X4_solve hC9 rfl (by decide) rfl rfl hd9 (Nat.le_of_ble_eq_true rfl) ⟨Nat.le_refl _, Nat.le_refl _⟩ rfl ?_
          rintro _ _ ⟨I9, L9, rfl, rfl, hP9⟩
          replace h := h I9 L9 hP9
          refine z_aload_n (pc' := 61) (x := 0) dX8_aims_60 rfl rfl ?_
          refine z_getr (pc' := 64) (x := 14) dX8_aims_61 rfl fl_X8_28 rfl rfl rfl ?_
          refine z_iload_n (pc' := 65) (x := x3) dX8_aims_64 rfl rfl ?_
          refine z_iload_n (pc' := 66) (x := x1) dX8_aims_65 rfl rfl ?_
          refine z_iload_n (pc' := 67) (x := x2) dX8_aims_66 rfl rfl ?_
          obtain ⟨d10, P10, hd10, hC10, h⟩ := h
          refine z_callV (pc' := 70) (M' := mX4_aimAt) (As := [.int x3, .int x1, .int x2]) dX8_aims_67 rfl ml_X8_183 me_X4_aimAt hC10 rfl (by decide) rfl rfl hd10 (Nat.le_of_ble_eq_true rfl) ⟨Nat.le_refl _, Nat.le_refl _⟩ rfl ?_
          rintro _ _ ⟨y10, I10, L10, rfl, rfl, hP10⟩
          replace h := h y10 I10 L10 hP10
          exact z_iret dX8_aims_70 rfl rfl ⟨Nat.le_refl _, Nat.le_refl _⟩ ⟨_, _, _, rfl, rfl, h⟩
        · replace h := h.2 c8
          refine z_iconst (pc' := 52) (v := -1) dX8_aims_51 rfl (by decide) ?_
          exact z_iret dX8_aims_52 rfl rfl ⟨Nat.le_refl _, Nat.le_refl _⟩ ⟨_, _, _, rfl, rfl, h⟩
      · replace h := h.2 c7
        refine z_iconst (pc' := 42) (v := -1) dX8_aims_41 rfl (by decide) ?_
        exact z_iret dX8_aims_42 rfl rfl ⟨Nat.le_refl _, Nat.le_refl _⟩ ⟨_, _, _, rfl, rfl, h⟩
set_option maxHeartbeats 4000000 in
set_option maxRecDepth 100000 in
theorem t_X8_begin {l : Launch} {G : zG} {d : Nat} {P : Int32 → zIM → zLM → Prop} {I : zIM} {L : zLM} {x1 : Int32}  (h : ∃ (d1 : Nat) (P1 : Int32 → zIM → zLM → Prop), d1 + 1 ≤ d ∧ zCi l G d1 mX2_has [.ref 1, .int x1] I L P1 ∧ ∀ (y1 : Int32) (I1 : zIM) (L1 : zLM), P1 y1 I1 L1 → (((¬ y1 = 0 → (∃ (d3 : Nat) (P3 : zIM → zLM → Prop), d3 + 1 ≤ d ∧ zCv l G d3 mX4_solve [.ref 14] I1 L1 P3 ∧ ∀ (I3 : zIM) (L3 : zLM), P3 I3 L3 → (K_X8_begin_24 l G d P I3 L3 x1 (0 : Int32) (1 : Int32)))) ∧ (y1 = 0 → (P (-1 : Int32) I1 L1))))) : zCi l G d mX8_begin [.ref 0, .int x1] I L P := by
  refine zCn.of (ls := [some (.ref 0), some (.int x1), none, none]) (by decide) (Nat.le_of_ble_eq_true rfl) rfl ?_
  refine z_aload_n (pc' := 1) (x := 0) dX8_begin_0 rfl rfl ?_
  refine z_getr (pc' := 4) (x := 1) dX8_begin_1 rfl fl_X8_10 rfl rfl rfl ?_
  refine z_iload_n (pc' := 5) (x := x1) dX8_begin_4 rfl rfl ?_
  obtain ⟨d1, P1, hd1, hC1, h⟩ := h
  refine z_callV (pc' := 8) (M' := mX2_has) (As := [.int x1]) dX8_begin_5 rfl ml_X8_101 me_X2_has hC1 rfl (by decide) rfl rfl hd1 (Nat.le_of_ble_eq_true rfl) ⟨Nat.le_refl _, Nat.le_refl _⟩ rfl ?_
  rintro _ _ ⟨y1, I1, L1, rfl, rfl, hP1⟩
  replace h := h y1 I1 L1 hP1
  refine z_if_ne (pc' := 11) (tgt := 13) dX8_begin_8 rfl (by decide) (fun c2 => ?_) (fun c2 => ?_)
  · replace h := h.1 c2
    refine z_aload_n (pc' := 14) (x := 0) dX8_begin_13 rfl rfl ?_
    refine z_getr (pc' := 17) (x := 14) dX8_begin_14 rfl fl_X8_28 rfl rfl rfl ?_
    obtain ⟨d3, P3, hd3, hC3, h⟩ := h
    refine z_callV (pc' := 20) (M' := mX4_solve) (As := []) dX8_begin_17 rfl ml_X8_152 me_X4_solve hC3 rfl (by decide) rfl rfl hd3 (Nat.le_of_ble_eq_true rfl) ⟨Nat.le_refl _, Nat.le_refl _⟩ rfl ?_
    rintro _ _ ⟨I3, L3, rfl, rfl, hP3⟩
    replace h := h I3 L3 hP3
    refine z_iconst (pc' := 21) (v := 0) dX8_begin_20 rfl (by decide) ?_
    refine z_istore_n (pc' := 22) (ls' := [some (.ref 0), some (.int x1), some (.int (0 : Int32)), none]) dX8_begin_21 rfl (by decide) rfl ?_
    refine z_iconst (pc' := 23) (v := 1) dX8_begin_22 rfl (by decide) ?_
    refine z_istore_n (pc' := 24) (ls' := [some (.ref 0), some (.int x1), some (.int (0 : Int32)), some (.int (1 : Int32))]) dX8_begin_23 rfl (by decide) rfl ?_
    exact h
  · replace h := h.2 c2
    refine z_iconst (pc' := 12) (v := -1) dX8_begin_11 rfl (by decide) ?_
    exact z_iret dX8_begin_12 rfl rfl ⟨Nat.le_refl _, Nat.le_refl _⟩ ⟨_, _, _, rfl, rfl, h⟩
set_option maxHeartbeats 4000000 in
set_option maxRecDepth 100000 in
theorem t_X8_begin_24 {l : Launch} {G : zG} {d : Nat} {P : Int32 → zIM → zLM → Prop} {I : zIM} {L : zLM} {x1 : Int32} {x2 : Int32} {x3 : Int32}   (h : (((I 1 6) ≤ x3 → (P x2 I L)) ∧ (¬ (I 1 6) ≤ x3 → (∃ (d2 : Nat) (P2 : Int64 → zIM → zLM → Prop), d2 + 1 ≤ d ∧ zCl l G d2 mX8_worthIfBegins [.ref 0, .int x3, .int x1] I L P2 ∧ ∀ (y2 : Int64) (I2 : zIM) (L2 : zLM), P2 y2 I2 L2 → (∃ (d3 : Nat) (P3 : Int64 → zIM → zLM → Prop), d3 + 1 ≤ d ∧ zCl l G d3 mX8_worthIfBegins [.ref 0, .int x2, .int x1] I2 L2 P3 ∧ ∀ (y3 : Int64) (I3 : zIM) (L3 : zLM), P3 y3 I3 L3 → (((y2 ≤ y3 → (K_X8_begin_24 l G d P I3 L3 x1 x2 (x3 + (1 : Int32)))) ∧ (¬ y2 ≤ y3 → (K_X8_begin_24 l G d P I3 L3 x1 x3 (x3 + (1 : Int32))))))))))) : K_X8_begin_24 l G d P I L x1 x2 x3  := by
  refine z_iload_n (pc' := 25) (x := x3) dX8_begin_24 rfl rfl ?_
  refine z_aload_n (pc' := 26) (x := 0) dX8_begin_25 rfl rfl ?_
  refine z_getr (pc' := 29) (x := 1) dX8_begin_26 rfl fl_X8_10 rfl rfl rfl ?_
  refine z_geti (pc' := 32) (x := (I 1 6)) dX8_begin_29 rfl fl_X8_79 rfl rfl rfl ?_
  refine z_icmp_ge (pc' := 35) (tgt := 59) dX8_begin_32 rfl (by decide) (fun c1 => ?_) (fun c1 => ?_)
  · replace h := h.1 c1
    refine z_iload_n (pc' := 60) (x := x2) dX8_begin_59 rfl rfl ?_
    exact z_iret dX8_begin_60 rfl rfl ⟨Nat.le_refl _, Nat.le_refl _⟩ ⟨_, _, _, rfl, rfl, h⟩
  · replace h := h.2 c1
    refine z_aload_n (pc' := 36) (x := 0) dX8_begin_35 rfl rfl ?_
    refine z_iload_n (pc' := 37) (x := x3) dX8_begin_36 rfl rfl ?_
    refine z_iload_n (pc' := 38) (x := x1) dX8_begin_37 rfl rfl ?_
    obtain ⟨d2, P2, hd2, hC2, h⟩ := h
    refine z_callV (pc' := 41) (M' := mX8_worthIfBegins) (As := [.int x3, .int x1]) dX8_begin_38 rfl ml_X8_187 me_X8_worthIfBegins hC2 rfl (by decide) rfl rfl hd2 (Nat.le_of_ble_eq_true rfl) ⟨Nat.le_refl _, Nat.le_refl _⟩ rfl ?_
    rintro _ _ ⟨y2, I2, L2, rfl, rfl, hP2⟩
    replace h := h y2 I2 L2 hP2
    refine z_aload_n (pc' := 42) (x := 0) dX8_begin_41 rfl rfl ?_
    refine z_iload_n (pc' := 43) (x := x2) dX8_begin_42 rfl rfl ?_
    refine z_iload_n (pc' := 44) (x := x1) dX8_begin_43 rfl rfl ?_
    obtain ⟨d3, P3, hd3, hC3, h⟩ := h
    refine z_callV (pc' := 47) (M' := mX8_worthIfBegins) (As := [.int x2, .int x1]) dX8_begin_44 rfl ml_X8_187 me_X8_worthIfBegins hC3 rfl (by decide) rfl rfl hd3 (Nat.le_of_ble_eq_true rfl) ⟨Nat.le_refl _, Nat.le_refl _⟩ rfl ?_
    rintro _ _ ⟨y3, I3, L3, rfl, rfl, hP3⟩
    replace h := h y3 I3 L3 hP3
    refine z_lc_le (pc' := 51) (tgt := 53) dX8_begin_47 dX8_begin_48 rfl (by decide) (fun c4 => ?_) (fun c4 => ?_)
    · replace h := h.1 c4
      refine z_iinc (pc' := 56) (x := x3) (v := (x3 + (1 : Int32))) (ls' := [some (.ref 0), some (.int x1), some (.int x2), some (.int (x3 + (1 : Int32)))]) dX8_begin_53 rfl rfl (by rfl) (by decide) rfl ?_
      refine z_goto (pc' := 24) dX8_begin_56 (by decide) ?_
      exact h
    · replace h := h.2 c4
      refine z_iload_n (pc' := 52) (x := x3) dX8_begin_51 rfl rfl ?_
      refine z_istore_n (pc' := 53) (ls' := [some (.ref 0), some (.int x1), some (.int x3), some (.int x3)]) dX8_begin_52 rfl (by decide) rfl ?_
      refine z_iinc (pc' := 56) (x := x3) (v := (x3 + (1 : Int32))) (ls' := [some (.ref 0), some (.int x1), some (.int x3), some (.int (x3 + (1 : Int32)))]) dX8_begin_53 rfl rfl (by rfl) (by decide) rfl ?_
      refine z_goto (pc' := 24) dX8_begin_56 (by decide) ?_
      exact h
set_option maxHeartbeats 4000000 in
set_option maxRecDepth 100000 in
theorem t_X8_fair {l : Launch} {G : zG} {d : Nat} {P : Int32 → zIM → zLM → Prop} {I : zIM} {L : zLM}   (h : ((¬ (I 1 6) = 0 → (∃ (d2 : Nat) (P2 : zIM → zLM → Prop), d2 + 1 ≤ d ∧ zCv l G d2 mX4_solve [.ref 14] I L P2 ∧ ∀ (I2 : zIM) (L2 : zLM), P2 I2 L2 → (K_X8_fair_24 l G d P I2 L2 (0 : Int32) (1 : Int32)))) ∧ ((I 1 6) = 0 → (P (-5 : Int32) I L)))) : zCi l G d mX8_fair [.ref 0] I L P := by
  refine zCn.of (ls := [some (.ref 0), none, none]) (by decide) (Nat.le_of_ble_eq_true rfl) rfl ?_
  refine z_aload_n (pc' := 1) (x := 0) dX8_fair_0 rfl rfl ?_
  refine z_getr (pc' := 4) (x := 1) dX8_fair_1 rfl fl_X8_10 rfl rfl rfl ?_
  refine z_geti (pc' := 7) (x := (I 1 6)) dX8_fair_4 rfl fl_X8_79 rfl rfl rfl ?_
  refine z_if_ne (pc' := 10) (tgt := 13) dX8_fair_7 rfl (by decide) (fun c1 => ?_) (fun c1 => ?_)
  · replace h := h.1 c1
    refine z_aload_n (pc' := 14) (x := 0) dX8_fair_13 rfl rfl ?_
    refine z_getr (pc' := 17) (x := 14) dX8_fair_14 rfl fl_X8_28 rfl rfl rfl ?_
    obtain ⟨d2, P2, hd2, hC2, h⟩ := h
    refine z_callV (pc' := 20) (M' := mX4_solve) (As := []) dX8_fair_17 rfl ml_X8_152 me_X4_solve hC2 rfl (by decide) rfl rfl hd2 (Nat.le_of_ble_eq_true rfl) ⟨Nat.le_refl _, Nat.le_refl _⟩ rfl ?_
    rintro _ _ ⟨I2, L2, rfl, rfl, hP2⟩
    replace h := h I2 L2 hP2
    refine z_iconst (pc' := 21) (v := 0) dX8_fair_20 rfl (by decide) ?_
    refine z_istore_n (pc' := 22) (ls' := [some (.ref 0), some (.int (0 : Int32)), none]) dX8_fair_21 rfl (by decide) rfl ?_
    refine z_iconst (pc' := 23) (v := 1) dX8_fair_22 rfl (by decide) ?_
    refine z_istore_n (pc' := 24) (ls' := [some (.ref 0), some (.int (0 : Int32)), some (.int (1 : Int32))]) dX8_fair_23 rfl (by decide) rfl ?_
    exact h
  · replace h := h.2 c1
    refine z_bipush (pc' := 12) (v := -5) dX8_fair_10 rfl (by decide) ?_
    exact z_iret dX8_fair_12 rfl rfl ⟨Nat.le_refl _, Nat.le_refl _⟩ ⟨_, _, _, rfl, rfl, h⟩
set_option maxHeartbeats 4000000 in
set_option maxRecDepth 100000 in
theorem t_X8_fair_24 {l : Launch} {G : zG} {d : Nat} {P : Int32 → zIM → zLM → Prop} {I : zIM} {L : zLM} {x1 : Int32} {x2 : Int32}   (h : (((I 1 6) ≤ x2 → (P x1 I L)) ∧ (¬ (I 1 6) ≤ x2 → (∃ (d2 : Nat) (P2 : Int64 → zIM → zLM → Prop), d2 + 1 ≤ d ∧ zCl l G d2 mX8_spanIfBegins [.ref 0, .int x2] I L P2 ∧ ∀ (y2 : Int64) (I2 : zIM) (L2 : zLM), P2 y2 I2 L2 → (∃ (d3 : Nat) (P3 : Int64 → zIM → zLM → Prop), d3 + 1 ≤ d ∧ zCl l G d3 mX8_spanIfBegins [.ref 0, .int x1] I2 L2 P3 ∧ ∀ (y3 : Int64) (I3 : zIM) (L3 : zLM), P3 y3 I3 L3 → (((y3 ≤ y2 → (K_X8_fair_24 l G d P I3 L3 x1 (x2 + (1 : Int32)))) ∧ (¬ y3 ≤ y2 → (K_X8_fair_24 l G d P I3 L3 x2 (x2 + (1 : Int32))))))))))) : K_X8_fair_24 l G d P I L x1 x2  := by
  refine z_iload_n (pc' := 25) (x := x2) dX8_fair_24 rfl rfl ?_
  refine z_aload_n (pc' := 26) (x := 0) dX8_fair_25 rfl rfl ?_
  refine z_getr (pc' := 29) (x := 1) dX8_fair_26 rfl fl_X8_10 rfl rfl rfl ?_
  refine z_geti (pc' := 32) (x := (I 1 6)) dX8_fair_29 rfl fl_X8_79 rfl rfl rfl ?_
  refine z_icmp_ge (pc' := 35) (tgt := 57) dX8_fair_32 rfl (by decide) (fun c1 => ?_) (fun c1 => ?_)
  · replace h := h.1 c1
    refine z_iload_n (pc' := 58) (x := x1) dX8_fair_57 rfl rfl ?_
    exact z_iret dX8_fair_58 rfl rfl ⟨Nat.le_refl _, Nat.le_refl _⟩ ⟨_, _, _, rfl, rfl, h⟩
  · replace h := h.2 c1
    refine z_aload_n (pc' := 36) (x := 0) dX8_fair_35 rfl rfl ?_
    refine z_iload_n (pc' := 37) (x := x2) dX8_fair_36 rfl rfl ?_
    obtain ⟨d2, P2, hd2, hC2, h⟩ := h
    refine z_callV (pc' := 40) (M' := mX8_spanIfBegins) (As := [.int x2]) dX8_fair_37 rfl ml_X8_191 me_X8_spanIfBegins hC2 rfl (by decide) rfl rfl hd2 (Nat.le_of_ble_eq_true rfl) ⟨Nat.le_refl _, Nat.le_refl _⟩ rfl ?_
    rintro _ _ ⟨y2, I2, L2, rfl, rfl, hP2⟩
    replace h := h y2 I2 L2 hP2
    refine z_aload_n (pc' := 41) (x := 0) dX8_fair_40 rfl rfl ?_
    refine z_iload_n (pc' := 42) (x := x1) dX8_fair_41 rfl rfl ?_
    obtain ⟨d3, P3, hd3, hC3, h⟩ := h
    refine z_callV (pc' := 45) (M' := mX8_spanIfBegins) (As := [.int x1]) dX8_fair_42 rfl ml_X8_191 me_X8_spanIfBegins hC3 rfl (by decide) rfl rfl hd3 (Nat.le_of_ble_eq_true rfl) ⟨Nat.le_refl _, Nat.le_refl _⟩ rfl ?_
    rintro _ _ ⟨y3, I3, L3, rfl, rfl, hP3⟩
    replace h := h y3 I3 L3 hP3
    refine z_lc_ge (pc' := 49) (tgt := 51) dX8_fair_45 dX8_fair_46 rfl (by decide) (fun c4 => ?_) (fun c4 => ?_)
    · replace h := h.1 c4
      refine z_iinc (pc' := 54) (x := x2) (v := (x2 + (1 : Int32))) (ls' := [some (.ref 0), some (.int x1), some (.int (x2 + (1 : Int32)))]) dX8_fair_51 rfl rfl (by rfl) (by decide) rfl ?_
      refine z_goto (pc' := 24) dX8_fair_54 (by decide) ?_
      exact h
    · replace h := h.2 c4
      refine z_iload_n (pc' := 50) (x := x2) dX8_fair_49 rfl rfl ?_
      refine z_istore_n (pc' := 51) (ls' := [some (.ref 0), some (.int x2), some (.int x2)]) dX8_fair_50 rfl (by decide) rfl ?_
      refine z_iinc (pc' := 54) (x := x2) (v := (x2 + (1 : Int32))) (ls' := [some (.ref 0), some (.int x2), some (.int (x2 + (1 : Int32)))]) dX8_fair_51 rfl rfl (by rfl) (by decide) rfl ?_
      refine z_goto (pc' := 24) dX8_fair_54 (by decide) ?_
      exact h
set_option maxHeartbeats 4000000 in
set_option maxRecDepth 100000 in
theorem t_X8_would {l : Launch} {G : zG} {d : Nat} {P : Int32 → zIM → zLM → Prop} {I : zIM} {L : zLM} {x1 : Int32}  (h : ∃ (d1 : Nat) (P1 : Int32 → zIM → zLM → Prop), d1 + 1 ≤ d ∧ zCi l G d1 mX2_has [.ref 1, .int x1] I L P1 ∧ ∀ (y1 : Int32) (I1 : zIM) (L1 : zLM), P1 y1 I1 L1 → (((y1 = 0 → (P (-1 : Int32) I1 L1)) ∧ (¬ y1 = 0 → (∃ (d3 : Nat) (P3 : Int32 → zIM → zLM → Prop), d3 + 1 ≤ d ∧ zCi l G d3 mX8_wantedWay [.ref 0, .int x1] I1 L1 P3 ∧ ∀ (y3 : Int32) (I3 : zIM) (L3 : zLM), P3 y3 I3 L3 → (P y3 I3 L3)))))) : zCi l G d mX8_would [.ref 0, .int x1] I L P := by
  refine zCn.of (ls := [some (.ref 0), some (.int x1)]) (by decide) (Nat.le_of_ble_eq_true rfl) rfl ?_
  refine z_aload_n (pc' := 1) (x := 0) dX8_would_0 rfl rfl ?_
  refine z_getr (pc' := 4) (x := 1) dX8_would_1 rfl fl_X8_10 rfl rfl rfl ?_
  refine z_iload_n (pc' := 5) (x := x1) dX8_would_4 rfl rfl ?_
  obtain ⟨d1, P1, hd1, hC1, h⟩ := h
  refine z_callV (pc' := 8) (M' := mX2_has) (As := [.int x1]) dX8_would_5 rfl ml_X8_101 me_X2_has hC1 rfl (by decide) rfl rfl hd1 (Nat.le_of_ble_eq_true rfl) ⟨Nat.le_refl _, Nat.le_refl _⟩ rfl ?_
  rintro _ _ ⟨y1, I1, L1, rfl, rfl, hP1⟩
  replace h := h y1 I1 L1 hP1
  refine z_if_eq (pc' := 11) (tgt := 19) dX8_would_8 rfl (by decide) (fun c2 => ?_) (fun c2 => ?_)
  · replace h := h.1 c2
    refine z_iconst (pc' := 20) (v := -1) dX8_would_19 rfl (by decide) ?_
    exact z_iret dX8_would_20 rfl rfl ⟨Nat.le_refl _, Nat.le_refl _⟩ ⟨_, _, _, rfl, rfl, h⟩
  · replace h := h.2 c2
    refine z_aload_n (pc' := 12) (x := 0) dX8_would_11 rfl rfl ?_
    refine z_iload_n (pc' := 13) (x := x1) dX8_would_12 rfl rfl ?_
    obtain ⟨d3, P3, hd3, hC3, h⟩ := h
    refine z_callV (pc' := 16) (M' := mX8_wantedWay) (As := [.int x1]) dX8_would_13 rfl ml_X8_194 me_X8_wantedWay hC3 rfl (by decide) rfl rfl hd3 (Nat.le_of_ble_eq_true rfl) ⟨Nat.le_refl _, Nat.le_refl _⟩ rfl ?_
    rintro _ _ ⟨y3, I3, L3, rfl, rfl, hP3⟩
    replace h := h y3 I3 L3 hP3
    refine z_goto (pc' := 20) dX8_would_16 (by decide) ?_
    exact z_iret dX8_would_20 rfl rfl ⟨Nat.le_refl _, Nat.le_refl _⟩ ⟨_, _, _, rfl, rfl, h⟩
set_option maxHeartbeats 4000000 in
set_option maxRecDepth 100000 in
theorem t_X8_rest {l : Launch} {G : zG} {d : Nat} {P : Int32 → zIM → zLM → Prop} {I : zIM} {L : zLM}   (h : ∃ (d1 : Nat) (P1 : Int32 → zIM → zLM → Prop), d1 + 1 ≤ d ∧ zCi l G d1 mX8_firstMove [.ref 0] I L P1 ∧ ∀ (y1 : Int32) (I1 : zIM) (L1 : zLM), P1 y1 I1 L1 → (((¬ y1 = (-2 : Int32) → (P (y1 / (6 : Int32)) I1 L1)) ∧ (y1 = (-2 : Int32) → (P (-2 : Int32) I1 L1))))) : zCi l G d mX8_rest [.ref 0] I L P := by
  refine zCn.of (ls := [some (.ref 0), none]) (by decide) (Nat.le_of_ble_eq_true rfl) rfl ?_
  refine z_aload_n (pc' := 1) (x := 0) dX8_rest_0 rfl rfl ?_
  obtain ⟨d1, P1, hd1, hC1, h⟩ := h
  refine z_callV (pc' := 4) (M' := mX8_firstMove) (As := []) dX8_rest_1 rfl ml_X8_197 me_X8_firstMove hC1 rfl (by decide) rfl rfl hd1 (Nat.le_of_ble_eq_true rfl) ⟨Nat.le_refl _, Nat.le_refl _⟩ rfl ?_
  rintro _ _ ⟨y1, I1, L1, rfl, rfl, hP1⟩
  replace h := h y1 I1 L1 hP1
  refine z_istore_n (pc' := 5) (ls' := [some (.ref 0), some (.int y1)]) dX8_rest_4 rfl (by decide) rfl ?_
  refine z_iload_n (pc' := 6) (x := y1) dX8_rest_5 rfl rfl ?_
  refine z_bipush (pc' := 8) (v := -2) dX8_rest_6 rfl (by decide) ?_
  refine z_icmp_ne (pc' := 11) (tgt := 16) dX8_rest_8 rfl (by decide) (fun c2 => ?_) (fun c2 => ?_)
  · replace h := h.1 c2
    refine z_iload_n (pc' := 17) (x := y1) dX8_rest_16 rfl rfl ?_
    refine z_bipush (pc' := 19) (v := 6) dX8_rest_17 rfl (by decide) ?_
    refine z_idiv (pc' := 20) dX8_rest_19 rfl (by decide) ?_
    exact z_iret dX8_rest_20 rfl rfl ⟨Nat.le_refl _, Nat.le_refl _⟩ ⟨_, _, _, rfl, rfl, h⟩
  · replace h := h.2 c2
    refine z_bipush (pc' := 13) (v := -2) dX8_rest_11 rfl (by decide) ?_
    refine z_goto (pc' := 20) dX8_rest_13 (by decide) ?_
    exact z_iret dX8_rest_20 rfl rfl ⟨Nat.le_refl _, Nat.le_refl _⟩ ⟨_, _, _, rfl, rfl, h⟩
set_option maxHeartbeats 4000000 in
set_option maxRecDepth 100000 in
theorem t_X8_settle {l : Launch} {G : zG} {d : Nat} {P : Int32 → zIM → zLM → Prop} {I : zIM} {L : zLM} {x1 : Int32}  (hdp : 1 ≤ d) (h : ((x1 = (-1 : Int32) → (∃ (d2 : Nat) (P2 : Int32 → zIM → zLM → Prop), d2 + 1 ≤ d ∧ zCi l G d2 mX8_firstMove [.ref 0] (xcI I 3 43 0 0 4) L P2 ∧ ∀ (y2 : Int32) (I2 : zIM) (L2 : zLM), P2 y2 I2 L2 → (K_X8_settle_42 l G d P I2 L2 x1 (0 : Int32) y2))) ∧ (¬ x1 = (-1 : Int32) → (∃ (d3 : Nat) (P3 : Int32 → zIM → zLM → Prop), d3 + 1 ≤ d ∧ zCi l G d3 mX2_has [.ref 1, .int x1] I L P3 ∧ ∀ (y3 : Int32) (I3 : zIM) (L3 : zLM), P3 y3 I3 L3 → (((¬ y3 = 0 → (∃ (d5 : Nat) (P5 : Int32 → zIM → zLM → Prop), d5 + 1 ≤ d ∧ zCi l G d5 mX8_firstMove [.ref 0] (xcI I3 3 43 0 0 4) L3 P5 ∧ ∀ (y5 : Int32) (I5 : zIM) (L5 : zLM), P5 y5 I5 L5 → (K_X8_settle_42 l G d P I5 L5 x1 (0 : Int32) y5))) ∧ (y3 = 0 → (P (-1 : Int32) I3 L3)))))))) : zCi l G d mX8_settle [.ref 0, .int x1] I L P := by
  refine zCn.of (ls := [some (.ref 0), some (.int x1), none, none, none]) (by decide) (Nat.le_of_ble_eq_true rfl) rfl ?_
  refine z_iload_n (pc' := 1) (x := x1) dX8_settle_0 rfl rfl ?_
  refine z_iconst (pc' := 2) (v := -1) dX8_settle_1 rfl (by decide) ?_
  refine z_icmp_eq (pc' := 5) (tgt := 18) dX8_settle_2 rfl (by decide) (fun c1 => ?_) (fun c1 => ?_)
  · replace h := h.1 c1
    refine z_aload_n (pc' := 19) (x := 0) dX8_settle_18 rfl rfl ?_
    refine z_getr (pc' := 22) (x := 1) dX8_settle_19 rfl fl_X8_10 rfl rfl rfl ?_
    refine z_getr (pc' := 25) (x := 3) dX8_settle_22 rfl fl_X8_200 rfl rfl rfl ?_
    refine z_iconst (pc' := 26) (v := 0) dX8_settle_25 rfl (by decide) ?_
    refine z_aload_n (pc' := 27) (x := 0) dX8_settle_26 rfl rfl ?_
    refine z_getr (pc' := 30) (x := 43) dX8_settle_27 rfl fl_X8_71 rfl rfl rfl ?_
    refine z_iconst (pc' := 31) (v := 0) dX8_settle_30 rfl (by decide) ?_
    refine z_iconst (pc' := 32) (v := 4) dX8_settle_31 rfl (by decide) ?_
    refine z_cpyi (pc' := 35) (sp := 0) (dp := 0) (n := 4) (w' := zs (xcI I 3 43 0 0 4) L) dX8_settle_32 rfl ml_X8_203 zcp_m hdp (Nat.le_of_ble_eq_true rfl) rfl rfl rfl rfl rfl (by decide) (by decide) (by decide) rfl ?_
    refine z_iconst (pc' := 36) (v := 0) dX8_settle_35 rfl (by decide) ?_
    refine z_istore_n (pc' := 37) (ls' := [some (.ref 0), some (.int x1), some (.int (0 : Int32)), none, none]) dX8_settle_36 rfl (by decide) rfl ?_
    refine z_aload_n (pc' := 38) (x := 0) dX8_settle_37 rfl rfl ?_
    obtain ⟨d2, P2, hd2, hC2, h⟩ := h
    refine z_callV (pc' := 41) (M' := mX8_firstMove) (As := []) dX8_settle_38 rfl ml_X8_197 me_X8_firstMove hC2 rfl (by decide) rfl rfl hd2 (Nat.le_of_ble_eq_true rfl) ⟨Nat.le_refl _, Nat.le_refl _⟩ rfl ?_
    rintro _ _ ⟨y2, I2, L2, rfl, rfl, hP2⟩
    replace h := h y2 I2 L2 hP2
    refine z_istore_n (pc' := 42) (ls' := [some (.ref 0), some (.int x1), some (.int (0 : Int32)), some (.int y2), none]) dX8_settle_41 rfl (by decide) rfl ?_
    exact h
  · replace h := h.2 c1
    refine z_aload_n (pc' := 6) (x := 0) dX8_settle_5 rfl rfl ?_
    refine z_getr (pc' := 9) (x := 1) dX8_settle_6 rfl fl_X8_10 rfl rfl rfl ?_
    refine z_iload_n (pc' := 10) (x := x1) dX8_settle_9 rfl rfl ?_
    obtain ⟨d3, P3, hd3, hC3, h⟩ := h
    refine z_callV (pc' := 13) (M' := mX2_has) (As := [.int x1]) dX8_settle_10 rfl ml_X8_101 me_X2_has hC3 rfl (by decide) rfl rfl hd3 (Nat.le_of_ble_eq_true rfl) ⟨Nat.le_refl _, Nat.le_refl _⟩ rfl ?_
    rintro _ _ ⟨y3, I3, L3, rfl, rfl, hP3⟩
    replace h := h y3 I3 L3 hP3
    refine z_if_ne (pc' := 16) (tgt := 18) dX8_settle_13 rfl (by decide) (fun c4 => ?_) (fun c4 => ?_)
    · replace h := h.1 c4
      refine z_aload_n (pc' := 19) (x := 0) dX8_settle_18 rfl rfl ?_
      refine z_getr (pc' := 22) (x := 1) dX8_settle_19 rfl fl_X8_10 rfl rfl rfl ?_
      refine z_getr (pc' := 25) (x := 3) dX8_settle_22 rfl fl_X8_200 rfl rfl rfl ?_
      refine z_iconst (pc' := 26) (v := 0) dX8_settle_25 rfl (by decide) ?_
      refine z_aload_n (pc' := 27) (x := 0) dX8_settle_26 rfl rfl ?_
      refine z_getr (pc' := 30) (x := 43) dX8_settle_27 rfl fl_X8_71 rfl rfl rfl ?_
      refine z_iconst (pc' := 31) (v := 0) dX8_settle_30 rfl (by decide) ?_
      refine z_iconst (pc' := 32) (v := 4) dX8_settle_31 rfl (by decide) ?_
      refine z_cpyi (pc' := 35) (sp := 0) (dp := 0) (n := 4) (w' := zs (xcI I3 3 43 0 0 4) L3) dX8_settle_32 rfl ml_X8_203 zcp_m hdp (Nat.le_of_ble_eq_true rfl) rfl rfl rfl rfl rfl (by decide) (by decide) (by decide) rfl ?_
      refine z_iconst (pc' := 36) (v := 0) dX8_settle_35 rfl (by decide) ?_
      refine z_istore_n (pc' := 37) (ls' := [some (.ref 0), some (.int x1), some (.int (0 : Int32)), none, none]) dX8_settle_36 rfl (by decide) rfl ?_
      refine z_aload_n (pc' := 38) (x := 0) dX8_settle_37 rfl rfl ?_
      obtain ⟨d5, P5, hd5, hC5, h⟩ := h
      refine z_callV (pc' := 41) (M' := mX8_firstMove) (As := []) dX8_settle_38 rfl ml_X8_197 me_X8_firstMove hC5 rfl (by decide) rfl rfl hd5 (Nat.le_of_ble_eq_true rfl) ⟨Nat.le_refl _, Nat.le_refl _⟩ rfl ?_
      rintro _ _ ⟨y5, I5, L5, rfl, rfl, hP5⟩
      replace h := h y5 I5 L5 hP5
      refine z_istore_n (pc' := 42) (ls' := [some (.ref 0), some (.int x1), some (.int (0 : Int32)), some (.int y5), none]) dX8_settle_41 rfl (by decide) rfl ?_
      exact h
    · replace h := h.2 c4
      refine z_iconst (pc' := 17) (v := -1) dX8_settle_16 rfl (by decide) ?_
      exact z_iret dX8_settle_17 rfl rfl ⟨Nat.le_refl _, Nat.le_refl _⟩ ⟨_, _, _, rfl, rfl, h⟩
set_option maxHeartbeats 4000000 in
set_option maxRecDepth 100000 in
theorem t_X8_settle_42 {l : Launch} {G : zG} {d : Nat} {P : Int32 → zIM → zLM → Prop} {I : zIM} {L : zLM} {x1 : Int32} {x2 : Int32} {x3 : Int32}   (hdp : 1 ≤ d) (h : ((x3 = (-2 : Int32) → (((x3 = (-2 : Int32) → (((¬ x1 = (-1 : Int32) → (∃ j4 : Nat, x1 = nI j4 ∧ j4 < 4 ∧ (P (I 3 j4) (xcI I 43 3 0 0 4) L))) ∧ (x1 = (-1 : Int32) → (P x2 (xcI I 43 3 0 0 4) L))))) ∧ (¬ x3 = (-2 : Int32) → (P (-2 : Int32) (xcI I 43 3 0 0 4) L))))) ∧ (¬ x3 = (-2 : Int32) → ((((8 : Int32) ≤ x2 → (((x3 = (-2 : Int32) → (((¬ x1 = (-1 : Int32) → (∃ j8 : Nat, x1 = nI j8 ∧ j8 < 4 ∧ (P (I 3 j8) (xcI I 43 3 0 0 4) L))) ∧ (x1 = (-1 : Int32) → (P x2 (xcI I 43 3 0 0 4) L))))) ∧ (¬ x3 = (-2 : Int32) → (P (-2 : Int32) (xcI I 43 3 0 0 4) L))))) ∧ (¬ (8 : Int32) ≤ x2 → (∃ j9 : Nat, (x3 / (6 : Int32)) = nI j9 ∧ j9 < 4 ∧ (∃ (d10 : Nat) (P10 : Int32 → zIM → zLM → Prop), d10 + 1 ≤ d ∧ zCi l G d10 mX8_firstMove [.ref 0] (xI I 3 j9 (x3 % (6 : Int32))) L P10 ∧ ∀ (y10 : Int32) (I10 : zIM) (L10 : zLM), P10 y10 I10 L10 → (K_X8_settle_42 l G d P I10 L10 x1 (x2 + (1 : Int32)) y10))))))))) : K_X8_settle_42 l G d P I L x1 x2 x3  := by
  refine z_iload_n (pc' := 43) (x := x3) dX8_settle_42 rfl rfl ?_
  refine z_bipush (pc' := 45) (v := -2) dX8_settle_43 rfl (by decide) ?_
  refine z_icmp_eq (pc' := 48) (tgt := 81) dX8_settle_45 rfl (by decide) (fun c1 => ?_) (fun c1 => ?_)
  · replace h := h.1 c1
    refine z_iload_n (pc' := 82) (x := x3) dX8_settle_81 rfl rfl ?_
    refine z_bipush (pc' := 84) (v := -2) dX8_settle_82 rfl (by decide) ?_
    refine z_icmp_eq (pc' := 87) (tgt := 92) dX8_settle_84 rfl (by decide) (fun c2 => ?_) (fun c2 => ?_)
    · replace h := h.1 c2
      refine z_iload_n (pc' := 93) (x := x1) dX8_settle_92 rfl rfl ?_
      refine z_iconst (pc' := 94) (v := -1) dX8_settle_93 rfl (by decide) ?_
      refine z_icmp_ne (pc' := 97) (tgt := 101) dX8_settle_94 rfl (by decide) (fun c3 => ?_) (fun c3 => ?_)
      · replace h := h.1 c3
        refine z_aload_n (pc' := 102) (x := 0) dX8_settle_101 rfl rfl ?_
        refine z_getr (pc' := 105) (x := 1) dX8_settle_102 rfl fl_X8_10 rfl rfl rfl ?_
        refine z_getr (pc' := 108) (x := 3) dX8_settle_105 rfl fl_X8_200 rfl rfl rfl ?_
        refine z_iload_n (pc' := 109) (x := x1) dX8_settle_108 rfl rfl ?_
        obtain ⟨j4, ha4, hb4, h⟩ := h
        refine z_iald (pc' := 110) (x := (I 3 j4)) (j := j4) dX8_settle_109 rfl rfl (by decide) ha4 hb4 rfl ?_
        refine z_istore (pc' := 112) (ls' := [some (.ref 0), some (.int x1), some (.int x2), some (.int x3), some (.int (I 3 j4))]) dX8_settle_110 rfl (by decide) rfl ?_
        refine z_aload_n (pc' := 113) (x := 0) dX8_settle_112 rfl rfl ?_
        refine z_getr (pc' := 116) (x := 43) dX8_settle_113 rfl fl_X8_71 rfl rfl rfl ?_
        refine z_iconst (pc' := 117) (v := 0) dX8_settle_116 rfl (by decide) ?_
        refine z_aload_n (pc' := 118) (x := 0) dX8_settle_117 rfl rfl ?_
        refine z_getr (pc' := 121) (x := 1) dX8_settle_118 rfl fl_X8_10 rfl rfl rfl ?_
        refine z_getr (pc' := 124) (x := 3) dX8_settle_121 rfl fl_X8_200 rfl rfl rfl ?_
        refine z_iconst (pc' := 125) (v := 0) dX8_settle_124 rfl (by decide) ?_
        refine z_iconst (pc' := 126) (v := 4) dX8_settle_125 rfl (by decide) ?_
        refine z_cpyi (pc' := 129) (sp := 0) (dp := 0) (n := 4) (w' := zs (xcI I 43 3 0 0 4) L) dX8_settle_126 rfl ml_X8_203 zcp_m hdp (Nat.le_of_ble_eq_true rfl) rfl rfl rfl rfl rfl (by decide) (by decide) (by decide) rfl ?_
        refine z_iload (pc' := 131) (x := (I 3 j4)) dX8_settle_129 rfl rfl ?_
        exact z_iret dX8_settle_131 rfl rfl ⟨Nat.le_refl _, Nat.le_refl _⟩ ⟨_, _, _, rfl, rfl, h⟩
      · replace h := h.2 c3
        refine z_iload_n (pc' := 98) (x := x2) dX8_settle_97 rfl rfl ?_
        refine z_goto (pc' := 110) dX8_settle_98 (by decide) ?_
        refine z_istore (pc' := 112) (ls' := [some (.ref 0), some (.int x1), some (.int x2), some (.int x3), some (.int x2)]) dX8_settle_110 rfl (by decide) rfl ?_
        refine z_aload_n (pc' := 113) (x := 0) dX8_settle_112 rfl rfl ?_
        refine z_getr (pc' := 116) (x := 43) dX8_settle_113 rfl fl_X8_71 rfl rfl rfl ?_
        refine z_iconst (pc' := 117) (v := 0) dX8_settle_116 rfl (by decide) ?_
        refine z_aload_n (pc' := 118) (x := 0) dX8_settle_117 rfl rfl ?_
        refine z_getr (pc' := 121) (x := 1) dX8_settle_118 rfl fl_X8_10 rfl rfl rfl ?_
        refine z_getr (pc' := 124) (x := 3) dX8_settle_121 rfl fl_X8_200 rfl rfl rfl ?_
        refine z_iconst (pc' := 125) (v := 0) dX8_settle_124 rfl (by decide) ?_
        refine z_iconst (pc' := 126) (v := 4) dX8_settle_125 rfl (by decide) ?_
        refine z_cpyi (pc' := 129) (sp := 0) (dp := 0) (n := 4) (w' := zs (xcI I 43 3 0 0 4) L) dX8_settle_126 rfl ml_X8_203 zcp_m hdp (Nat.le_of_ble_eq_true rfl) rfl rfl rfl rfl rfl (by decide) (by decide) (by decide) rfl ?_
        refine z_iload (pc' := 131) (x := x2) dX8_settle_129 rfl rfl ?_
        exact z_iret dX8_settle_131 rfl rfl ⟨Nat.le_refl _, Nat.le_refl _⟩ ⟨_, _, _, rfl, rfl, h⟩
    · replace h := h.2 c2
      refine z_bipush (pc' := 89) (v := -2) dX8_settle_87 rfl (by decide) ?_
      refine z_goto (pc' := 110) dX8_settle_89 (by decide) ?_
      refine z_istore (pc' := 112) (ls' := [some (.ref 0), some (.int x1), some (.int x2), some (.int x3), some (.int (-2 : Int32))]) dX8_settle_110 rfl (by decide) rfl ?_
      refine z_aload_n (pc' := 113) (x := 0) dX8_settle_112 rfl rfl ?_
      refine z_getr (pc' := 116) (x := 43) dX8_settle_113 rfl fl_X8_71 rfl rfl rfl ?_
      refine z_iconst (pc' := 117) (v := 0) dX8_settle_116 rfl (by decide) ?_
      refine z_aload_n (pc' := 118) (x := 0) dX8_settle_117 rfl rfl ?_
      refine z_getr (pc' := 121) (x := 1) dX8_settle_118 rfl fl_X8_10 rfl rfl rfl ?_
      refine z_getr (pc' := 124) (x := 3) dX8_settle_121 rfl fl_X8_200 rfl rfl rfl ?_
      refine z_iconst (pc' := 125) (v := 0) dX8_settle_124 rfl (by decide) ?_
      refine z_iconst (pc' := 126) (v := 4) dX8_settle_125 rfl (by decide) ?_
      refine z_cpyi (pc' := 129) (sp := 0) (dp := 0) (n := 4) (w' := zs (xcI I 43 3 0 0 4) L) dX8_settle_126 rfl ml_X8_203 zcp_m hdp (Nat.le_of_ble_eq_true rfl) rfl rfl rfl rfl rfl (by decide) (by decide) (by decide) rfl ?_
      refine z_iload (pc' := 131) (x := (-2 : Int32)) dX8_settle_129 rfl rfl ?_
      exact z_iret dX8_settle_131 rfl rfl ⟨Nat.le_refl _, Nat.le_refl _⟩ ⟨_, _, _, rfl, rfl, h⟩
  · replace h := h.2 c1
    refine z_iload_n (pc' := 49) (x := x2) dX8_settle_48 rfl rfl ?_
    refine z_bipush (pc' := 51) (v := 8) dX8_settle_49 rfl (by decide) ?_
    refine z_icmp_ge (pc' := 54) (tgt := 81) dX8_settle_51 rfl (by decide) (fun c5 => ?_) (fun c5 => ?_)
    · replace h := h.1 c5
      refine z_iload_n (pc' := 82) (x := x3) dX8_settle_81 rfl rfl ?_
      refine z_bipush (pc' := 84) (v := -2) dX8_settle_82 rfl (by decide) ?_
      refine z_icmp_eq (pc' := 87) (tgt := 92) dX8_settle_84 rfl (by decide) (fun c6 => ?_) (fun c6 => ?_)
      · replace h := h.1 c6
        refine z_iload_n (pc' := 93) (x := x1) dX8_settle_92 rfl rfl ?_
        refine z_iconst (pc' := 94) (v := -1) dX8_settle_93 rfl (by decide) ?_
        refine z_icmp_ne (pc' := 97) (tgt := 101) dX8_settle_94 rfl (by decide) (fun c7 => ?_) (fun c7 => ?_)
        · replace h := h.1 c7
          refine z_aload_n (pc' := 102) (x := 0) dX8_settle_101 rfl rfl ?_
          refine z_getr (pc' := 105) (x := 1) dX8_settle_102 rfl fl_X8_10 rfl rfl rfl ?_
          refine z_getr (pc' := 108) (x := 3) dX8_settle_105 rfl fl_X8_200 rfl rfl rfl ?_
          refine z_iload_n (pc' := 109) (x := x1) dX8_settle_108 rfl rfl ?_
          obtain ⟨j8, ha8, hb8, h⟩ := h
          refine z_iald (pc' := 110) (x := (I 3 j8)) (j := j8) dX8_settle_109 rfl rfl (by decide) ha8 hb8 rfl ?_
          refine z_istore (pc' := 112) (ls' := [some (.ref 0), some (.int x1), some (.int x2), some (.int x3), some (.int (I 3 j8))]) dX8_settle_110 rfl (by decide) rfl ?_
          refine z_aload_n (pc' := 113) (x := 0) dX8_settle_112 rfl rfl ?_
          refine z_getr (pc' := 116) (x := 43) dX8_settle_113 rfl fl_X8_71 rfl rfl rfl ?_
          refine z_iconst (pc' := 117) (v := 0) dX8_settle_116 rfl (by decide) ?_
          refine z_aload_n (pc' := 118) (x := 0) dX8_settle_117 rfl rfl ?_
          refine z_getr (pc' := 121) (x := 1) dX8_settle_118 rfl fl_X8_10 rfl rfl rfl ?_
          refine z_getr (pc' := 124) (x := 3) dX8_settle_121 rfl fl_X8_200 rfl rfl rfl ?_
          refine z_iconst (pc' := 125) (v := 0) dX8_settle_124 rfl (by decide) ?_
          refine z_iconst (pc' := 126) (v := 4) dX8_settle_125 rfl (by decide) ?_
          refine z_cpyi (pc' := 129) (sp := 0) (dp := 0) (n := 4) (w' := zs (xcI I 43 3 0 0 4) L) dX8_settle_126 rfl ml_X8_203 zcp_m hdp (Nat.le_of_ble_eq_true rfl) rfl rfl rfl rfl rfl (by decide) (by decide) (by decide) rfl ?_
          refine z_iload (pc' := 131) (x := (I 3 j8)) dX8_settle_129 rfl rfl ?_
          exact z_iret dX8_settle_131 rfl rfl ⟨Nat.le_refl _, Nat.le_refl _⟩ ⟨_, _, _, rfl, rfl, h⟩
        · replace h := h.2 c7
          refine z_iload_n (pc' := 98) (x := x2) dX8_settle_97 rfl rfl ?_
          refine z_goto (pc' := 110) dX8_settle_98 (by decide) ?_
          refine z_istore (pc' := 112) (ls' := [some (.ref 0), some (.int x1), some (.int x2), some (.int x3), some (.int x2)]) dX8_settle_110 rfl (by decide) rfl ?_
          refine z_aload_n (pc' := 113) (x := 0) dX8_settle_112 rfl rfl ?_
          refine z_getr (pc' := 116) (x := 43) dX8_settle_113 rfl fl_X8_71 rfl rfl rfl ?_
          refine z_iconst (pc' := 117) (v := 0) dX8_settle_116 rfl (by decide) ?_
          refine z_aload_n (pc' := 118) (x := 0) dX8_settle_117 rfl rfl ?_
          refine z_getr (pc' := 121) (x := 1) dX8_settle_118 rfl fl_X8_10 rfl rfl rfl ?_
          refine z_getr (pc' := 124) (x := 3) dX8_settle_121 rfl fl_X8_200 rfl rfl rfl ?_
          refine z_iconst (pc' := 125) (v := 0) dX8_settle_124 rfl (by decide) ?_
          refine z_iconst (pc' := 126) (v := 4) dX8_settle_125 rfl (by decide) ?_
          refine z_cpyi (pc' := 129) (sp := 0) (dp := 0) (n := 4) (w' := zs (xcI I 43 3 0 0 4) L) dX8_settle_126 rfl ml_X8_203 zcp_m hdp (Nat.le_of_ble_eq_true rfl) rfl rfl rfl rfl rfl (by decide) (by decide) (by decide) rfl ?_
          refine z_iload (pc' := 131) (x := x2) dX8_settle_129 rfl rfl ?_
          exact z_iret dX8_settle_131 rfl rfl ⟨Nat.le_refl _, Nat.le_refl _⟩ ⟨_, _, _, rfl, rfl, h⟩
      · replace h := h.2 c6
        refine z_bipush (pc' := 89) (v := -2) dX8_settle_87 rfl (by decide) ?_
        refine z_goto (pc' := 110) dX8_settle_89 (by decide) ?_
        refine z_istore (pc' := 112) (ls' := [some (.ref 0), some (.int x1), some (.int x2), some (.int x3), some (.int (-2 : Int32))]) dX8_settle_110 rfl (by decide) rfl ?_
        refine z_aload_n (pc' := 113) (x := 0) dX8_settle_112 rfl rfl ?_
        refine z_getr (pc' := 116) (x := 43) dX8_settle_113 rfl fl_X8_71 rfl rfl rfl ?_
        refine z_iconst (pc' := 117) (v := 0) dX8_settle_116 rfl (by decide) ?_
        refine z_aload_n (pc' := 118) (x := 0) dX8_settle_117 rfl rfl ?_
        refine z_getr (pc' := 121) (x := 1) dX8_settle_118 rfl fl_X8_10 rfl rfl rfl ?_
        refine z_getr (pc' := 124) (x := 3) dX8_settle_121 rfl fl_X8_200 rfl rfl rfl ?_
        refine z_iconst (pc' := 125) (v := 0) dX8_settle_124 rfl (by decide) ?_
        refine z_iconst (pc' := 126) (v := 4) dX8_settle_125 rfl (by decide) ?_
        refine z_cpyi (pc' := 129) (sp := 0) (dp := 0) (n := 4) (w' := zs (xcI I 43 3 0 0 4) L) dX8_settle_126 rfl ml_X8_203 zcp_m hdp (Nat.le_of_ble_eq_true rfl) rfl rfl rfl rfl rfl (by decide) (by decide) (by decide) rfl ?_
        refine z_iload (pc' := 131) (x := (-2 : Int32)) dX8_settle_129 rfl rfl ?_
        exact z_iret dX8_settle_131 rfl rfl ⟨Nat.le_refl _, Nat.le_refl _⟩ ⟨_, _, _, rfl, rfl, h⟩
    · replace h := h.2 c5
      refine z_aload_n (pc' := 55) (x := 0) dX8_settle_54 rfl rfl ?_
      refine z_getr (pc' := 58) (x := 1) dX8_settle_55 rfl fl_X8_10 rfl rfl rfl ?_
      refine z_getr (pc' := 61) (x := 3) dX8_settle_58 rfl fl_X8_200 rfl rfl rfl ?_
      refine z_iload_n (pc' := 62) (x := x3) dX8_settle_61 rfl rfl ?_
      refine z_bipush (pc' := 64) (v := 6) dX8_settle_62 rfl (by decide) ?_
      refine z_idiv (pc' := 65) dX8_settle_64 rfl (by decide) ?_
      refine z_iload_n (pc' := 66) (x := x3) dX8_settle_65 rfl rfl ?_
      refine z_bipush (pc' := 68) (v := 6) dX8_settle_66 rfl (by decide) ?_
      refine z_irem (pc' := 69) dX8_settle_68 rfl (by decide) ?_
      obtain ⟨j9, ha9, hb9, h⟩ := h
      refine z_iast (pc' := 70) (j := j9) (w' := zs (xI I 3 j9 (x3 % (6 : Int32))) L) dX8_settle_69 rfl rfl (by decide) ha9 hb9 rfl ?_
      refine z_iinc (pc' := 73) (x := x2) (v := (x2 + (1 : Int32))) (ls' := [some (.ref 0), some (.int x1), some (.int (x2 + (1 : Int32))), some (.int x3), none]) dX8_settle_70 rfl rfl (by rfl) (by decide) rfl ?_
      refine z_aload_n (pc' := 74) (x := 0) dX8_settle_73 rfl rfl ?_
      obtain ⟨d10, P10, hd10, hC10, h⟩ := h
      refine z_callV (pc' := 77) (M' := mX8_firstMove) (As := []) dX8_settle_74 rfl ml_X8_197 me_X8_firstMove hC10 rfl (by decide) rfl rfl hd10 (Nat.le_of_ble_eq_true rfl) ⟨Nat.le_refl _, Nat.le_refl _⟩ rfl ?_
      rintro _ _ ⟨y10, I10, L10, rfl, rfl, hP10⟩
      replace h := h y10 I10 L10 hP10
      refine z_istore_n (pc' := 78) (ls' := [some (.ref 0), some (.int x1), some (.int (x2 + (1 : Int32))), some (.int y10), none]) dX8_settle_77 rfl (by decide) rfl ?_
      refine z_goto (pc' := 42) dX8_settle_78 (by decide) ?_
      exact h
set_option maxHeartbeats 4000000 in
set_option maxRecDepth 100000 in
theorem t_X8_even {l : Launch} {G : zG} {d : Nat} {P : Int32 → zIM → zLM → Prop} {I : zIM} {L : zLM} {x1 : Int32}  (h : ∃ (d1 : Nat) (P1 : Int32 → zIM → zLM → Prop), d1 + 1 ≤ d ∧ zCi l G d1 mX2_has [.ref 1, .int x1] I L P1 ∧ ∀ (y1 : Int32) (I1 : zIM) (L1 : zLM), P1 y1 I1 L1 → (((¬ y1 = 0 → (∃ j3 : Nat, x1 = nI j3 ∧ j3 < 4 ∧ (K_X8_even_33 l G d P I1 L1 x1 (I1 2 j3) (0 : Int32) (9223372036854775807 : Int64) (0 : Int32)))) ∧ (y1 = 0 → (P (-1 : Int32) I1 L1))))) : zCi l G d mX8_even [.ref 0, .int x1] I L P := by
  refine zCn.of (ls := [some (.ref 0), some (.int x1), none, none, none, none, none, none, none]) (by decide) (Nat.le_of_ble_eq_true rfl) rfl ?_
  refine z_aload_n (pc' := 1) (x := 0) dX8_even_0 rfl rfl ?_
  refine z_getr (pc' := 4) (x := 1) dX8_even_1 rfl fl_X8_10 rfl rfl rfl ?_
  refine z_iload_n (pc' := 5) (x := x1) dX8_even_4 rfl rfl ?_
  obtain ⟨d1, P1, hd1, hC1, h⟩ := h
  refine z_callV (pc' := 8) (M' := mX2_has) (As := [.int x1]) dX8_even_5 rfl ml_X8_101 me_X2_has hC1 rfl (by decide) rfl rfl hd1 (Nat.le_of_ble_eq_true rfl) ⟨Nat.le_refl _, Nat.le_refl _⟩ rfl ?_
  rintro _ _ ⟨y1, I1, L1, rfl, rfl, hP1⟩
  replace h := h y1 I1 L1 hP1
  refine z_if_ne (pc' := 11) (tgt := 13) dX8_even_8 rfl (by decide) (fun c2 => ?_) (fun c2 => ?_)
  · replace h := h.1 c2
    refine z_aload_n (pc' := 14) (x := 0) dX8_even_13 rfl rfl ?_
    refine z_getr (pc' := 17) (x := 1) dX8_even_14 rfl fl_X8_10 rfl rfl rfl ?_
    refine z_getr (pc' := 20) (x := 2) dX8_even_17 rfl fl_X8_209 rfl rfl rfl ?_
    refine z_iload_n (pc' := 21) (x := x1) dX8_even_20 rfl rfl ?_
    obtain ⟨j3, ha3, hb3, h⟩ := h
    refine z_iald (pc' := 22) (x := (I1 2 j3)) (j := j3) dX8_even_21 rfl rfl (by decide) ha3 hb3 rfl ?_
    refine z_istore_n (pc' := 23) (ls' := [some (.ref 0), some (.int x1), some (.int (I1 2 j3)), none, none, none, none, none, none]) dX8_even_22 rfl (by decide) rfl ?_
    refine z_iconst (pc' := 24) (v := 0) dX8_even_23 rfl (by decide) ?_
    refine z_istore_n (pc' := 25) (ls' := [some (.ref 0), some (.int x1), some (.int (I1 2 j3)), some (.int (0 : Int32)), none, none, none, none, none]) dX8_even_24 rfl (by decide) rfl ?_
    refine z_ldc2 (pc' := 28) (v := 9223372036854775807) dX8_even_25 rfl kl_X8_212 ?_
    refine z_lstore (pc' := 30) (ls' := [some (.ref 0), some (.int x1), some (.int (I1 2 j3)), some (.int (0 : Int32)), some (.long (9223372036854775807 : Int64)), none, none, none, none]) dX8_even_28 rfl (by decide) rfl ?_
    refine z_iconst (pc' := 31) (v := 0) dX8_even_30 rfl (by decide) ?_
    refine z_istore (pc' := 33) (ls' := [some (.ref 0), some (.int x1), some (.int (I1 2 j3)), some (.int (0 : Int32)), some (.long (9223372036854775807 : Int64)), none, some (.int (0 : Int32)), none, none]) dX8_even_31 rfl (by decide) rfl ?_
    exact h
  · replace h := h.2 c2
    refine z_iconst (pc' := 12) (v := -1) dX8_even_11 rfl (by decide) ?_
    exact z_iret dX8_even_12 rfl rfl ⟨Nat.le_refl _, Nat.le_refl _⟩ ⟨_, _, _, rfl, rfl, h⟩
set_option maxHeartbeats 4000000 in
set_option maxRecDepth 100000 in
theorem t_X8_even_33 {l : Launch} {G : zG} {d : Nat} {P : Int32 → zIM → zLM → Prop} {I : zIM} {L : zLM} {x1 : Int32} {x2 : Int32} {x3 : Int32} {x4 : Int64} {x6 : Int32}   (h : (((12 : Int32) < x6 → (∃ (d2 : Nat) (P2 : zIM → zLM → Prop), d2 + 1 ≤ d ∧ zCv l G d2 mX8_tell [.ref 0, .int x1, .int (0 : Int32), .int x2] I L P2 ∧ ∀ (I2 : zIM) (L2 : zLM), P2 I2 L2 → (P x3 I2 L2))) ∧ (¬ (12 : Int32) < x6 → (∃ (d3 : Nat) (P3 : zIM → zLM → Prop), d3 + 1 ≤ d ∧ zCv l G d3 mX8_tell [.ref 0, .int x1, .int (0 : Int32), .int x6] I L P3 ∧ ∀ (I3 : zIM) (L3 : zLM), P3 I3 L3 → (∃ (d4 : Nat) (P4 : zIM → zLM → Prop), d4 + 1 ≤ d ∧ zCv l G d4 mX4_solve [.ref 14] I3 L3 P4 ∧ ∀ (I4 : zIM) (L4 : zLM), P4 I4 L4 → (∃ (d5 : Nat) (P5 : Int64 → zIM → zLM → Prop), d5 + 1 ≤ d ∧ zCl l G d5 mX8_distanceFromMean [.ref 0, .int x1] I4 L4 P5 ∧ ∀ (y5 : Int64) (I5 : zIM) (L5 : zLM), P5 y5 I5 L5 → (((x4 ≤ y5 → (K_X8_even_33 l G d P I5 L5 x1 x2 x3 x4 (x6 + (1 : Int32)))) ∧ (¬ x4 ≤ y5 → (K_X8_even_33 l G d P I5 L5 x1 x2 x6 y5 (x6 + (1 : Int32)))))))))))) : K_X8_even_33 l G d P I L x1 x2 x3 x4 x6  := by
  refine z_iload (pc' := 35) (x := x6) dX8_even_33 rfl rfl ?_
  refine z_bipush (pc' := 37) (v := 12) dX8_even_35 rfl (by decide) ?_
  refine z_icmp_gt (pc' := 40) (tgt := 83) dX8_even_37 rfl (by decide) (fun c1 => ?_) (fun c1 => ?_)
  · replace h := h.1 c1
    refine z_aload_n (pc' := 84) (x := 0) dX8_even_83 rfl rfl ?_
    refine z_iload_n (pc' := 85) (x := x1) dX8_even_84 rfl rfl ?_
    refine z_iconst (pc' := 86) (v := 0) dX8_even_85 rfl (by decide) ?_
    refine z_iload_n (pc' := 87) (x := x2) dX8_even_86 rfl rfl ?_
    obtain ⟨d2, P2, hd2, hC2, h⟩ := h
    refine z_callV (pc' := 90) (M' := mX8_tell) (As := [.int x1, .int (0 : Int32), .int x2]) dX8_even_87 rfl ml_X8_116 me_X8_tell hC2 rfl (by decide) rfl rfl hd2 (Nat.le_of_ble_eq_true rfl) ⟨Nat.le_refl _, Nat.le_refl _⟩ rfl ?_
    rintro _ _ ⟨I2, L2, rfl, rfl, hP2⟩
    replace h := h I2 L2 hP2
    refine z_iload_n (pc' := 91) (x := x3) dX8_even_90 rfl rfl ?_
    exact z_iret dX8_even_91 rfl rfl ⟨Nat.le_refl _, Nat.le_refl _⟩ ⟨_, _, _, rfl, rfl, h⟩
  · replace h := h.2 c1
    refine z_aload_n (pc' := 41) (x := 0) dX8_even_40 rfl rfl ?_
    refine z_iload_n (pc' := 42) (x := x1) dX8_even_41 rfl rfl ?_
    refine z_iconst (pc' := 43) (v := 0) dX8_even_42 rfl (by decide) ?_
    refine z_iload (pc' := 45) (x := x6) dX8_even_43 rfl rfl ?_
    obtain ⟨d3, P3, hd3, hC3, h⟩ := h
    refine z_callV (pc' := 48) (M' := mX8_tell) (As := [.int x1, .int (0 : Int32), .int x6]) dX8_even_45 rfl ml_X8_116 me_X8_tell hC3 rfl (by decide) rfl rfl hd3 (Nat.le_of_ble_eq_true rfl) ⟨Nat.le_refl _, Nat.le_refl _⟩ rfl ?_
    rintro _ _ ⟨I3, L3, rfl, rfl, hP3⟩
    replace h := h I3 L3 hP3
    refine z_aload_n (pc' := 49) (x := 0) dX8_even_48 rfl rfl ?_
    refine z_getr (pc' := 52) (x := 14) dX8_even_49 rfl fl_X8_28 rfl rfl rfl ?_
    obtain ⟨d4, P4, hd4, hC4, h⟩ := h
    refine z_callV (pc' := 55) (M' := mX4_solve) (As := []) dX8_even_52 rfl ml_X8_152 me_X4_solve hC4 rfl (by decide) rfl rfl hd4 (Nat.le_of_ble_eq_true rfl) ⟨Nat.le_refl _, Nat.le_refl _⟩ rfl ?_
    rintro _ _ ⟨I4, L4, rfl, rfl, hP4⟩
    replace h := h I4 L4 hP4
    refine z_aload_n (pc' := 56) (x := 0) dX8_even_55 rfl rfl ?_
    refine z_iload_n (pc' := 57) (x := x1) dX8_even_56 rfl rfl ?_
    obtain ⟨d5, P5, hd5, hC5, h⟩ := h
    refine z_callV (pc' := 60) (M' := mX8_distanceFromMean) (As := [.int x1]) dX8_even_57 rfl ml_X8_214 me_X8_distanceFromMean hC5 rfl (by decide) rfl rfl hd5 (Nat.le_of_ble_eq_true rfl) ⟨Nat.le_refl _, Nat.le_refl _⟩ rfl ?_
    rintro _ _ ⟨y5, I5, L5, rfl, rfl, hP5⟩
    replace h := h y5 I5 L5 hP5
    refine z_lstore (pc' := 62) (ls' := [some (.ref 0), some (.int x1), some (.int x2), some (.int x3), some (.long x4), none, some (.int x6), some (.long y5), none]) dX8_even_60 rfl (by decide) rfl ?_
    refine z_lload (pc' := 64) (x := y5) dX8_even_62 rfl rfl ?_
    refine z_lload (pc' := 66) (x := x4) dX8_even_64 rfl rfl ?_
    refine z_lc_ge (pc' := 70) (tgt := 77) dX8_even_66 dX8_even_67 rfl (by decide) (fun c6 => ?_) (fun c6 => ?_)
    · replace h := h.1 c6
      refine z_iinc (pc' := 80) (x := x6) (v := (x6 + (1 : Int32))) (ls' := [some (.ref 0), some (.int x1), some (.int x2), some (.int x3), some (.long x4), none, some (.int (x6 + (1 : Int32))), some (.long y5), none]) dX8_even_77 rfl rfl (by rfl) (by decide) rfl ?_
      refine z_goto (pc' := 33) dX8_even_80 (by decide) ?_
      refine z_sub (pc' := 0) [some (.ref 0), some (.int x1), some (.int x2), some (.int x3), some (.long x4), none, some (.int (x6 + (1 : Int32))), none, none] (zsub_s (zsub_s (zsub_s (zsub_s (zsub_s (zsub_n (zsub_s (zsub_n (zsub_n zsub_nil))))))))) ?_
      exact h
    · replace h := h.2 c6
      refine z_lload (pc' := 72) (x := y5) dX8_even_70 rfl rfl ?_
      refine z_lstore (pc' := 74) (ls' := [some (.ref 0), some (.int x1), some (.int x2), some (.int x3), some (.long y5), none, some (.int x6), some (.long y5), none]) dX8_even_72 rfl (by decide) rfl ?_
      refine z_iload (pc' := 76) (x := x6) dX8_even_74 rfl rfl ?_
      refine z_istore_n (pc' := 77) (ls' := [some (.ref 0), some (.int x1), some (.int x2), some (.int x6), some (.long y5), none, some (.int x6), some (.long y5), none]) dX8_even_76 rfl (by decide) rfl ?_
      refine z_iinc (pc' := 80) (x := x6) (v := (x6 + (1 : Int32))) (ls' := [some (.ref 0), some (.int x1), some (.int x2), some (.int x6), some (.long y5), none, some (.int (x6 + (1 : Int32))), some (.long y5), none]) dX8_even_77 rfl rfl (by rfl) (by decide) rfl ?_
      refine z_goto (pc' := 33) dX8_even_80 (by decide) ?_
      refine z_sub (pc' := 0) [some (.ref 0), some (.int x1), some (.int x2), some (.int x6), some (.long y5), none, some (.int (x6 + (1 : Int32))), none, none] (zsub_s (zsub_s (zsub_s (zsub_s (zsub_s (zsub_n (zsub_s (zsub_n (zsub_n zsub_nil))))))))) ?_
      exact h
set_option maxHeartbeats 4000000 in
set_option maxRecDepth 100000 in
theorem t_X8_league {l : Launch} {G : zG} {d : Nat} {P : Int32 → zIM → zLM → Prop} {I : zIM} {L : zLM} {x1 : Int32}  (h : ((0 ≤ x1 → ((((x1 / (10 : Int32)) = (x1 % (10 : Int32)) → (P (-1 : Int32) I L)) ∧ (¬ (x1 / (10 : Int32)) = (x1 % (10 : Int32)) → (∃ (d3 : Nat) (P3 : Int32 → zIM → zLM → Prop), d3 + 1 ≤ d ∧ zCi l G d3 mX2_has [.ref 1, .int (x1 / (10 : Int32))] I L P3 ∧ ∀ (y3 : Int32) (I3 : zIM) (L3 : zLM), P3 y3 I3 L3 → (((y3 = 0 → (P (-1 : Int32) I3 L3)) ∧ (¬ y3 = 0 → (∃ (d5 : Nat) (P5 : Int32 → zIM → zLM → Prop), d5 + 1 ≤ d ∧ zCi l G d5 mX2_has [.ref 1, .int (x1 % (10 : Int32))] I3 L3 P5 ∧ ∀ (y5 : Int32) (I5 : zIM) (L5 : zLM), P5 y5 I5 L5 → (((¬ y5 = 0 → (∃ (d7 : Nat) (P7 : zIM → zLM → Prop), d7 + 1 ≤ d ∧ zCv l G d7 mX4_solve [.ref 14] I5 L5 P7 ∧ ∀ (I7 : zIM) (L7 : zLM), P7 I7 L7 → (∃ (d8 : Nat) (P8 : Int32 → zIM → zLM → Prop), d8 + 1 ≤ d ∧ zCi l G d8 mX8_winner [.ref 0, .int (x1 / (10 : Int32)), .int (x1 % (10 : Int32))] I7 L7 P8 ∧ ∀ (y8 : Int32) (I8 : zIM) (L8 : zLM), P8 y8 I8 L8 → (P y8 I8 L8)))) ∧ (y5 = 0 → (P (-1 : Int32) I5 L5))))))))))))) ∧ (¬ 0 ≤ x1 → (P (-1 : Int32) I L)))) : zCi l G d mX8_league [.ref 0, .int x1] I L P := by
  refine zCn.of (ls := [some (.ref 0), some (.int x1), none, none]) (by decide) (Nat.le_of_ble_eq_true rfl) rfl ?_
  refine z_iload_n (pc' := 1) (x := x1) dX8_league_0 rfl rfl ?_
  refine z_if_ge (pc' := 4) (tgt := 6) dX8_league_1 rfl (by decide) (fun c1 => ?_) (fun c1 => ?_)
  · replace h := h.1 c1
    refine z_iload_n (pc' := 7) (x := x1) dX8_league_6 rfl rfl ?_
    refine z_bipush (pc' := 9) (v := 10) dX8_league_7 rfl (by decide) ?_
    refine z_idiv (pc' := 10) dX8_league_9 rfl (by decide) ?_
    refine z_istore_n (pc' := 11) (ls' := [some (.ref 0), some (.int x1), some (.int (x1 / (10 : Int32))), none]) dX8_league_10 rfl (by decide) rfl ?_
    refine z_iload_n (pc' := 12) (x := x1) dX8_league_11 rfl rfl ?_
    refine z_bipush (pc' := 14) (v := 10) dX8_league_12 rfl (by decide) ?_
    refine z_irem (pc' := 15) dX8_league_14 rfl (by decide) ?_
    refine z_istore_n (pc' := 16) (ls' := [some (.ref 0), some (.int x1), some (.int (x1 / (10 : Int32))), some (.int (x1 % (10 : Int32)))]) dX8_league_15 rfl (by decide) rfl ?_
    refine z_iload_n (pc' := 17) (x := (x1 / (10 : Int32))) dX8_league_16 rfl rfl ?_
    refine z_iload_n (pc' := 18) (x := (x1 % (10 : Int32))) dX8_league_17 rfl rfl ?_
    refine z_icmp_eq (pc' := 21) (tgt := 43) dX8_league_18 rfl (by decide) (fun c2 => ?_) (fun c2 => ?_)
    · replace h := h.1 c2
      refine z_iconst (pc' := 44) (v := -1) dX8_league_43 rfl (by decide) ?_
      exact z_iret dX8_league_44 rfl rfl ⟨Nat.le_refl _, Nat.le_refl _⟩ ⟨_, _, _, rfl, rfl, h⟩
    · replace h := h.2 c2
      refine z_aload_n (pc' := 22) (x := 0) dX8_league_21 rfl rfl ?_
      refine z_getr (pc' := 25) (x := 1) dX8_league_22 rfl fl_X8_10 rfl rfl rfl ?_
      refine z_iload_n (pc' := 26) (x := (x1 / (10 : Int32))) dX8_league_25 rfl rfl ?_
      obtain ⟨d3, P3, hd3, hC3, h⟩ := h
      refine z_callV (pc' := 29) (M' := mX2_has) (As := [.int (x1 / (10 : Int32))]) dX8_league_26 rfl ml_X8_101 me_X2_has hC3 rfl (by decide) rfl rfl hd3 (Nat.le_of_ble_eq_true rfl) ⟨Nat.le_refl _, Nat.le_refl _⟩ rfl ?_
      rintro _ _ ⟨y3, I3, L3, rfl, rfl, hP3⟩
      replace h := h y3 I3 L3 hP3
      refine z_if_eq (pc' := 32) (tgt := 43) dX8_league_29 rfl (by decide) (fun c4 => ?_) (fun c4 => ?_)
      · replace h := h.1 c4
        refine z_iconst (pc' := 44) (v := -1) dX8_league_43 rfl (by decide) ?_
        exact z_iret dX8_league_44 rfl rfl ⟨Nat.le_refl _, Nat.le_refl _⟩ ⟨_, _, _, rfl, rfl, h⟩
      · replace h := h.2 c4
        refine z_aload_n (pc' := 33) (x := 0) dX8_league_32 rfl rfl ?_
        refine z_getr (pc' := 36) (x := 1) dX8_league_33 rfl fl_X8_10 rfl rfl rfl ?_
        refine z_iload_n (pc' := 37) (x := (x1 % (10 : Int32))) dX8_league_36 rfl rfl ?_
        obtain ⟨d5, P5, hd5, hC5, h⟩ := h
        refine z_callV (pc' := 40) (M' := mX2_has) (As := [.int (x1 % (10 : Int32))]) dX8_league_37 rfl ml_X8_101 me_X2_has hC5 rfl (by decide) rfl rfl hd5 (Nat.le_of_ble_eq_true rfl) ⟨Nat.le_refl _, Nat.le_refl _⟩ rfl ?_
        rintro _ _ ⟨y5, I5, L5, rfl, rfl, hP5⟩
        replace h := h y5 I5 L5 hP5
        refine z_if_ne (pc' := 43) (tgt := 45) dX8_league_40 rfl (by decide) (fun c6 => ?_) (fun c6 => ?_)
        · replace h := h.1 c6
          refine z_aload_n (pc' := 46) (x := 0) dX8_league_45 rfl rfl ?_
          refine z_getr (pc' := 49) (x := 14) dX8_league_46 rfl fl_X8_28 rfl rfl rfl ?_
          obtain ⟨d7, P7, hd7, hC7, h⟩ := h
          refine z_callV (pc' := 52) (M' := mX4_solve) (As := []) dX8_league_49 rfl ml_X8_152 me_X4_solve hC7 rfl (by decide) rfl rfl hd7 (Nat.le_of_ble_eq_true rfl) ⟨Nat.le_refl _, Nat.le_refl _⟩ rfl ?_
          rintro _ _ ⟨I7, L7, rfl, rfl, hP7⟩
          replace h := h I7 L7 hP7
          refine z_aload_n (pc' := 53) (x := 0) dX8_league_52 rfl rfl ?_
          refine z_iload_n (pc' := 54) (x := (x1 / (10 : Int32))) dX8_league_53 rfl rfl ?_
          refine z_iload_n (pc' := 55) (x := (x1 % (10 : Int32))) dX8_league_54 rfl rfl ?_
          obtain ⟨d8, P8, hd8, hC8, h⟩ := h
          refine z_callV (pc' := 58) (M' := mX8_winner) (As := [.int (x1 / (10 : Int32)), .int (x1 % (10 : Int32))]) dX8_league_55 rfl ml_X8_217 me_X8_winner hC8 rfl (by decide) rfl rfl hd8 (Nat.le_of_ble_eq_true rfl) ⟨Nat.le_refl _, Nat.le_refl _⟩ rfl ?_
          rintro _ _ ⟨y8, I8, L8, rfl, rfl, hP8⟩
          replace h := h y8 I8 L8 hP8
          exact z_iret dX8_league_58 rfl rfl ⟨Nat.le_refl _, Nat.le_refl _⟩ ⟨_, _, _, rfl, rfl, h⟩
        · replace h := h.2 c6
          refine z_iconst (pc' := 44) (v := -1) dX8_league_43 rfl (by decide) ?_
          exact z_iret dX8_league_44 rfl rfl ⟨Nat.le_refl _, Nat.le_refl _⟩ ⟨_, _, _, rfl, rfl, h⟩
  · replace h := h.2 c1
    refine z_iconst (pc' := 5) (v := -1) dX8_league_4 rfl (by decide) ?_
    exact z_iret dX8_league_5 rfl rfl ⟨Nat.le_refl _, Nat.le_refl _⟩ ⟨_, _, _, rfl, rfl, h⟩
set_option maxHeartbeats 4000000 in
set_option maxRecDepth 100000 in
theorem t_X8_points {l : Launch} {G : zG} {d : Nat} {P : Int32 → zIM → zLM → Prop} {I : zIM} {L : zLM} {x1 : Int32}  (h : ∃ (d1 : Nat) (P1 : Int32 → zIM → zLM → Prop), d1 + 1 ≤ d ∧ zCi l G d1 mX2_has [.ref 1, .int x1] I L P1 ∧ ∀ (y1 : Int32) (I1 : zIM) (L1 : zLM), P1 y1 I1 L1 → (((¬ y1 = 0 → (∃ (d3 : Nat) (P3 : zIM → zLM → Prop), d3 + 1 ≤ d ∧ zCv l G d3 mX4_solve [.ref 14] I1 L1 P3 ∧ ∀ (I3 : zIM) (L3 : zLM), P3 I3 L3 → (K_X8_points_24 l G d P I3 L3 x1 (0 : Int32) (0 : Int32)))) ∧ (y1 = 0 → (P (-1 : Int32) I1 L1))))) : zCi l G d mX8_points [.ref 0, .int x1] I L P := by
  refine zCn.of (ls := [some (.ref 0), some (.int x1), none, none, none]) (by decide) (Nat.le_of_ble_eq_true rfl) rfl ?_
  refine z_aload_n (pc' := 1) (x := 0) dX8_points_0 rfl rfl ?_
  refine z_getr (pc' := 4) (x := 1) dX8_points_1 rfl fl_X8_10 rfl rfl rfl ?_
  refine z_iload_n (pc' := 5) (x := x1) dX8_points_4 rfl rfl ?_
  obtain ⟨d1, P1, hd1, hC1, h⟩ := h
  refine z_callV (pc' := 8) (M' := mX2_has) (As := [.int x1]) dX8_points_5 rfl ml_X8_101 me_X2_has hC1 rfl (by decide) rfl rfl hd1 (Nat.le_of_ble_eq_true rfl) ⟨Nat.le_refl _, Nat.le_refl _⟩ rfl ?_
  rintro _ _ ⟨y1, I1, L1, rfl, rfl, hP1⟩
  replace h := h y1 I1 L1 hP1
  refine z_if_ne (pc' := 11) (tgt := 13) dX8_points_8 rfl (by decide) (fun c2 => ?_) (fun c2 => ?_)
  · replace h := h.1 c2
    refine z_aload_n (pc' := 14) (x := 0) dX8_points_13 rfl rfl ?_
    refine z_getr (pc' := 17) (x := 14) dX8_points_14 rfl fl_X8_28 rfl rfl rfl ?_
    obtain ⟨d3, P3, hd3, hC3, h⟩ := h
    refine z_callV (pc' := 20) (M' := mX4_solve) (As := []) dX8_points_17 rfl ml_X8_152 me_X4_solve hC3 rfl (by decide) rfl rfl hd3 (Nat.le_of_ble_eq_true rfl) ⟨Nat.le_refl _, Nat.le_refl _⟩ rfl ?_
    rintro _ _ ⟨I3, L3, rfl, rfl, hP3⟩
    replace h := h I3 L3 hP3
    refine z_iconst (pc' := 21) (v := 0) dX8_points_20 rfl (by decide) ?_
    refine z_istore_n (pc' := 22) (ls' := [some (.ref 0), some (.int x1), some (.int (0 : Int32)), none, none]) dX8_points_21 rfl (by decide) rfl ?_
    refine z_iconst (pc' := 23) (v := 0) dX8_points_22 rfl (by decide) ?_
    refine z_istore_n (pc' := 24) (ls' := [some (.ref 0), some (.int x1), some (.int (0 : Int32)), some (.int (0 : Int32)), none]) dX8_points_23 rfl (by decide) rfl ?_
    exact h
  · replace h := h.2 c2
    refine z_iconst (pc' := 12) (v := -1) dX8_points_11 rfl (by decide) ?_
    exact z_iret dX8_points_12 rfl rfl ⟨Nat.le_refl _, Nat.le_refl _⟩ ⟨_, _, _, rfl, rfl, h⟩
set_option maxHeartbeats 4000000 in
set_option maxRecDepth 100000 in
theorem t_X8_points_24 {l : Launch} {G : zG} {d : Nat} {P : Int32 → zIM → zLM → Prop} {I : zIM} {L : zLM} {x1 : Int32} {x2 : Int32} {x3 : Int32}   (h : (((I 1 6) ≤ x3 → (P x2 I L)) ∧ (¬ (I 1 6) ≤ x3 → (((x3 = x1 → (K_X8_points_24 l G d P I L x1 x2 (x3 + (1 : Int32)))) ∧ (¬ x3 = x1 → (∃ (d3 : Nat) (P3 : Int32 → zIM → zLM → Prop), d3 + 1 ≤ d ∧ zCi l G d3 mX8_winner [.ref 0, .int x1, .int x3] I L P3 ∧ ∀ (y3 : Int32) (I3 : zIM) (L3 : zLM), P3 y3 I3 L3 → (((¬ y3 = (1 : Int32) → (((¬ y3 = 0 → (K_X8_points_24 l G d P I3 L3 x1 (x2 + (0 : Int32)) (x3 + (1 : Int32)))) ∧ (y3 = 0 → (K_X8_points_24 l G d P I3 L3 x1 (x2 + (1 : Int32)) (x3 + (1 : Int32))))))) ∧ (y3 = (1 : Int32) → (K_X8_points_24 l G d P I3 L3 x1 (x2 + (2 : Int32)) (x3 + (1 : Int32))))))))))))) : K_X8_points_24 l G d P I L x1 x2 x3  := by
  refine z_iload_n (pc' := 25) (x := x3) dX8_points_24 rfl rfl ?_
  refine z_aload_n (pc' := 26) (x := 0) dX8_points_25 rfl rfl ?_
  refine z_getr (pc' := 29) (x := 1) dX8_points_26 rfl fl_X8_10 rfl rfl rfl ?_
  refine z_geti (pc' := 32) (x := (I 1 6)) dX8_points_29 rfl fl_X8_79 rfl rfl rfl ?_
  refine z_icmp_ge (pc' := 35) (tgt := 77) dX8_points_32 rfl (by decide) (fun c1 => ?_) (fun c1 => ?_)
  · replace h := h.1 c1
    refine z_iload_n (pc' := 78) (x := x2) dX8_points_77 rfl rfl ?_
    exact z_iret dX8_points_78 rfl rfl ⟨Nat.le_refl _, Nat.le_refl _⟩ ⟨_, _, _, rfl, rfl, h⟩
  · replace h := h.2 c1
    refine z_iload_n (pc' := 36) (x := x3) dX8_points_35 rfl rfl ?_
    refine z_iload_n (pc' := 37) (x := x1) dX8_points_36 rfl rfl ?_
    refine z_icmp_eq (pc' := 40) (tgt := 71) dX8_points_37 rfl (by decide) (fun c2 => ?_) (fun c2 => ?_)
    · replace h := h.1 c2
      refine z_iinc (pc' := 74) (x := x3) (v := (x3 + (1 : Int32))) (ls' := [some (.ref 0), some (.int x1), some (.int x2), some (.int (x3 + (1 : Int32))), none]) dX8_points_71 rfl rfl (by rfl) (by decide) rfl ?_
      refine z_goto (pc' := 24) dX8_points_74 (by decide) ?_
      exact h
    · replace h := h.2 c2
      refine z_aload_n (pc' := 41) (x := 0) dX8_points_40 rfl rfl ?_
      refine z_iload_n (pc' := 42) (x := x1) dX8_points_41 rfl rfl ?_
      refine z_iload_n (pc' := 43) (x := x3) dX8_points_42 rfl rfl ?_
      obtain ⟨d3, P3, hd3, hC3, h⟩ := h
      refine z_callV (pc' := 46) (M' := mX8_winner) (As := [.int x1, .int x3]) dX8_points_43 rfl ml_X8_217 me_X8_winner hC3 rfl (by decide) rfl rfl hd3 (Nat.le_of_ble_eq_true rfl) ⟨Nat.le_refl _, Nat.le_refl _⟩ rfl ?_
      rintro _ _ ⟨y3, I3, L3, rfl, rfl, hP3⟩
      replace h := h y3 I3 L3 hP3
      refine z_istore (pc' := 48) (ls' := [some (.ref 0), some (.int x1), some (.int x2), some (.int x3), some (.int y3)]) dX8_points_46 rfl (by decide) rfl ?_
      refine z_iload_n (pc' := 49) (x := x2) dX8_points_48 rfl rfl ?_
      refine z_iload (pc' := 51) (x := y3) dX8_points_49 rfl rfl ?_
      refine z_iconst (pc' := 52) (v := 1) dX8_points_51 rfl (by decide) ?_
      refine z_icmp_ne (pc' := 55) (tgt := 59) dX8_points_52 rfl (by decide) (fun c4 => ?_) (fun c4 => ?_)
      · replace h := h.1 c4
        refine z_iload (pc' := 61) (x := y3) dX8_points_59 rfl rfl ?_
        refine z_if_ne (pc' := 64) (tgt := 68) dX8_points_61 rfl (by decide) (fun c5 => ?_) (fun c5 => ?_)
        · replace h := h.1 c5
          refine z_iconst (pc' := 69) (v := 0) dX8_points_68 rfl (by decide) ?_
          refine z_iadd (pc' := 70) dX8_points_69 rfl ?_
          refine z_istore_n (pc' := 71) (ls' := [some (.ref 0), some (.int x1), some (.int (x2 + (0 : Int32))), some (.int x3), some (.int y3)]) dX8_points_70 rfl (by decide) rfl ?_
          refine z_iinc (pc' := 74) (x := x3) (v := (x3 + (1 : Int32))) (ls' := [some (.ref 0), some (.int x1), some (.int (x2 + (0 : Int32))), some (.int (x3 + (1 : Int32))), some (.int y3)]) dX8_points_71 rfl rfl (by rfl) (by decide) rfl ?_
          refine z_goto (pc' := 24) dX8_points_74 (by decide) ?_
          refine z_sub (pc' := 0) [some (.ref 0), some (.int x1), some (.int (x2 + (0 : Int32))), some (.int (x3 + (1 : Int32))), none] (zsub_s (zsub_s (zsub_s (zsub_s (zsub_n zsub_nil))))) ?_
          exact h
        · replace h := h.2 c5
          refine z_iconst (pc' := 65) (v := 1) dX8_points_64 rfl (by decide) ?_
          refine z_goto (pc' := 69) dX8_points_65 (by decide) ?_
          refine z_iadd (pc' := 70) dX8_points_69 rfl ?_
          refine z_istore_n (pc' := 71) (ls' := [some (.ref 0), some (.int x1), some (.int (x2 + (1 : Int32))), some (.int x3), some (.int y3)]) dX8_points_70 rfl (by decide) rfl ?_
          refine z_iinc (pc' := 74) (x := x3) (v := (x3 + (1 : Int32))) (ls' := [some (.ref 0), some (.int x1), some (.int (x2 + (1 : Int32))), some (.int (x3 + (1 : Int32))), some (.int y3)]) dX8_points_71 rfl rfl (by rfl) (by decide) rfl ?_
          refine z_goto (pc' := 24) dX8_points_74 (by decide) ?_
          refine z_sub (pc' := 0) [some (.ref 0), some (.int x1), some (.int (x2 + (1 : Int32))), some (.int (x3 + (1 : Int32))), none] (zsub_s (zsub_s (zsub_s (zsub_s (zsub_n zsub_nil))))) ?_
          exact h
      · replace h := h.2 c4
        refine z_iconst (pc' := 56) (v := 2) dX8_points_55 rfl (by decide) ?_
        refine z_goto (pc' := 69) dX8_points_56 (by decide) ?_
        refine z_iadd (pc' := 70) dX8_points_69 rfl ?_
        refine z_istore_n (pc' := 71) (ls' := [some (.ref 0), some (.int x1), some (.int (x2 + (2 : Int32))), some (.int x3), some (.int y3)]) dX8_points_70 rfl (by decide) rfl ?_
        refine z_iinc (pc' := 74) (x := x3) (v := (x3 + (1 : Int32))) (ls' := [some (.ref 0), some (.int x1), some (.int (x2 + (2 : Int32))), some (.int (x3 + (1 : Int32))), some (.int y3)]) dX8_points_71 rfl rfl (by rfl) (by decide) rfl ?_
        refine z_goto (pc' := 24) dX8_points_74 (by decide) ?_
        refine z_sub (pc' := 0) [some (.ref 0), some (.int x1), some (.int (x2 + (2 : Int32))), some (.int (x3 + (1 : Int32))), none] (zsub_s (zsub_s (zsub_s (zsub_s (zsub_n zsub_nil))))) ?_
        exact h
set_option maxHeartbeats 4000000 in
set_option maxRecDepth 100000 in
theorem t_X8_judge {l : Launch} {G : zG} {d : Nat} {P : Int32 → zIM → zLM → Prop} {I : zIM} {L : zLM} {x1 : Int32} {x2 : Int32}  (h : ∃ (d1 : Nat) (P1 : Int32 → zIM → zLM → Prop), d1 + 1 ≤ d ∧ zCi l G d1 mX8_isWithin [.int x1, .int (5 : Int32)] I L P1 ∧ ∀ (y1 : Int32) (I1 : zIM) (L1 : zLM), P1 y1 I1 L1 → (((y1 = 0 → (P (-1 : Int32) I1 L1)) ∧ (¬ y1 = 0 → (∃ (d3 : Nat) (P3 : Int32 → zIM → zLM → Prop), d3 + 1 ≤ d ∧ zCi l G d3 mX8_isWithin [.int x2, .int (1 : Int32)] I1 L1 P3 ∧ ∀ (y3 : Int32) (I3 : zIM) (L3 : zLM), P3 y3 I3 L3 → (((¬ y3 = 0 → (∃ j5 : Nat, x1 = nI j5 ∧ j5 < 6 ∧ ((((I3 (31 + 2 * j5) 0) = 0 → (∃ (d7 : Nat) (P7 : zIM → zLM → Prop), d7 + 1 ≤ d ∧ zCv l G d7 mX4_solve [.ref 14] I3 L3 P7 ∧ ∀ (I7 : zIM) (L7 : zLM), P7 I7 L7 → (∃ (d8 : Nat) (P8 : zIM → zLM → Prop), d8 + 1 ≤ d ∧ zCv l G d8 mX7_look [.ref 21, .ref (31 + 2 * j5)] I7 L7 P8 ∧ ∀ (I8 : zIM) (L8 : zLM), P8 I8 L8 → (((¬ x2 = 0 → (P (I8 21 1) I8 L8)) ∧ (x2 = 0 → (P (I8 21 0) I8 L8))))))) ∧ (¬ (I3 (31 + 2 * j5) 0) = 0 → (((¬ (I3 (31 + 2 * j5) 0) = (-2 : Int32) → (P (-12 : Int32) I3 L3)) ∧ ((I3 (31 + 2 * j5) 0) = (-2 : Int32) → (P (-11 : Int32) I3 L3))))))))) ∧ (y3 = 0 → (P (-1 : Int32) I3 L3))))))))) : zCi l G d mX8_judge [.ref 0, .int x1, .int x2] I L P := by
  refine zCn.of (ls := [some (.ref 0), some (.int x1), some (.int x2), none]) (by decide) (Nat.le_of_ble_eq_true rfl) rfl ?_
  refine z_iload_n (pc' := 1) (x := x1) dX8_judge_0 rfl rfl ?_
  refine z_iconst (pc' := 2) (v := 5) dX8_judge_1 rfl (by decide) ?_
  obtain ⟨d1, P1, hd1, hC1, h⟩ := h
  refine z_callS (pc' := 5) (M' := mX8_isWithin) (As := [.int x1, .int (5 : Int32)]) dX8_judge_2 rfl ml_X8_75 me_X8_isWithin hC1 rfl hd1 (Nat.le_of_ble_eq_true rfl) ⟨Nat.le_refl _, Nat.le_refl _⟩ rfl ?_
  rintro _ _ ⟨y1, I1, L1, rfl, rfl, hP1⟩
  replace h := h y1 I1 L1 hP1
  refine z_if_eq (pc' := 8) (tgt := 16) dX8_judge_5 rfl (by decide) (fun c2 => ?_) (fun c2 => ?_)
  · replace h := h.1 c2
    refine z_iconst (pc' := 17) (v := -1) dX8_judge_16 rfl (by decide) ?_
    exact z_iret dX8_judge_17 rfl rfl ⟨Nat.le_refl _, Nat.le_refl _⟩ ⟨_, _, _, rfl, rfl, h⟩
  · replace h := h.2 c2
    refine z_iload_n (pc' := 9) (x := x2) dX8_judge_8 rfl rfl ?_
    refine z_iconst (pc' := 10) (v := 1) dX8_judge_9 rfl (by decide) ?_
    obtain ⟨d3, P3, hd3, hC3, h⟩ := h
    refine z_callS (pc' := 13) (M' := mX8_isWithin) (As := [.int x2, .int (1 : Int32)]) dX8_judge_10 rfl ml_X8_75 me_X8_isWithin hC3 rfl hd3 (Nat.le_of_ble_eq_true rfl) ⟨Nat.le_refl _, Nat.le_refl _⟩ rfl ?_
    rintro _ _ ⟨y3, I3, L3, rfl, rfl, hP3⟩
    replace h := h y3 I3 L3 hP3
    refine z_if_ne (pc' := 16) (tgt := 18) dX8_judge_13 rfl (by decide) (fun c4 => ?_) (fun c4 => ?_)
    · replace h := h.1 c4
      refine z_aload_n (pc' := 19) (x := 0) dX8_judge_18 rfl rfl ?_
      refine z_getr (pc' := 22) (x := 30) dX8_judge_19 rfl fl_X8_66 rfl rfl rfl ?_
      refine z_iload_n (pc' := 23) (x := x1) dX8_judge_22 rfl rfl ?_
      obtain ⟨j5, ha5, hb5, h⟩ := h
      refine z_aald (pc' := 24) (x := (31 + 2 * j5)) (j := j5) dX8_judge_23 rfl rfl (by decide) ha5 hb5 (zR_sh hb5) ?_
      refine z_astore_n (pc' := 25) (ls' := [some (.ref 0), some (.int x1), some (.int x2), some (.ref (31 + 2 * j5))]) dX8_judge_24 rfl (by decide) rfl ?_
      refine z_aload_n (pc' := 26) (x := (31 + 2 * j5)) dX8_judge_25 rfl rfl ?_
      refine z_geti (pc' := 29) (x := (I3 (31 + 2 * j5) 0)) dX8_judge_26 rfl fl_X8_87 (zS_sh hb5) rfl rfl ?_
      refine z_if_eq (pc' := 32) (tgt := 49) dX8_judge_29 rfl (by decide) (fun c6 => ?_) (fun c6 => ?_)
      · replace h := h.1 c6
        refine z_aload_n (pc' := 50) (x := 0) dX8_judge_49 rfl rfl ?_
        refine z_getr (pc' := 53) (x := 14) dX8_judge_50 rfl fl_X8_28 rfl rfl rfl ?_
        obtain ⟨d7, P7, hd7, hC7, h⟩ := h
        refine z_callV (pc' := 56) (M' := mX4_solve) (As := []) dX8_judge_53 rfl ml_X8_152 me_X4_solve hC7 rfl (by decide) rfl rfl hd7 (Nat.le_of_ble_eq_true rfl) ⟨Nat.le_refl _, Nat.le_refl _⟩ rfl ?_
        rintro _ _ ⟨I7, L7, rfl, rfl, hP7⟩
        replace h := h I7 L7 hP7
        refine z_aload_n (pc' := 57) (x := 0) dX8_judge_56 rfl rfl ?_
        refine z_getr (pc' := 60) (x := 21) dX8_judge_57 rfl fl_X8_46 rfl rfl rfl ?_
        refine z_aload_n (pc' := 61) (x := (31 + 2 * j5)) dX8_judge_60 rfl rfl ?_
        obtain ⟨d8, P8, hd8, hC8, h⟩ := h
        refine z_callV (pc' := 64) (M' := mX7_look) (As := [.ref (31 + 2 * j5)]) dX8_judge_61 rfl ml_X8_220 me_X7_look hC8 rfl (by decide) rfl rfl hd8 (Nat.le_of_ble_eq_true rfl) ⟨Nat.le_refl _, Nat.le_refl _⟩ rfl ?_
        rintro _ _ ⟨I8, L8, rfl, rfl, hP8⟩
        replace h := h I8 L8 hP8
        refine z_iload_n (pc' := 65) (x := x2) dX8_judge_64 rfl rfl ?_
        refine z_if_ne (pc' := 68) (tgt := 78) dX8_judge_65 rfl (by decide) (fun c9 => ?_) (fun c9 => ?_)
        · replace h := h.1 c9
          refine z_aload_n (pc' := 79) (x := 0) dX8_judge_78 rfl rfl ?_
          refine z_getr (pc' := 82) (x := 21) dX8_judge_79 rfl fl_X8_46 rfl rfl rfl ?_
          refine z_geti (pc' := 85) (x := (I8 21 1)) dX8_judge_82 rfl fl_X8_227 rfl rfl rfl ?_
          exact z_iret dX8_judge_85 rfl rfl ⟨Nat.le_refl _, Nat.le_refl _⟩ ⟨_, _, _, rfl, rfl, h⟩
        · replace h := h.2 c9
          refine z_aload_n (pc' := 69) (x := 0) dX8_judge_68 rfl rfl ?_
          refine z_getr (pc' := 72) (x := 21) dX8_judge_69 rfl fl_X8_46 rfl rfl rfl ?_
          refine z_geti (pc' := 75) (x := (I8 21 0)) dX8_judge_72 rfl fl_X8_224 rfl rfl rfl ?_
          refine z_goto (pc' := 85) dX8_judge_75 (by decide) ?_
          exact z_iret dX8_judge_85 rfl rfl ⟨Nat.le_refl _, Nat.le_refl _⟩ ⟨_, _, _, rfl, rfl, h⟩
      · replace h := h.2 c6
        refine z_aload_n (pc' := 33) (x := (31 + 2 * j5)) dX8_judge_32 rfl rfl ?_
        refine z_geti (pc' := 36) (x := (I3 (31 + 2 * j5) 0)) dX8_judge_33 rfl fl_X8_87 (zS_sh hb5) rfl rfl ?_
        refine z_bipush (pc' := 38) (v := -2) dX8_judge_36 rfl (by decide) ?_
        refine z_icmp_ne (pc' := 41) (tgt := 46) dX8_judge_38 rfl (by decide) (fun c10 => ?_) (fun c10 => ?_)
        · replace h := h.1 c10
          refine z_bipush (pc' := 48) (v := -12) dX8_judge_46 rfl (by decide) ?_
          exact z_iret dX8_judge_48 rfl rfl ⟨Nat.le_refl _, Nat.le_refl _⟩ ⟨_, _, _, rfl, rfl, h⟩
        · replace h := h.2 c10
          refine z_bipush (pc' := 43) (v := -11) dX8_judge_41 rfl (by decide) ?_
          refine z_goto (pc' := 48) dX8_judge_43 (by decide) ?_
          exact z_iret dX8_judge_48 rfl rfl ⟨Nat.le_refl _, Nat.le_refl _⟩ ⟨_, _, _, rfl, rfl, h⟩
    · replace h := h.2 c4
      refine z_iconst (pc' := 17) (v := -1) dX8_judge_16 rfl (by decide) ?_
      exact z_iret dX8_judge_17 rfl rfl ⟨Nat.le_refl _, Nat.le_refl _⟩ ⟨_, _, _, rfl, rfl, h⟩
set_option maxHeartbeats 4000000 in
set_option maxRecDepth 100000 in
theorem t_X8_chance {l : Launch} {G : zG} {d : Nat} {P : Int64 → zIM → zLM → Prop} {I : zIM} {L : zLM} {x1 : Int32} {x2 : Int32}  (h : ∃ (d1 : Nat) (P1 : Int32 → zIM → zLM → Prop), d1 + 1 ≤ d ∧ zCi l G d1 mX8_isWithin [.int x1, .int (5 : Int32)] I L P1 ∧ ∀ (y1 : Int32) (I1 : zIM) (L1 : zLM), P1 y1 I1 L1 → (((y1 = 0 → (P (-9223372036854775808 : Int64) I1 L1)) ∧ (¬ y1 = 0 → (∃ (d3 : Nat) (P3 : Int32 → zIM → zLM → Prop), d3 + 1 ≤ d ∧ zCi l G d3 mX8_isWithin [.int x2, .int (1 : Int32)] I1 L1 P3 ∧ ∀ (y3 : Int32) (I3 : zIM) (L3 : zLM), P3 y3 I3 L3 → (((y3 = 0 → (P (-9223372036854775808 : Int64) I3 L3)) ∧ (¬ y3 = 0 → (∃ j5 : Nat, x1 = nI j5 ∧ j5 < 6 ∧ ((((I3 (31 + 2 * j5) 0) = 0 → (∃ (d7 : Nat) (P7 : zIM → zLM → Prop), d7 + 1 ≤ d ∧ zCv l G d7 mX4_solve [.ref 14] I3 L3 P7 ∧ ∀ (I7 : zIM) (L7 : zLM), P7 I7 L7 → (∃ (d8 : Nat) (P8 : zIM → zLM → Prop), d8 + 1 ≤ d ∧ zCv l G d8 mX7_look [.ref 21, .ref (31 + 2 * j5)] I7 L7 P8 ∧ ∀ (I8 : zIM) (L8 : zLM), P8 I8 L8 → (∃ (d9 : Nat) (P9 : Int64 → zIM → zLM → Prop), d9 + 1 ≤ d ∧ zCl l G d9 mX8_lowest [.long (L8 21 2), .long (L8 21 3), .int x2] I8 L8 P9 ∧ ∀ (y9 : Int64) (I9 : zIM) (L9 : zLM), P9 y9 I9 L9 → (P y9 I9 L9))))) ∧ (¬ (I3 (31 + 2 * j5) 0) = 0 → (P (-9223372036854775808 : Int64) I3 L3))))))))))))) : zCl l G d mX8_chance [.ref 0, .int x1, .int x2] I L P := by
  refine zCn.of (ls := [some (.ref 0), some (.int x1), some (.int x2)]) (by decide) (Nat.le_of_ble_eq_true rfl) rfl ?_
  refine z_iload_n (pc' := 1) (x := x1) dX8_chance_0 rfl rfl ?_
  refine z_iconst (pc' := 2) (v := 5) dX8_chance_1 rfl (by decide) ?_
  obtain ⟨d1, P1, hd1, hC1, h⟩ := h
  refine z_callS (pc' := 5) (M' := mX8_isWithin) (As := [.int x1, .int (5 : Int32)]) dX8_chance_2 rfl ml_X8_75 me_X8_isWithin hC1 rfl hd1 (Nat.le_of_ble_eq_true rfl) ⟨Nat.le_refl _, Nat.le_refl _⟩ rfl ?_
  rintro _ _ ⟨y1, I1, L1, rfl, rfl, hP1⟩
  replace h := h y1 I1 L1 hP1
  refine z_if_eq (pc' := 8) (tgt := 28) dX8_chance_5 rfl (by decide) (fun c2 => ?_) (fun c2 => ?_)
  · replace h := h.1 c2
    refine z_ldc2 (pc' := 31) (v := -9223372036854775808) dX8_chance_28 rfl kl_X8_150 ?_
    exact z_lret dX8_chance_31 rfl ⟨Nat.le_refl _, Nat.le_refl _⟩ ⟨_, _, _, rfl, rfl, h⟩
  · replace h := h.2 c2
    refine z_iload_n (pc' := 9) (x := x2) dX8_chance_8 rfl rfl ?_
    refine z_iconst (pc' := 10) (v := 1) dX8_chance_9 rfl (by decide) ?_
    obtain ⟨d3, P3, hd3, hC3, h⟩ := h
    refine z_callS (pc' := 13) (M' := mX8_isWithin) (As := [.int x2, .int (1 : Int32)]) dX8_chance_10 rfl ml_X8_75 me_X8_isWithin hC3 rfl hd3 (Nat.le_of_ble_eq_true rfl) ⟨Nat.le_refl _, Nat.le_refl _⟩ rfl ?_
    rintro _ _ ⟨y3, I3, L3, rfl, rfl, hP3⟩
    replace h := h y3 I3 L3 hP3
    refine z_if_eq (pc' := 16) (tgt := 28) dX8_chance_13 rfl (by decide) (fun c4 => ?_) (fun c4 => ?_)
    · replace h := h.1 c4
      refine z_ldc2 (pc' := 31) (v := -9223372036854775808) dX8_chance_28 rfl kl_X8_150 ?_
      exact z_lret dX8_chance_31 rfl ⟨Nat.le_refl _, Nat.le_refl _⟩ ⟨_, _, _, rfl, rfl, h⟩
    · replace h := h.2 c4
      refine z_aload_n (pc' := 17) (x := 0) dX8_chance_16 rfl rfl ?_
      refine z_getr (pc' := 20) (x := 30) dX8_chance_17 rfl fl_X8_66 rfl rfl rfl ?_
      refine z_iload_n (pc' := 21) (x := x1) dX8_chance_20 rfl rfl ?_
      obtain ⟨j5, ha5, hb5, h⟩ := h
      refine z_aald (pc' := 22) (x := (31 + 2 * j5)) (j := j5) dX8_chance_21 rfl rfl (by decide) ha5 hb5 (zR_sh hb5) ?_
      refine z_geti (pc' := 25) (x := (I3 (31 + 2 * j5) 0)) dX8_chance_22 rfl fl_X8_87 (zS_sh hb5) rfl rfl ?_
      refine z_if_eq (pc' := 28) (tgt := 32) dX8_chance_25 rfl (by decide) (fun c6 => ?_) (fun c6 => ?_)
      · replace h := h.1 c6
        refine z_aload_n (pc' := 33) (x := 0) dX8_chance_32 rfl rfl ?_
        refine z_getr (pc' := 36) (x := 14) dX8_chance_33 rfl fl_X8_28 rfl rfl rfl ?_
        obtain ⟨d7, P7, hd7, hC7, h⟩ := h
        refine z_callV (pc' := 39) (M' := mX4_solve) (As := []) dX8_chance_36 rfl ml_X8_152 me_X4_solve hC7 rfl (by decide) rfl rfl hd7 (Nat.le_of_ble_eq_true rfl) ⟨Nat.le_refl _, Nat.le_refl _⟩ rfl ?_
        rintro _ _ ⟨I7, L7, rfl, rfl, hP7⟩
        replace h := h I7 L7 hP7
        refine z_aload_n (pc' := 40) (x := 0) dX8_chance_39 rfl rfl ?_
        refine z_getr (pc' := 43) (x := 21) dX8_chance_40 rfl fl_X8_46 rfl rfl rfl ?_
        refine z_aload_n (pc' := 44) (x := 0) dX8_chance_43 rfl rfl ?_
        refine z_getr (pc' := 47) (x := 30) dX8_chance_44 rfl fl_X8_66 rfl rfl rfl ?_
        refine z_iload_n (pc' := 48) (x := x1) dX8_chance_47 rfl rfl ?_
        refine z_aald (pc' := 49) (x := (31 + 2 * j5)) (j := j5) dX8_chance_48 rfl rfl (by decide) ha5 hb5 (zR_sh hb5) ?_
        obtain ⟨d8, P8, hd8, hC8, h⟩ := h
        refine z_callV (pc' := 52) (M' := mX7_look) (As := [.ref (31 + 2 * j5)]) dX8_chance_49 rfl ml_X8_220 me_X7_look hC8 rfl (by decide) rfl rfl hd8 (Nat.le_of_ble_eq_true rfl) ⟨Nat.le_refl _, Nat.le_refl _⟩ rfl ?_
        rintro _ _ ⟨I8, L8, rfl, rfl, hP8⟩
        replace h := h I8 L8 hP8
        refine z_aload_n (pc' := 53) (x := 0) dX8_chance_52 rfl rfl ?_
        refine z_getr (pc' := 56) (x := 21) dX8_chance_53 rfl fl_X8_46 rfl rfl rfl ?_
        refine z_getl (pc' := 59) (x := (L8 21 2)) dX8_chance_56 rfl fl_X8_230 rfl rfl rfl ?_
        refine z_aload_n (pc' := 60) (x := 0) dX8_chance_59 rfl rfl ?_
        refine z_getr (pc' := 63) (x := 21) dX8_chance_60 rfl fl_X8_46 rfl rfl rfl ?_
        refine z_getl (pc' := 66) (x := (L8 21 3)) dX8_chance_63 rfl fl_X8_233 rfl rfl rfl ?_
        refine z_iload_n (pc' := 67) (x := x2) dX8_chance_66 rfl rfl ?_
        obtain ⟨d9, P9, hd9, hC9, h⟩ := h
        refine z_callS (pc' := 70) (M' := mX8_lowest) (As := [.long (L8 21 2), .long (L8 21 3), .int x2]) dX8_chance_67 rfl ml_X8_163 me_X8_lowest hC9 rfl hd9 (Nat.le_of_ble_eq_true rfl) ⟨Nat.le_refl _, Nat.le_refl _⟩ rfl ?_
        rintro _ _ ⟨y9, I9, L9, rfl, rfl, hP9⟩
        replace h := h y9 I9 L9 hP9
        exact z_lret dX8_chance_70 rfl ⟨Nat.le_refl _, Nat.le_refl _⟩ ⟨_, _, _, rfl, rfl, h⟩
      · replace h := h.2 c6
        refine z_ldc2 (pc' := 31) (v := -9223372036854775808) dX8_chance_28 rfl kl_X8_150 ?_
        exact z_lret dX8_chance_31 rfl ⟨Nat.le_refl _, Nat.le_refl _⟩ ⟨_, _, _, rfl, rfl, h⟩
set_option maxHeartbeats 4000000 in
set_option maxRecDepth 100000 in
theorem t_X8_seen {l : Launch} {G : zG} {d : Nat} {P : Int32 → zIM → zLM → Prop} {I : zIM} {L : zLM} {x1 : Int32} {x2 : Int32}  (h : ∃ (d1 : Nat) (P1 : Int32 → zIM → zLM → Prop), d1 + 1 ≤ d ∧ zCi l G d1 mX8_isWithin [.int x2, .int (12 : Int32)] I L P1 ∧ ∀ (y1 : Int32) (I1 : zIM) (L1 : zLM), P1 y1 I1 L1 → (((y1 = 0 → (P (-1 : Int32) I1 L1)) ∧ (¬ y1 = 0 → (∃ (d3 : Nat) (P3 : Int32 → zIM → zLM → Prop), d3 + 1 ≤ d ∧ zCi l G d3 mX8_isWithin [.int x1, .int x2] I1 L1 P3 ∧ ∀ (y3 : Int32) (I3 : zIM) (L3 : zLM), P3 y3 I3 L3 → (((¬ y3 = 0 → (K_X8_seen_29 l G d P I3 L3 x1 x2 (0 : Int32) (-1 : Int64) (0 : Int32))) ∧ (y3 = 0 → (P (-1 : Int32) I3 L3))))))))) : zCi l G d mX8_seen [.ref 0, .int x1, .int x2] I L P := by
  refine zCn.of (ls := [some (.ref 0), some (.int x1), some (.int x2), none, none, none, none, none, none]) (by decide) (Nat.le_of_ble_eq_true rfl) rfl ?_
  refine z_iload_n (pc' := 1) (x := x2) dX8_seen_0 rfl rfl ?_
  refine z_bipush (pc' := 3) (v := 12) dX8_seen_1 rfl (by decide) ?_
  obtain ⟨d1, P1, hd1, hC1, h⟩ := h
  refine z_callS (pc' := 6) (M' := mX8_isWithin) (As := [.int x2, .int (12 : Int32)]) dX8_seen_3 rfl ml_X8_75 me_X8_isWithin hC1 rfl hd1 (Nat.le_of_ble_eq_true rfl) ⟨Nat.le_refl _, Nat.le_refl _⟩ rfl ?_
  rintro _ _ ⟨y1, I1, L1, rfl, rfl, hP1⟩
  replace h := h y1 I1 L1 hP1
  refine z_if_eq (pc' := 9) (tgt := 17) dX8_seen_6 rfl (by decide) (fun c2 => ?_) (fun c2 => ?_)
  · replace h := h.1 c2
    refine z_iconst (pc' := 18) (v := -1) dX8_seen_17 rfl (by decide) ?_
    exact z_iret dX8_seen_18 rfl rfl ⟨Nat.le_refl _, Nat.le_refl _⟩ ⟨_, _, _, rfl, rfl, h⟩
  · replace h := h.2 c2
    refine z_iload_n (pc' := 10) (x := x1) dX8_seen_9 rfl rfl ?_
    refine z_iload_n (pc' := 11) (x := x2) dX8_seen_10 rfl rfl ?_
    obtain ⟨d3, P3, hd3, hC3, h⟩ := h
    refine z_callS (pc' := 14) (M' := mX8_isWithin) (As := [.int x1, .int x2]) dX8_seen_11 rfl ml_X8_75 me_X8_isWithin hC3 rfl hd3 (Nat.le_of_ble_eq_true rfl) ⟨Nat.le_refl _, Nat.le_refl _⟩ rfl ?_
    rintro _ _ ⟨y3, I3, L3, rfl, rfl, hP3⟩
    replace h := h y3 I3 L3 hP3
    refine z_if_ne (pc' := 17) (tgt := 19) dX8_seen_14 rfl (by decide) (fun c4 => ?_) (fun c4 => ?_)
    · replace h := h.1 c4
      refine z_iconst (pc' := 20) (v := 0) dX8_seen_19 rfl (by decide) ?_
      refine z_istore_n (pc' := 21) (ls' := [some (.ref 0), some (.int x1), some (.int x2), some (.int (0 : Int32)), none, none, none, none, none]) dX8_seen_20 rfl (by decide) rfl ?_
      refine z_ldc2 (pc' := 24) (v := -1) dX8_seen_21 rfl kl_X8_236 ?_
      refine z_lstore (pc' := 26) (ls' := [some (.ref 0), some (.int x1), some (.int x2), some (.int (0 : Int32)), some (.long (-1 : Int64)), none, none, none, none]) dX8_seen_24 rfl (by decide) rfl ?_
      refine z_iconst (pc' := 27) (v := 0) dX8_seen_26 rfl (by decide) ?_
      refine z_istore (pc' := 29) (ls' := [some (.ref 0), some (.int x1), some (.int x2), some (.int (0 : Int32)), some (.long (-1 : Int64)), none, some (.int (0 : Int32)), none, none]) dX8_seen_27 rfl (by decide) rfl ?_
      refine z_sub (pc' := 0) [none, some (.int x1), some (.int x2), some (.int (0 : Int32)), some (.long (-1 : Int64)), none, some (.int (0 : Int32)), none, none] (zsub_n (zsub_s (zsub_s (zsub_s (zsub_s (zsub_n (zsub_s (zsub_n (zsub_n zsub_nil))))))))) ?_
      exact h
    · replace h := h.2 c4
      refine z_iconst (pc' := 18) (v := -1) dX8_seen_17 rfl (by decide) ?_
      exact z_iret dX8_seen_18 rfl rfl ⟨Nat.le_refl _, Nat.le_refl _⟩ ⟨_, _, _, rfl, rfl, h⟩
set_option maxHeartbeats 4000000 in
set_option maxRecDepth 100000 in
theorem t_X8_seen_29 {l : Launch} {G : zG} {d : Nat} {P : Int32 → zIM → zLM → Prop} {I : zIM} {L : zLM} {x1 : Int32} {x2 : Int32} {x3 : Int32} {x4 : Int64} {x6 : Int32}   (h : (((12 : Int32) < x6 → (P x3 I L)) ∧ (¬ (12 : Int32) < x6 → (∃ (d2 : Nat) (P2 : Int64 → zIM → zLM → Prop), d2 + 1 ≤ d ∧ zCl l G d2 mX8_power [.int x6, .int x1] I L P2 ∧ ∀ (y2 : Int64) (I2 : zIM) (L2 : zLM), P2 y2 I2 L2 → (∃ (d3 : Nat) (P3 : Int64 → zIM → zLM → Prop), d3 + 1 ≤ d ∧ zCl l G d3 mX8_power [.int ((12 : Int32) - x6), .int (x2 - x1)] I2 L2 P3 ∧ ∀ (y3 : Int64) (I3 : zIM) (L3 : zLM), P3 y3 I3 L3 → ((((y2 * y3) ≤ x4 → (K_X8_seen_29 l G d P I3 L3 x1 x2 x3 x4 (x6 + (1 : Int32)))) ∧ (¬ (y2 * y3) ≤ x4 → (K_X8_seen_29 l G d P I3 L3 x1 x2 x6 (y2 * y3) (x6 + (1 : Int32))))))))))) : K_X8_seen_29 l G d P I L x1 x2 x3 x4 x6  := by
  refine z_iload (pc' := 31) (x := x6) dX8_seen_29 rfl rfl ?_
  refine z_bipush (pc' := 33) (v := 12) dX8_seen_31 rfl (by decide) ?_
  refine z_icmp_gt (pc' := 36) (tgt := 77) dX8_seen_33 rfl (by decide) (fun c1 => ?_) (fun c1 => ?_)
  · replace h := h.1 c1
    refine z_iload_n (pc' := 78) (x := x3) dX8_seen_77 rfl rfl ?_
    exact z_iret dX8_seen_78 rfl rfl ⟨Nat.le_refl _, Nat.le_refl _⟩ ⟨_, _, _, rfl, rfl, h⟩
  · replace h := h.2 c1
    refine z_iload (pc' := 38) (x := x6) dX8_seen_36 rfl rfl ?_
    refine z_iload_n (pc' := 39) (x := x1) dX8_seen_38 rfl rfl ?_
    obtain ⟨d2, P2, hd2, hC2, h⟩ := h
    refine z_callS (pc' := 42) (M' := mX8_power) (As := [.int x6, .int x1]) dX8_seen_39 rfl ml_X8_238 me_X8_power hC2 rfl hd2 (Nat.le_of_ble_eq_true rfl) ⟨Nat.le_refl _, Nat.le_refl _⟩ rfl ?_
    rintro _ _ ⟨y2, I2, L2, rfl, rfl, hP2⟩
    replace h := h y2 I2 L2 hP2
    refine z_bipush (pc' := 44) (v := 12) dX8_seen_42 rfl (by decide) ?_
    refine z_iload (pc' := 46) (x := x6) dX8_seen_44 rfl rfl ?_
    refine z_isub (pc' := 47) dX8_seen_46 rfl ?_
    refine z_iload_n (pc' := 48) (x := x2) dX8_seen_47 rfl rfl ?_
    refine z_iload_n (pc' := 49) (x := x1) dX8_seen_48 rfl rfl ?_
    refine z_isub (pc' := 50) dX8_seen_49 rfl ?_
    obtain ⟨d3, P3, hd3, hC3, h⟩ := h
    refine z_callS (pc' := 53) (M' := mX8_power) (As := [.int ((12 : Int32) - x6), .int (x2 - x1)]) dX8_seen_50 rfl ml_X8_238 me_X8_power hC3 rfl hd3 (Nat.le_of_ble_eq_true rfl) ⟨Nat.le_refl _, Nat.le_refl _⟩ rfl ?_
    rintro _ _ ⟨y3, I3, L3, rfl, rfl, hP3⟩
    replace h := h y3 I3 L3 hP3
    refine z_lmul (pc' := 54) dX8_seen_53 rfl ?_
    refine z_lstore (pc' := 56) (ls' := [none, some (.int x1), some (.int x2), some (.int x3), some (.long x4), none, some (.int x6), some (.long (y2 * y3)), none]) dX8_seen_54 rfl (by decide) rfl ?_
    refine z_lload (pc' := 58) (x := (y2 * y3)) dX8_seen_56 rfl rfl ?_
    refine z_lload (pc' := 60) (x := x4) dX8_seen_58 rfl rfl ?_
    refine z_lc_le (pc' := 64) (tgt := 71) dX8_seen_60 dX8_seen_61 rfl (by decide) (fun c4 => ?_) (fun c4 => ?_)
    · replace h := h.1 c4
      refine z_iinc (pc' := 74) (x := x6) (v := (x6 + (1 : Int32))) (ls' := [none, some (.int x1), some (.int x2), some (.int x3), some (.long x4), none, some (.int (x6 + (1 : Int32))), some (.long (y2 * y3)), none]) dX8_seen_71 rfl rfl (by rfl) (by decide) rfl ?_
      refine z_goto (pc' := 29) dX8_seen_74 (by decide) ?_
      refine z_sub (pc' := 0) [none, some (.int x1), some (.int x2), some (.int x3), some (.long x4), none, some (.int (x6 + (1 : Int32))), none, none] (zsub_n (zsub_s (zsub_s (zsub_s (zsub_s (zsub_n (zsub_s (zsub_n (zsub_n zsub_nil))))))))) ?_
      exact h
    · replace h := h.2 c4
      refine z_lload (pc' := 66) (x := (y2 * y3)) dX8_seen_64 rfl rfl ?_
      refine z_lstore (pc' := 68) (ls' := [none, some (.int x1), some (.int x2), some (.int x3), some (.long (y2 * y3)), none, some (.int x6), some (.long (y2 * y3)), none]) dX8_seen_66 rfl (by decide) rfl ?_
      refine z_iload (pc' := 70) (x := x6) dX8_seen_68 rfl rfl ?_
      refine z_istore_n (pc' := 71) (ls' := [none, some (.int x1), some (.int x2), some (.int x6), some (.long (y2 * y3)), none, some (.int x6), some (.long (y2 * y3)), none]) dX8_seen_70 rfl (by decide) rfl ?_
      refine z_iinc (pc' := 74) (x := x6) (v := (x6 + (1 : Int32))) (ls' := [none, some (.int x1), some (.int x2), some (.int x6), some (.long (y2 * y3)), none, some (.int (x6 + (1 : Int32))), some (.long (y2 * y3)), none]) dX8_seen_71 rfl rfl (by rfl) (by decide) rfl ?_
      refine z_goto (pc' := 29) dX8_seen_74 (by decide) ?_
      refine z_sub (pc' := 0) [none, some (.int x1), some (.int x2), some (.int x6), some (.long (y2 * y3)), none, some (.int (x6 + (1 : Int32))), none, none] (zsub_n (zsub_s (zsub_s (zsub_s (zsub_s (zsub_n (zsub_s (zsub_n (zsub_n zsub_nil))))))))) ?_
      exact h
set_option maxHeartbeats 4000000 in
set_option maxRecDepth 100000 in
theorem t_X8_drawn {l : Launch} {G : zG} {d : Nat} {P : Int32 → zIM → zLM → Prop} {I : zIM} {L : zLM} {x1 : Int32} {x2 : Int32} {x3 : Int32}  (h : ((x2 < (1 : Int32) → (P (-1 : Int32) I L)) ∧ (¬ x2 < (1 : Int32) → ((((30 : Int32) < x2 → (P (-1 : Int32) I L)) ∧ (¬ (30 : Int32) < x2 → (∃ (d3 : Nat) (P3 : Int32 → zIM → zLM → Prop), d3 + 1 ≤ d ∧ zCi l G d3 mX2_has [.ref 1, .int x3] I L P3 ∧ ∀ (y3 : Int32) (I3 : zIM) (L3 : zLM), P3 y3 I3 L3 → (((¬ y3 = 0 → (∃ (d5 : Nat) (P5 : zIM → zLM → Prop), d5 + 1 ≤ d ∧ zCv l G d5 mX4_solve [.ref 14] I3 L3 P5 ∧ ∀ (I5 : zIM) (L5 : zLM), P5 I5 L5 → (K_X8_drawn_40 l G d P I5 L5 x2 x3 x1 (0 : Int32) (0 : Int32)))) ∧ (y3 = 0 → (P (-1 : Int32) I3 L3))))))))))) : zCi l G d mX8_drawn [.ref 0, .int x1, .int x2, .int x3] I L P := by
  refine zCn.of (ls := [some (.ref 0), some (.int x1), some (.int x2), some (.int x3), none, none, none, none, none, none, none]) (by decide) (Nat.le_of_ble_eq_true rfl) rfl ?_
  refine z_iload_n (pc' := 1) (x := x2) dX8_drawn_0 rfl rfl ?_
  refine z_iconst (pc' := 2) (v := 1) dX8_drawn_1 rfl (by decide) ?_
  refine z_icmp_lt (pc' := 5) (tgt := 22) dX8_drawn_2 rfl (by decide) (fun c1 => ?_) (fun c1 => ?_)
  · replace h := h.1 c1
    refine z_iconst (pc' := 23) (v := -1) dX8_drawn_22 rfl (by decide) ?_
    exact z_iret dX8_drawn_23 rfl rfl ⟨Nat.le_refl _, Nat.le_refl _⟩ ⟨_, _, _, rfl, rfl, h⟩
  · replace h := h.2 c1
    refine z_iload_n (pc' := 6) (x := x2) dX8_drawn_5 rfl rfl ?_
    refine z_bipush (pc' := 8) (v := 30) dX8_drawn_6 rfl (by decide) ?_
    refine z_icmp_gt (pc' := 11) (tgt := 22) dX8_drawn_8 rfl (by decide) (fun c2 => ?_) (fun c2 => ?_)
    · replace h := h.1 c2
      refine z_iconst (pc' := 23) (v := -1) dX8_drawn_22 rfl (by decide) ?_
      exact z_iret dX8_drawn_23 rfl rfl ⟨Nat.le_refl _, Nat.le_refl _⟩ ⟨_, _, _, rfl, rfl, h⟩
    · replace h := h.2 c2
      refine z_aload_n (pc' := 12) (x := 0) dX8_drawn_11 rfl rfl ?_
      refine z_getr (pc' := 15) (x := 1) dX8_drawn_12 rfl fl_X8_10 rfl rfl rfl ?_
      refine z_iload_n (pc' := 16) (x := x3) dX8_drawn_15 rfl rfl ?_
      obtain ⟨d3, P3, hd3, hC3, h⟩ := h
      refine z_callV (pc' := 19) (M' := mX2_has) (As := [.int x3]) dX8_drawn_16 rfl ml_X8_101 me_X2_has hC3 rfl (by decide) rfl rfl hd3 (Nat.le_of_ble_eq_true rfl) ⟨Nat.le_refl _, Nat.le_refl _⟩ rfl ?_
      rintro _ _ ⟨y3, I3, L3, rfl, rfl, hP3⟩
      replace h := h y3 I3 L3 hP3
      refine z_if_ne (pc' := 22) (tgt := 24) dX8_drawn_19 rfl (by decide) (fun c4 => ?_) (fun c4 => ?_)
      · replace h := h.1 c4
        refine z_aload_n (pc' := 25) (x := 0) dX8_drawn_24 rfl rfl ?_
        refine z_getr (pc' := 28) (x := 14) dX8_drawn_25 rfl fl_X8_28 rfl rfl rfl ?_
        obtain ⟨d5, P5, hd5, hC5, h⟩ := h
        refine z_callV (pc' := 31) (M' := mX4_solve) (As := []) dX8_drawn_28 rfl ml_X8_152 me_X4_solve hC5 rfl (by decide) rfl rfl hd5 (Nat.le_of_ble_eq_true rfl) ⟨Nat.le_refl _, Nat.le_refl _⟩ rfl ?_
        rintro _ _ ⟨I5, L5, rfl, rfl, hP5⟩
        replace h := h I5 L5 hP5
        refine z_iload_n (pc' := 32) (x := x1) dX8_drawn_31 rfl rfl ?_
        refine z_istore (pc' := 34) (ls' := [some (.ref 0), some (.int x1), some (.int x2), some (.int x3), some (.int x1), none, none, none, none, none, none]) dX8_drawn_32 rfl (by decide) rfl ?_
        refine z_iconst (pc' := 35) (v := 0) dX8_drawn_34 rfl (by decide) ?_
        refine z_istore (pc' := 37) (ls' := [some (.ref 0), some (.int x1), some (.int x2), some (.int x3), some (.int x1), some (.int (0 : Int32)), none, none, none, none, none]) dX8_drawn_35 rfl (by decide) rfl ?_
        refine z_iconst (pc' := 38) (v := 0) dX8_drawn_37 rfl (by decide) ?_
        refine z_istore (pc' := 40) (ls' := [some (.ref 0), some (.int x1), some (.int x2), some (.int x3), some (.int x1), some (.int (0 : Int32)), some (.int (0 : Int32)), none, none, none, none]) dX8_drawn_38 rfl (by decide) rfl ?_
        refine z_sub (pc' := 0) [some (.ref 0), none, some (.int x2), some (.int x3), some (.int x1), some (.int (0 : Int32)), some (.int (0 : Int32)), none, none, none, none] (zsub_s (zsub_n (zsub_s (zsub_s (zsub_s (zsub_s (zsub_s (zsub_n (zsub_n (zsub_n (zsub_n zsub_nil))))))))))) ?_
        exact h
      · replace h := h.2 c4
        refine z_iconst (pc' := 23) (v := -1) dX8_drawn_22 rfl (by decide) ?_
        exact z_iret dX8_drawn_23 rfl rfl ⟨Nat.le_refl _, Nat.le_refl _⟩ ⟨_, _, _, rfl, rfl, h⟩
set_option maxHeartbeats 4000000 in
set_option maxRecDepth 100000 in
theorem t_X8_drawn_40 {l : Launch} {G : zG} {d : Nat} {P : Int32 → zIM → zLM → Prop} {I : zIM} {L : zLM} {x2 : Int32} {x3 : Int32} {x4 : Int32} {x5 : Int32} {x6 : Int32}   (h : ((x2 ≤ x6 → (P x5 I L)) ∧ (¬ x2 ≤ x6 → (∃ (d2 : Nat) (P2 : Int32 → zIM → zLM → Prop), d2 + 1 ≤ d ∧ zCi l G d2 mX2_all [.ref 1] I L P2 ∧ ∀ (y2 : Int32) (I2 : zIM) (L2 : zLM), P2 y2 I2 L2 → (∃ (d3 : Nat) (P3 : Int32 → zIM → zLM → Prop), d3 + 1 ≤ d ∧ zCi l G d3 mX2_first [.ref 1, .int y2] I2 L2 P3 ∧ ∀ (y3 : Int32) (I3 : zIM) (L3 : zLM), P3 y3 I3 L3 → (K_X8_drawn_69 l G d P I3 L3 x2 x3 x4 x5 x6 y2 y3 (0 : Int32))))))) : K_X8_drawn_40 l G d P I L x2 x3 x4 x5 x6  := by
  refine z_iload (pc' := 42) (x := x6) dX8_drawn_40 rfl rfl ?_
  refine z_iload_n (pc' := 43) (x := x2) dX8_drawn_42 rfl rfl ?_
  refine z_icmp_ge (pc' := 46) (tgt := 201) dX8_drawn_43 rfl (by decide) (fun c1 => ?_) (fun c1 => ?_)
  · replace h := h.1 c1
    refine z_iload (pc' := 203) (x := x5) dX8_drawn_201 rfl rfl ?_
    exact z_iret dX8_drawn_203 rfl rfl ⟨Nat.le_refl _, Nat.le_refl _⟩ ⟨_, _, _, rfl, rfl, h⟩
  · replace h := h.2 c1
    refine z_aload_n (pc' := 47) (x := 0) dX8_drawn_46 rfl rfl ?_
    refine z_getr (pc' := 50) (x := 1) dX8_drawn_47 rfl fl_X8_10 rfl rfl rfl ?_
    obtain ⟨d2, P2, hd2, hC2, h⟩ := h
    refine z_callV (pc' := 53) (M' := mX2_all) (As := []) dX8_drawn_50 rfl ml_X8_176 me_X2_all hC2 rfl (by decide) rfl rfl hd2 (Nat.le_of_ble_eq_true rfl) ⟨Nat.le_refl _, Nat.le_refl _⟩ rfl ?_
    rintro _ _ ⟨y2, I2, L2, rfl, rfl, hP2⟩
    replace h := h y2 I2 L2 hP2
    refine z_istore (pc' := 55) (ls' := [some (.ref 0), none, some (.int x2), some (.int x3), some (.int x4), some (.int x5), some (.int x6), some (.int y2), none, none, none]) dX8_drawn_53 rfl (by decide) rfl ?_
    refine z_aload_n (pc' := 56) (x := 0) dX8_drawn_55 rfl rfl ?_
    refine z_getr (pc' := 59) (x := 1) dX8_drawn_56 rfl fl_X8_10 rfl rfl rfl ?_
    refine z_iload (pc' := 61) (x := y2) dX8_drawn_59 rfl rfl ?_
    obtain ⟨d3, P3, hd3, hC3, h⟩ := h
    refine z_callV (pc' := 64) (M' := mX2_first) (As := [.int y2]) dX8_drawn_61 rfl ml_X8_241 me_X2_first hC3 rfl (by decide) rfl rfl hd3 (Nat.le_of_ble_eq_true rfl) ⟨Nat.le_refl _, Nat.le_refl _⟩ rfl ?_
    rintro _ _ ⟨y3, I3, L3, rfl, rfl, hP3⟩
    replace h := h y3 I3 L3 hP3
    refine z_istore (pc' := 66) (ls' := [some (.ref 0), none, some (.int x2), some (.int x3), some (.int x4), some (.int x5), some (.int x6), some (.int y2), some (.int y3), none, none]) dX8_drawn_64 rfl (by decide) rfl ?_
    refine z_iconst (pc' := 67) (v := 0) dX8_drawn_66 rfl (by decide) ?_
    refine z_istore (pc' := 69) (ls' := [some (.ref 0), none, some (.int x2), some (.int x3), some (.int x4), some (.int x5), some (.int x6), some (.int y2), some (.int y3), some (.int (0 : Int32)), none]) dX8_drawn_67 rfl (by decide) rfl ?_
    exact h
set_option maxHeartbeats 4000000 in
set_option maxRecDepth 100000 in
theorem t_X8_drawn_69 {l : Launch} {G : zG} {d : Nat} {P : Int32 → zIM → zLM → Prop} {I : zIM} {L : zLM} {x2 : Int32} {x3 : Int32} {x4 : Int32} {x5 : Int32} {x6 : Int32} {x7 : Int32} {x8 : Int32} {x9 : Int32}   (h : (((I 1 7) ≤ x9 → (K_X8_drawn_40 l G d P I L x2 x3 x4 (x5 + ((x7 >>> (x3 &&& 31)) &&& (1 : Int32))) (x6 + (1 : Int32)))) ∧ (¬ (I 1 7) ≤ x9 → (∃ (d2 : Nat) (P2 : Int32 → zIM → zLM → Prop), d2 + 1 ≤ d ∧ zCi l G d2 mX2_isOver [.ref 1, .int x7, .int x9] I L P2 ∧ ∀ (y2 : Int32) (I2 : zIM) (L2 : zLM), P2 y2 I2 L2 → (((¬ y2 = 0 → (K_X8_drawn_40 l G d P I2 L2 x2 x3 x4 (x5 + ((x7 >>> (x3 &&& 31)) &&& (1 : Int32))) (x6 + (1 : Int32)))) ∧ (y2 = 0 → (∃ (d4 : Nat) (P4 : Int32 → zIM → zLM → Prop), d4 + 1 ≤ d ∧ zCi l G d4 mX4_aimAt [.ref 14, .int x9, .int x8, .int x7] I2 L2 P4 ∧ ∀ (y4 : Int32) (I4 : zIM) (L4 : zLM), P4 y4 I4 L4 → (((y4 = (-2 : Int32) → (∃ (d6 : Nat) (P6 : Int32 → zIM → zLM → Prop), d6 + 1 ≤ d ∧ zCi l G d6 mX2_after [.ref 1, .int x8, .int x7] I4 L4 P6 ∧ ∀ (y6 : Int32) (I6 : zIM) (L6 : zLM), P6 y6 I6 L6 → (K_X8_drawn_69 l G d P I6 L6 x2 x3 x4 x5 x6 x7 y6 (x9 + (1 : Int32))))) ∧ (¬ y4 = (-2 : Int32) → (∃ (d7 : Nat) (P7 : Int32 → zIM → zLM → Prop), d7 + 1 ≤ d ∧ zCi l G d7 mX4_numberAt [.ref 14, .int x9, .int x8, .int y4, .int x7] I4 L4 P7 ∧ ∀ (y7 : Int32) (I7 : zIM) (L7 : zLM), P7 y7 I7 L7 → (((y7 ≤ (((((x4 * (1103515245 : Int32)) + (12345 : Int32)).toUInt32 >>> ((8 : Int32).toUInt32 &&& Int32.toUInt32 31)).toInt32) % (12 : Int32)) → (∃ (d9 : Nat) (P9 : Int32 → zIM → zLM → Prop), d9 + 1 ≤ d ∧ zCi l G d9 mX2_after [.ref 1, .int x8, .int x7] I7 L7 P9 ∧ ∀ (y9 : Int32) (I9 : zIM) (L9 : zLM), P9 y9 I9 L9 → (K_X8_drawn_69 l G d P I9 L9 x2 x3 ((x4 * (1103515245 : Int32)) + (12345 : Int32)) x5 x6 x7 y9 (x9 + (1 : Int32))))) ∧ (¬ y7 ≤ (((((x4 * (1103515245 : Int32)) + (12345 : Int32)).toUInt32 >>> ((8 : Int32).toUInt32 &&& Int32.toUInt32 31)).toInt32) % (12 : Int32)) → (∃ (d10 : Nat) (P10 : Int32 → zIM → zLM → Prop), d10 + 1 ≤ d ∧ zCi l G d10 mX2_after [.ref 1, .int x8, .int (x7 &&& (((1 : Int32) <<< (y4 &&& 31)) ^^^ (-1 : Int32)))] I7 L7 P10 ∧ ∀ (y10 : Int32) (I10 : zIM) (L10 : zLM), P10 y10 I10 L10 → (K_X8_drawn_69 l G d P I10 L10 x2 x3 ((x4 * (1103515245 : Int32)) + (12345 : Int32)) x5 x6 (x7 &&& (((1 : Int32) <<< (y4 &&& 31)) ^^^ (-1 : Int32))) y10 (x9 + (1 : Int32))))))))))))))))))) : K_X8_drawn_69 l G d P I L x2 x3 x4 x5 x6 x7 x8 x9  := by
  refine z_iload (pc' := 71) (x := x9) dX8_drawn_69 rfl rfl ?_
  refine z_aload_n (pc' := 72) (x := 0) dX8_drawn_71 rfl rfl ?_
  refine z_getr (pc' := 75) (x := 1) dX8_drawn_72 rfl fl_X8_10 rfl rfl rfl ?_
  refine z_geti (pc' := 78) (x := (I 1 7)) dX8_drawn_75 rfl fl_X8_126 rfl rfl rfl ?_
  refine z_icmp_ge (pc' := 81) (tgt := 184) dX8_drawn_78 rfl (by decide) (fun c1 => ?_) (fun c1 => ?_)
  · replace h := h.1 c1
    refine z_iload (pc' := 186) (x := x5) dX8_drawn_184 rfl rfl ?_
    refine z_iload (pc' := 188) (x := x7) dX8_drawn_186 rfl rfl ?_
    refine z_iload_n (pc' := 189) (x := x3) dX8_drawn_188 rfl rfl ?_
    refine z_ishr (pc' := 190) dX8_drawn_189 rfl ?_
    refine z_iconst (pc' := 191) (v := 1) dX8_drawn_190 rfl (by decide) ?_
    refine z_iand (pc' := 192) dX8_drawn_191 rfl ?_
    refine z_iadd (pc' := 193) dX8_drawn_192 rfl ?_
    refine z_istore (pc' := 195) (ls' := [some (.ref 0), none, some (.int x2), some (.int x3), some (.int x4), some (.int (x5 + ((x7 >>> (x3 &&& 31)) &&& (1 : Int32)))), some (.int x6), some (.int x7), some (.int x8), some (.int x9), none]) dX8_drawn_193 rfl (by decide) rfl ?_
    refine z_iinc (pc' := 198) (x := x6) (v := (x6 + (1 : Int32))) (ls' := [some (.ref 0), none, some (.int x2), some (.int x3), some (.int x4), some (.int (x5 + ((x7 >>> (x3 &&& 31)) &&& (1 : Int32)))), some (.int (x6 + (1 : Int32))), some (.int x7), some (.int x8), some (.int x9), none]) dX8_drawn_195 rfl rfl (by rfl) (by decide) rfl ?_
    refine z_goto (pc' := 40) dX8_drawn_198 (by decide) ?_
    refine z_sub (pc' := 0) [some (.ref 0), none, some (.int x2), some (.int x3), some (.int x4), some (.int (x5 + ((x7 >>> (x3 &&& 31)) &&& (1 : Int32)))), some (.int (x6 + (1 : Int32))), none, none, none, none] (zsub_s (zsub_n (zsub_s (zsub_s (zsub_s (zsub_s (zsub_s (zsub_n (zsub_n (zsub_n (zsub_n zsub_nil))))))))))) ?_
    exact h
  · replace h := h.2 c1
    refine z_aload_n (pc' := 82) (x := 0) dX8_drawn_81 rfl rfl ?_
    refine z_getr (pc' := 85) (x := 1) dX8_drawn_82 rfl fl_X8_10 rfl rfl rfl ?_
    refine z_iload (pc' := 87) (x := x7) dX8_drawn_85 rfl rfl ?_
    refine z_iload (pc' := 89) (x := x9) dX8_drawn_87 rfl rfl ?_
    obtain ⟨d2, P2, hd2, hC2, h⟩ := h
    refine z_callV (pc' := 92) (M' := mX2_isOver) (As := [.int x7, .int x9]) dX8_drawn_89 rfl ml_X8_244 me_X2_isOver hC2 rfl (by decide) rfl rfl hd2 (Nat.le_of_ble_eq_true rfl) ⟨Nat.le_refl _, Nat.le_refl _⟩ rfl ?_
    rintro _ _ ⟨y2, I2, L2, rfl, rfl, hP2⟩
    replace h := h y2 I2 L2 hP2
    refine z_if_ne (pc' := 95) (tgt := 184) dX8_drawn_92 rfl (by decide) (fun c3 => ?_) (fun c3 => ?_)
    · replace h := h.1 c3
      refine z_iload (pc' := 186) (x := x5) dX8_drawn_184 rfl rfl ?_
      refine z_iload (pc' := 188) (x := x7) dX8_drawn_186 rfl rfl ?_
      refine z_iload_n (pc' := 189) (x := x3) dX8_drawn_188 rfl rfl ?_
      refine z_ishr (pc' := 190) dX8_drawn_189 rfl ?_
      refine z_iconst (pc' := 191) (v := 1) dX8_drawn_190 rfl (by decide) ?_
      refine z_iand (pc' := 192) dX8_drawn_191 rfl ?_
      refine z_iadd (pc' := 193) dX8_drawn_192 rfl ?_
      refine z_istore (pc' := 195) (ls' := [some (.ref 0), none, some (.int x2), some (.int x3), some (.int x4), some (.int (x5 + ((x7 >>> (x3 &&& 31)) &&& (1 : Int32)))), some (.int x6), some (.int x7), some (.int x8), some (.int x9), none]) dX8_drawn_193 rfl (by decide) rfl ?_
      refine z_iinc (pc' := 198) (x := x6) (v := (x6 + (1 : Int32))) (ls' := [some (.ref 0), none, some (.int x2), some (.int x3), some (.int x4), some (.int (x5 + ((x7 >>> (x3 &&& 31)) &&& (1 : Int32)))), some (.int (x6 + (1 : Int32))), some (.int x7), some (.int x8), some (.int x9), none]) dX8_drawn_195 rfl rfl (by rfl) (by decide) rfl ?_
      refine z_goto (pc' := 40) dX8_drawn_198 (by decide) ?_
      refine z_sub (pc' := 0) [some (.ref 0), none, some (.int x2), some (.int x3), some (.int x4), some (.int (x5 + ((x7 >>> (x3 &&& 31)) &&& (1 : Int32)))), some (.int (x6 + (1 : Int32))), none, none, none, none] (zsub_s (zsub_n (zsub_s (zsub_s (zsub_s (zsub_s (zsub_s (zsub_n (zsub_n (zsub_n (zsub_n zsub_nil))))))))))) ?_
      exact h
    · replace h := h.2 c3
      refine z_aload_n (pc' := 96) (x := 0) dX8_drawn_95 rfl rfl ?_
      refine z_getr (pc' := 99) (x := 14) dX8_drawn_96 rfl fl_X8_28 rfl rfl rfl ?_
      refine z_iload (pc' := 101) (x := x9) dX8_drawn_99 rfl rfl ?_
      refine z_iload (pc' := 103) (x := x8) dX8_drawn_101 rfl rfl ?_
      refine z_iload (pc' := 105) (x := x7) dX8_drawn_103 rfl rfl ?_
      obtain ⟨d4, P4, hd4, hC4, h⟩ := h
      refine z_callV (pc' := 108) (M' := mX4_aimAt) (As := [.int x9, .int x8, .int x7]) dX8_drawn_105 rfl ml_X8_183 me_X4_aimAt hC4 rfl (by decide) rfl rfl hd4 (Nat.le_of_ble_eq_true rfl) ⟨Nat.le_refl _, Nat.le_refl _⟩ rfl ?_
      rintro _ _ ⟨y4, I4, L4, rfl, rfl, hP4⟩
      replace h := h y4 I4 L4 hP4
      refine z_istore (pc' := 110) (ls' := [some (.ref 0), none, some (.int x2), some (.int x3), some (.int x4), some (.int x5), some (.int x6), some (.int x7), some (.int x8), some (.int x9), some (.int y4)]) dX8_drawn_108 rfl (by decide) rfl ?_
      refine z_iload (pc' := 112) (x := y4) dX8_drawn_110 rfl rfl ?_
      refine z_bipush (pc' := 114) (v := -2) dX8_drawn_112 rfl (by decide) ?_
      refine z_icmp_eq (pc' := 117) (tgt := 165) dX8_drawn_114 rfl (by decide) (fun c5 => ?_) (fun c5 => ?_)
      · replace h := h.1 c5
        refine z_aload_n (pc' := 166) (x := 0) dX8_drawn_165 rfl rfl ?_
        refine z_getr (pc' := 169) (x := 1) dX8_drawn_166 rfl fl_X8_10 rfl rfl rfl ?_
        refine z_iload (pc' := 171) (x := x8) dX8_drawn_169 rfl rfl ?_
        refine z_iload (pc' := 173) (x := x7) dX8_drawn_171 rfl rfl ?_
        obtain ⟨d6, P6, hd6, hC6, h⟩ := h
        refine z_callV (pc' := 176) (M' := mX2_after) (As := [.int x8, .int x7]) dX8_drawn_173 rfl ml_X8_252 me_X2_after hC6 rfl (by decide) rfl rfl hd6 (Nat.le_of_ble_eq_true rfl) ⟨Nat.le_refl _, Nat.le_refl _⟩ rfl ?_
        rintro _ _ ⟨y6, I6, L6, rfl, rfl, hP6⟩
        replace h := h y6 I6 L6 hP6
        refine z_istore (pc' := 178) (ls' := [some (.ref 0), none, some (.int x2), some (.int x3), some (.int x4), some (.int x5), some (.int x6), some (.int x7), some (.int y6), some (.int x9), some (.int y4)]) dX8_drawn_176 rfl (by decide) rfl ?_
        refine z_iinc (pc' := 181) (x := x9) (v := (x9 + (1 : Int32))) (ls' := [some (.ref 0), none, some (.int x2), some (.int x3), some (.int x4), some (.int x5), some (.int x6), some (.int x7), some (.int y6), some (.int (x9 + (1 : Int32))), some (.int y4)]) dX8_drawn_178 rfl rfl (by rfl) (by decide) rfl ?_
        refine z_goto (pc' := 69) dX8_drawn_181 (by decide) ?_
        refine z_sub (pc' := 0) [some (.ref 0), none, some (.int x2), some (.int x3), some (.int x4), some (.int x5), some (.int x6), some (.int x7), some (.int y6), some (.int (x9 + (1 : Int32))), none] (zsub_s (zsub_n (zsub_s (zsub_s (zsub_s (zsub_s (zsub_s (zsub_s (zsub_s (zsub_s (zsub_n zsub_nil))))))))))) ?_
        exact h
      · replace h := h.2 c5
        refine z_iload (pc' := 119) (x := x4) dX8_drawn_117 rfl rfl ?_
        refine z_ldc (pc' := 121) (v := 1103515245) dX8_drawn_119 rfl kc_X8_247 ?_
        refine z_imul (pc' := 122) dX8_drawn_121 rfl ?_
        refine z_sipush (pc' := 125) (v := 12345) dX8_drawn_122 rfl (by decide) ?_
        refine z_iadd (pc' := 126) dX8_drawn_125 rfl ?_
        refine z_istore (pc' := 128) (ls' := [some (.ref 0), none, some (.int x2), some (.int x3), some (.int ((x4 * (1103515245 : Int32)) + (12345 : Int32))), some (.int x5), some (.int x6), some (.int x7), some (.int x8), some (.int x9), some (.int y4)]) dX8_drawn_126 rfl (by decide) rfl ?_
        refine z_iload (pc' := 130) (x := ((x4 * (1103515245 : Int32)) + (12345 : Int32))) dX8_drawn_128 rfl rfl ?_
        refine z_bipush (pc' := 132) (v := 8) dX8_drawn_130 rfl (by decide) ?_
        refine z_iushr (pc' := 133) dX8_drawn_132 rfl ?_
        refine z_bipush (pc' := 135) (v := 12) dX8_drawn_133 rfl (by decide) ?_
        refine z_irem (pc' := 136) dX8_drawn_135 rfl (by decide) ?_
        refine z_aload_n (pc' := 137) (x := 0) dX8_drawn_136 rfl rfl ?_
        refine z_getr (pc' := 140) (x := 14) dX8_drawn_137 rfl fl_X8_28 rfl rfl rfl ?_
        refine z_iload (pc' := 142) (x := x9) dX8_drawn_140 rfl rfl ?_
        refine z_iload (pc' := 144) (x := x8) dX8_drawn_142 rfl rfl ?_
        refine z_iload (pc' := 146) (x := y4) dX8_drawn_144 rfl rfl ?_
        refine z_iload (pc' := 148) (x := x7) dX8_drawn_146 rfl rfl ?_
        obtain ⟨d7, P7, hd7, hC7, h⟩ := h
        refine z_callV (pc' := 151) (M' := mX4_numberAt) (As := [.int x9, .int x8, .int y4, .int x7]) dX8_drawn_148 rfl ml_X8_248 me_X4_numberAt hC7 rfl (by decide) rfl rfl hd7 (Nat.le_of_ble_eq_true rfl) ⟨Nat.le_refl _, Nat.le_refl _⟩ rfl ?_
        rintro _ _ ⟨y7, I7, L7, rfl, rfl, hP7⟩
        replace h := h y7 I7 L7 hP7
        refine z_icmp_ge (pc' := 154) (tgt := 165) dX8_drawn_151 rfl (by decide) (fun c8 => ?_) (fun c8 => ?_)
        · replace h := h.1 c8
          refine z_aload_n (pc' := 166) (x := 0) dX8_drawn_165 rfl rfl ?_
          refine z_getr (pc' := 169) (x := 1) dX8_drawn_166 rfl fl_X8_10 rfl rfl rfl ?_
          refine z_iload (pc' := 171) (x := x8) dX8_drawn_169 rfl rfl ?_
          refine z_iload (pc' := 173) (x := x7) dX8_drawn_171 rfl rfl ?_
          obtain ⟨d9, P9, hd9, hC9, h⟩ := h
          refine z_callV (pc' := 176) (M' := mX2_after) (As := [.int x8, .int x7]) dX8_drawn_173 rfl ml_X8_252 me_X2_after hC9 rfl (by decide) rfl rfl hd9 (Nat.le_of_ble_eq_true rfl) ⟨Nat.le_refl _, Nat.le_refl _⟩ rfl ?_
          rintro _ _ ⟨y9, I9, L9, rfl, rfl, hP9⟩
          replace h := h y9 I9 L9 hP9
          refine z_istore (pc' := 178) (ls' := [some (.ref 0), none, some (.int x2), some (.int x3), some (.int ((x4 * (1103515245 : Int32)) + (12345 : Int32))), some (.int x5), some (.int x6), some (.int x7), some (.int y9), some (.int x9), some (.int y4)]) dX8_drawn_176 rfl (by decide) rfl ?_
          refine z_iinc (pc' := 181) (x := x9) (v := (x9 + (1 : Int32))) (ls' := [some (.ref 0), none, some (.int x2), some (.int x3), some (.int ((x4 * (1103515245 : Int32)) + (12345 : Int32))), some (.int x5), some (.int x6), some (.int x7), some (.int y9), some (.int (x9 + (1 : Int32))), some (.int y4)]) dX8_drawn_178 rfl rfl (by rfl) (by decide) rfl ?_
          refine z_goto (pc' := 69) dX8_drawn_181 (by decide) ?_
          refine z_sub (pc' := 0) [some (.ref 0), none, some (.int x2), some (.int x3), some (.int ((x4 * (1103515245 : Int32)) + (12345 : Int32))), some (.int x5), some (.int x6), some (.int x7), some (.int y9), some (.int (x9 + (1 : Int32))), none] (zsub_s (zsub_n (zsub_s (zsub_s (zsub_s (zsub_s (zsub_s (zsub_s (zsub_s (zsub_s (zsub_n zsub_nil))))))))))) ?_
          exact h
        · replace h := h.2 c8
          refine z_iload (pc' := 156) (x := x7) dX8_drawn_154 rfl rfl ?_
          refine z_iconst (pc' := 157) (v := 1) dX8_drawn_156 rfl (by decide) ?_
          refine z_iload (pc' := 159) (x := y4) dX8_drawn_157 rfl rfl ?_
          refine z_ishl (pc' := 160) dX8_drawn_159 rfl ?_
          refine z_iconst (pc' := 161) (v := -1) dX8_drawn_160 rfl (by decide) ?_
          refine z_ixor (pc' := 162) dX8_drawn_161 rfl ?_
          refine z_iand (pc' := 163) dX8_drawn_162 rfl ?_
          refine z_istore (pc' := 165) (ls' := [some (.ref 0), none, some (.int x2), some (.int x3), some (.int ((x4 * (1103515245 : Int32)) + (12345 : Int32))), some (.int x5), some (.int x6), some (.int (x7 &&& (((1 : Int32) <<< (y4 &&& 31)) ^^^ (-1 : Int32)))), some (.int x8), some (.int x9), some (.int y4)]) dX8_drawn_163 rfl (by decide) rfl ?_
          refine z_aload_n (pc' := 166) (x := 0) dX8_drawn_165 rfl rfl ?_
          refine z_getr (pc' := 169) (x := 1) dX8_drawn_166 rfl fl_X8_10 rfl rfl rfl ?_
          refine z_iload (pc' := 171) (x := x8) dX8_drawn_169 rfl rfl ?_
          refine z_iload (pc' := 173) (x := (x7 &&& (((1 : Int32) <<< (y4 &&& 31)) ^^^ (-1 : Int32)))) dX8_drawn_171 rfl rfl ?_
          obtain ⟨d10, P10, hd10, hC10, h⟩ := h
          refine z_callV (pc' := 176) (M' := mX2_after) (As := [.int x8, .int (x7 &&& (((1 : Int32) <<< (y4 &&& 31)) ^^^ (-1 : Int32)))]) dX8_drawn_173 rfl ml_X8_252 me_X2_after hC10 rfl (by decide) rfl rfl hd10 (Nat.le_of_ble_eq_true rfl) ⟨Nat.le_refl _, Nat.le_refl _⟩ rfl ?_
          rintro _ _ ⟨y10, I10, L10, rfl, rfl, hP10⟩
          replace h := h y10 I10 L10 hP10
          refine z_istore (pc' := 178) (ls' := [some (.ref 0), none, some (.int x2), some (.int x3), some (.int ((x4 * (1103515245 : Int32)) + (12345 : Int32))), some (.int x5), some (.int x6), some (.int (x7 &&& (((1 : Int32) <<< (y4 &&& 31)) ^^^ (-1 : Int32)))), some (.int y10), some (.int x9), some (.int y4)]) dX8_drawn_176 rfl (by decide) rfl ?_
          refine z_iinc (pc' := 181) (x := x9) (v := (x9 + (1 : Int32))) (ls' := [some (.ref 0), none, some (.int x2), some (.int x3), some (.int ((x4 * (1103515245 : Int32)) + (12345 : Int32))), some (.int x5), some (.int x6), some (.int (x7 &&& (((1 : Int32) <<< (y4 &&& 31)) ^^^ (-1 : Int32)))), some (.int y10), some (.int (x9 + (1 : Int32))), some (.int y4)]) dX8_drawn_178 rfl rfl (by rfl) (by decide) rfl ?_
          refine z_goto (pc' := 69) dX8_drawn_181 (by decide) ?_
          refine z_sub (pc' := 0) [some (.ref 0), none, some (.int x2), some (.int x3), some (.int ((x4 * (1103515245 : Int32)) + (12345 : Int32))), some (.int x5), some (.int x6), some (.int (x7 &&& (((1 : Int32) <<< (y4 &&& 31)) ^^^ (-1 : Int32)))), some (.int y10), some (.int (x9 + (1 : Int32))), none] (zsub_s (zsub_n (zsub_s (zsub_s (zsub_s (zsub_s (zsub_s (zsub_s (zsub_s (zsub_s (zsub_n zsub_nil))))))))))) ?_
          exact h
set_option maxHeartbeats 4000000 in
set_option maxRecDepth 100000 in
theorem t_X8_step {l : Launch} {G : zG} {d : Nat} {P : Int32 → zIM → zLM → Prop} {I : zIM} {L : zLM} {x1 : Int32}  (h : ∃ (d1 : Nat) (P1 : Int32 → zIM → zLM → Prop), d1 + 1 ≤ d ∧ zCi l G d1 mX8_isWithin [.int x1, .int (11 : Int32)] I L P1 ∧ ∀ (y1 : Int32) (I1 : zIM) (L1 : zLM), P1 y1 I1 L1 → (((¬ y1 = 0 → (∃ (d3 : Nat) (P3 : Int32 → zIM → zLM → Prop), d3 + 1 ≤ d ∧ zCi l G d3 mX2_isOver [.ref 1, .int (I1 20 0), .int (I1 20 1)] I1 L1 P3 ∧ ∀ (y3 : Int32) (I3 : zIM) (L3 : zLM), P3 y3 I3 L3 → (((y3 = 0 → (∃ (d5 : Nat) (P5 : zIM → zLM → Prop), d5 + 1 ≤ d ∧ zCv l G d5 mX4_solve [.ref 14] I3 L3 P5 ∧ ∀ (I5 : zIM) (L5 : zLM), P5 I5 L5 → (∃ (d6 : Nat) (P6 : Int32 → zIM → zLM → Prop), d6 + 1 ≤ d ∧ zCi l G d6 mX4_aimAt [.ref 14, .int (I5 20 1), .int (I5 20 2), .int (I5 20 0)] I5 L5 P6 ∧ ∀ (y6 : Int32) (I6 : zIM) (L6 : zLM), P6 y6 I6 L6 → (((y6 = (-2 : Int32) → (∃ (d8 : Nat) (P8 : zIM → zLM → Prop), d8 + 1 ≤ d ∧ zCv l G d8 mX1_throwAt [.ref 20, .int y6, .int (0 : Int32)] I6 L6 P8 ∧ ∀ (I8 : zIM) (L8 : zLM), P8 I8 L8 → (((¬ y6 = (-2 : Int32) → (P ((((100 : Int32) * (I5 20 2)) + ((10 : Int32) * y6)) + (0 : Int32)) I8 L8)) ∧ (y6 = (-2 : Int32) → (P ((((100 : Int32) * (I5 20 2)) + ((10 : Int32) * (9 : Int32))) + (0 : Int32)) I8 L8)))))) ∧ (¬ y6 = (-2 : Int32) → (∃ (d10 : Nat) (P10 : Int32 → zIM → zLM → Prop), d10 + 1 ≤ d ∧ zCi l G d10 mX4_numberAt [.ref 14, .int (I6 20 1), .int (I5 20 2), .int y6, .int (I6 20 0)] I6 L6 P10 ∧ ∀ (y10 : Int32) (I10 : zIM) (L10 : zLM), P10 y10 I10 L10 → (((y10 ≤ x1 → (∃ (d12 : Nat) (P12 : zIM → zLM → Prop), d12 + 1 ≤ d ∧ zCv l G d12 mX1_throwAt [.ref 20, .int y6, .int (0 : Int32)] I10 L10 P12 ∧ ∀ (I12 : zIM) (L12 : zLM), P12 I12 L12 → (((¬ y6 = (-2 : Int32) → (P ((((100 : Int32) * (I5 20 2)) + ((10 : Int32) * y6)) + (0 : Int32)) I12 L12)) ∧ (y6 = (-2 : Int32) → (P ((((100 : Int32) * (I5 20 2)) + ((10 : Int32) * (9 : Int32))) + (0 : Int32)) I12 L12)))))) ∧ (¬ y10 ≤ x1 → (∃ (d14 : Nat) (P14 : zIM → zLM → Prop), d14 + 1 ≤ d ∧ zCv l G d14 mX1_throwAt [.ref 20, .int y6, .int (1 : Int32)] I10 L10 P14 ∧ ∀ (I14 : zIM) (L14 : zLM), P14 I14 L14 → (((¬ y6 = (-2 : Int32) → (P ((((100 : Int32) * (I5 20 2)) + ((10 : Int32) * y6)) + (1 : Int32)) I14 L14)) ∧ (y6 = (-2 : Int32) → (P ((((100 : Int32) * (I5 20 2)) + ((10 : Int32) * (9 : Int32))) + (1 : Int32)) I14 L14))))))))))))))) ∧ (¬ y3 = 0 → (P (-5 : Int32) I3 L3)))))) ∧ (y1 = 0 → (P (-1 : Int32) I1 L1))))) : zCi l G d mX8_step [.ref 0, .int x1] I L P := by
  refine zCn.of (ls := [some (.ref 0), some (.int x1), none, none, none]) (by decide) (Nat.le_of_ble_eq_true rfl) rfl ?_
  refine z_iload_n (pc' := 1) (x := x1) dX8_step_0 rfl rfl ?_
  refine z_bipush (pc' := 3) (v := 11) dX8_step_1 rfl (by decide) ?_
  obtain ⟨d1, P1, hd1, hC1, h⟩ := h
  refine z_callS (pc' := 6) (M' := mX8_isWithin) (As := [.int x1, .int (11 : Int32)]) dX8_step_3 rfl ml_X8_75 me_X8_isWithin hC1 rfl hd1 (Nat.le_of_ble_eq_true rfl) ⟨Nat.le_refl _, Nat.le_refl _⟩ rfl ?_
  rintro _ _ ⟨y1, I1, L1, rfl, rfl, hP1⟩
  replace h := h y1 I1 L1 hP1
  refine z_if_ne (pc' := 9) (tgt := 11) dX8_step_6 rfl (by decide) (fun c2 => ?_) (fun c2 => ?_)
  · replace h := h.1 c2
    refine z_aload_n (pc' := 12) (x := 0) dX8_step_11 rfl rfl ?_
    refine z_getr (pc' := 15) (x := 1) dX8_step_12 rfl fl_X8_10 rfl rfl rfl ?_
    refine z_aload_n (pc' := 16) (x := 0) dX8_step_15 rfl rfl ?_
    refine z_getr (pc' := 19) (x := 20) dX8_step_16 rfl fl_X8_37 rfl rfl rfl ?_
    refine z_geti (pc' := 22) (x := (I1 20 0)) dX8_step_19 rfl fl_X8_132 rfl rfl rfl ?_
    refine z_aload_n (pc' := 23) (x := 0) dX8_step_22 rfl rfl ?_
    refine z_getr (pc' := 26) (x := 20) dX8_step_23 rfl fl_X8_37 rfl rfl rfl ?_
    refine z_geti (pc' := 29) (x := (I1 20 1)) dX8_step_26 rfl fl_X8_255 rfl rfl rfl ?_
    obtain ⟨d3, P3, hd3, hC3, h⟩ := h
    refine z_callV (pc' := 32) (M' := mX2_isOver) (As := [.int (I1 20 0), .int (I1 20 1)]) dX8_step_29 rfl ml_X8_244 me_X2_isOver hC3 rfl (by decide) rfl rfl hd3 (Nat.le_of_ble_eq_true rfl) ⟨Nat.le_refl _, Nat.le_refl _⟩ rfl ?_
    rintro _ _ ⟨y3, I3, L3, rfl, rfl, hP3⟩
    replace h := h y3 I3 L3 hP3
    refine z_if_eq (pc' := 35) (tgt := 38) dX8_step_32 rfl (by decide) (fun c4 => ?_) (fun c4 => ?_)
    · replace h := h.1 c4
      refine z_aload_n (pc' := 39) (x := 0) dX8_step_38 rfl rfl ?_
      refine z_getr (pc' := 42) (x := 14) dX8_step_39 rfl fl_X8_28 rfl rfl rfl ?_
      obtain ⟨d5, P5, hd5, hC5, h⟩ := h
      refine z_callV (pc' := 45) (M' := mX4_solve) (As := []) dX8_step_42 rfl ml_X8_152 me_X4_solve hC5 rfl (by decide) rfl rfl hd5 (Nat.le_of_ble_eq_true rfl) ⟨Nat.le_refl _, Nat.le_refl _⟩ rfl ?_
      rintro _ _ ⟨I5, L5, rfl, rfl, hP5⟩
      replace h := h I5 L5 hP5
      refine z_aload_n (pc' := 46) (x := 0) dX8_step_45 rfl rfl ?_
      refine z_getr (pc' := 49) (x := 20) dX8_step_46 rfl fl_X8_37 rfl rfl rfl ?_
      refine z_geti (pc' := 52) (x := (I5 20 2)) dX8_step_49 rfl fl_X8_258 rfl rfl rfl ?_
      refine z_istore_n (pc' := 53) (ls' := [some (.ref 0), some (.int x1), some (.int (I5 20 2)), none, none]) dX8_step_52 rfl (by decide) rfl ?_
      refine z_aload_n (pc' := 54) (x := 0) dX8_step_53 rfl rfl ?_
      refine z_getr (pc' := 57) (x := 14) dX8_step_54 rfl fl_X8_28 rfl rfl rfl ?_
      refine z_aload_n (pc' := 58) (x := 0) dX8_step_57 rfl rfl ?_
      refine z_getr (pc' := 61) (x := 20) dX8_step_58 rfl fl_X8_37 rfl rfl rfl ?_
      refine z_geti (pc' := 64) (x := (I5 20 1)) dX8_step_61 rfl fl_X8_255 rfl rfl rfl ?_
      refine z_iload_n (pc' := 65) (x := (I5 20 2)) dX8_step_64 rfl rfl ?_
      refine z_aload_n (pc' := 66) (x := 0) dX8_step_65 rfl rfl ?_
      refine z_getr (pc' := 69) (x := 20) dX8_step_66 rfl fl_X8_37 rfl rfl rfl ?_
      refine z_geti (pc' := 72) (x := (I5 20 0)) dX8_step_69 rfl fl_X8_132 rfl rfl rfl ?_
      obtain ⟨d6, P6, hd6, hC6, h⟩ := h
      refine z_callV (pc' := 75) (M' := mX4_aimAt) (As := [.int (I5 20 1), .int (I5 20 2), .int (I5 20 0)]) dX8_step_72 rfl ml_X8_183 me_X4_aimAt hC6 rfl (by decide) rfl rfl hd6 (Nat.le_of_ble_eq_true rfl) ⟨Nat.le_refl _, Nat.le_refl _⟩ rfl ?_
      rintro _ _ ⟨y6, I6, L6, rfl, rfl, hP6⟩
      replace h := h y6 I6 L6 hP6
      refine z_istore_n (pc' := 76) (ls' := [some (.ref 0), some (.int x1), some (.int (I5 20 2)), some (.int y6), none]) dX8_step_75 rfl (by decide) rfl ?_
      refine z_iload_n (pc' := 77) (x := y6) dX8_step_76 rfl rfl ?_
      refine z_bipush (pc' := 79) (v := -2) dX8_step_77 rfl (by decide) ?_
      refine z_icmp_eq (pc' := 82) (tgt := 113) dX8_step_79 rfl (by decide) (fun c7 => ?_) (fun c7 => ?_)
      · replace h := h.1 c7
        refine z_iconst (pc' := 114) (v := 0) dX8_step_113 rfl (by decide) ?_
        refine z_istore (pc' := 116) (ls' := [some (.ref 0), some (.int x1), some (.int (I5 20 2)), some (.int y6), some (.int (0 : Int32))]) dX8_step_114 rfl (by decide) rfl ?_
        refine z_aload_n (pc' := 117) (x := 0) dX8_step_116 rfl rfl ?_
        refine z_getr (pc' := 120) (x := 20) dX8_step_117 rfl fl_X8_37 rfl rfl rfl ?_
        refine z_iload_n (pc' := 121) (x := y6) dX8_step_120 rfl rfl ?_
        refine z_iload (pc' := 123) (x := (0 : Int32)) dX8_step_121 rfl rfl ?_
        obtain ⟨d8, P8, hd8, hC8, h⟩ := h
        refine z_callV (pc' := 126) (M' := mX1_throwAt) (As := [.int y6, .int (0 : Int32)]) dX8_step_123 rfl ml_X8_261 me_X1_throwAt hC8 rfl (by decide) rfl rfl hd8 (Nat.le_of_ble_eq_true rfl) ⟨Nat.le_refl _, Nat.le_refl _⟩ rfl ?_
        rintro _ _ ⟨I8, L8, rfl, rfl, hP8⟩
        replace h := h I8 L8 hP8
        refine z_bipush (pc' := 128) (v := 100) dX8_step_126 rfl (by decide) ?_
        refine z_iload_n (pc' := 129) (x := (I5 20 2)) dX8_step_128 rfl rfl ?_
        refine z_imul (pc' := 130) dX8_step_129 rfl ?_
        refine z_bipush (pc' := 132) (v := 10) dX8_step_130 rfl (by decide) ?_
        refine z_iload_n (pc' := 133) (x := y6) dX8_step_132 rfl rfl ?_
        refine z_bipush (pc' := 135) (v := -2) dX8_step_133 rfl (by decide) ?_
        refine z_icmp_ne (pc' := 138) (tgt := 143) dX8_step_135 rfl (by decide) (fun c9 => ?_) (fun c9 => ?_)
        · replace h := h.1 c9
          refine z_iload_n (pc' := 144) (x := y6) dX8_step_143 rfl rfl ?_
          refine z_imul (pc' := 145) dX8_step_144 rfl ?_
          refine z_iadd (pc' := 146) dX8_step_145 rfl ?_
          refine z_iload (pc' := 148) (x := (0 : Int32)) dX8_step_146 rfl rfl ?_
          refine z_if_eq (pc' := 151) (tgt := 155) dX8_step_148 rfl (by decide) (fun _ => ?_) (fun c => absurd c (by decide))
          refine z_iconst (pc' := 156) (v := 0) dX8_step_155 rfl (by decide) ?_
          refine z_iadd (pc' := 157) dX8_step_156 rfl ?_
          exact z_iret dX8_step_157 rfl rfl ⟨Nat.le_refl _, Nat.le_refl _⟩ ⟨_, _, _, rfl, rfl, h⟩
        · replace h := h.2 c9
          refine z_bipush (pc' := 140) (v := 9) dX8_step_138 rfl (by decide) ?_
          refine z_goto (pc' := 144) dX8_step_140 (by decide) ?_
          refine z_imul (pc' := 145) dX8_step_144 rfl ?_
          refine z_iadd (pc' := 146) dX8_step_145 rfl ?_
          refine z_iload (pc' := 148) (x := (0 : Int32)) dX8_step_146 rfl rfl ?_
          refine z_if_eq (pc' := 151) (tgt := 155) dX8_step_148 rfl (by decide) (fun _ => ?_) (fun c => absurd c (by decide))
          refine z_iconst (pc' := 156) (v := 0) dX8_step_155 rfl (by decide) ?_
          refine z_iadd (pc' := 157) dX8_step_156 rfl ?_
          exact z_iret dX8_step_157 rfl rfl ⟨Nat.le_refl _, Nat.le_refl _⟩ ⟨_, _, _, rfl, rfl, h⟩
      · replace h := h.2 c7
        refine z_iload_n (pc' := 83) (x := x1) dX8_step_82 rfl rfl ?_
        refine z_aload_n (pc' := 84) (x := 0) dX8_step_83 rfl rfl ?_
        refine z_getr (pc' := 87) (x := 14) dX8_step_84 rfl fl_X8_28 rfl rfl rfl ?_
        refine z_aload_n (pc' := 88) (x := 0) dX8_step_87 rfl rfl ?_
        refine z_getr (pc' := 91) (x := 20) dX8_step_88 rfl fl_X8_37 rfl rfl rfl ?_
        refine z_geti (pc' := 94) (x := (I6 20 1)) dX8_step_91 rfl fl_X8_255 rfl rfl rfl ?_
        refine z_iload_n (pc' := 95) (x := (I5 20 2)) dX8_step_94 rfl rfl ?_
        refine z_iload_n (pc' := 96) (x := y6) dX8_step_95 rfl rfl ?_
        refine z_aload_n (pc' := 97) (x := 0) dX8_step_96 rfl rfl ?_
        refine z_getr (pc' := 100) (x := 20) dX8_step_97 rfl fl_X8_37 rfl rfl rfl ?_
        refine z_geti (pc' := 103) (x := (I6 20 0)) dX8_step_100 rfl fl_X8_132 rfl rfl rfl ?_
        obtain ⟨d10, P10, hd10, hC10, h⟩ := h
        refine z_callV (pc' := 106) (M' := mX4_numberAt) (As := [.int (I6 20 1), .int (I5 20 2), .int y6, .int (I6 20 0)]) dX8_step_103 rfl ml_X8_248 me_X4_numberAt hC10 rfl (by decide) rfl rfl hd10 (Nat.le_of_ble_eq_true rfl) ⟨Nat.le_refl _, Nat.le_refl _⟩ rfl ?_
        rintro _ _ ⟨y10, I10, L10, rfl, rfl, hP10⟩
        replace h := h y10 I10 L10 hP10
        refine z_icmp_ge (pc' := 109) (tgt := 113) dX8_step_106 rfl (by decide) (fun c11 => ?_) (fun c11 => ?_)
        · replace h := h.1 c11
          refine z_iconst (pc' := 114) (v := 0) dX8_step_113 rfl (by decide) ?_
          refine z_istore (pc' := 116) (ls' := [some (.ref 0), some (.int x1), some (.int (I5 20 2)), some (.int y6), some (.int (0 : Int32))]) dX8_step_114 rfl (by decide) rfl ?_
          refine z_aload_n (pc' := 117) (x := 0) dX8_step_116 rfl rfl ?_
          refine z_getr (pc' := 120) (x := 20) dX8_step_117 rfl fl_X8_37 rfl rfl rfl ?_
          refine z_iload_n (pc' := 121) (x := y6) dX8_step_120 rfl rfl ?_
          refine z_iload (pc' := 123) (x := (0 : Int32)) dX8_step_121 rfl rfl ?_
          obtain ⟨d12, P12, hd12, hC12, h⟩ := h
          refine z_callV (pc' := 126) (M' := mX1_throwAt) (As := [.int y6, .int (0 : Int32)]) dX8_step_123 rfl ml_X8_261 me_X1_throwAt hC12 rfl (by decide) rfl rfl hd12 (Nat.le_of_ble_eq_true rfl) ⟨Nat.le_refl _, Nat.le_refl _⟩ rfl ?_
          rintro _ _ ⟨I12, L12, rfl, rfl, hP12⟩
          replace h := h I12 L12 hP12
          refine z_bipush (pc' := 128) (v := 100) dX8_step_126 rfl (by decide) ?_
          refine z_iload_n (pc' := 129) (x := (I5 20 2)) dX8_step_128 rfl rfl ?_
          refine z_imul (pc' := 130) dX8_step_129 rfl ?_
          refine z_bipush (pc' := 132) (v := 10) dX8_step_130 rfl (by decide) ?_
          refine z_iload_n (pc' := 133) (x := y6) dX8_step_132 rfl rfl ?_
          refine z_bipush (pc' := 135) (v := -2) dX8_step_133 rfl (by decide) ?_
          refine z_icmp_ne (pc' := 138) (tgt := 143) dX8_step_135 rfl (by decide) (fun c13 => ?_) (fun c13 => ?_)
          · replace h := h.1 c13
            refine z_iload_n (pc' := 144) (x := y6) dX8_step_143 rfl rfl ?_
            refine z_imul (pc' := 145) dX8_step_144 rfl ?_
            refine z_iadd (pc' := 146) dX8_step_145 rfl ?_
            refine z_iload (pc' := 148) (x := (0 : Int32)) dX8_step_146 rfl rfl ?_
            refine z_if_eq (pc' := 151) (tgt := 155) dX8_step_148 rfl (by decide) (fun _ => ?_) (fun c => absurd c (by decide))
            refine z_iconst (pc' := 156) (v := 0) dX8_step_155 rfl (by decide) ?_
            refine z_iadd (pc' := 157) dX8_step_156 rfl ?_
            exact z_iret dX8_step_157 rfl rfl ⟨Nat.le_refl _, Nat.le_refl _⟩ ⟨_, _, _, rfl, rfl, h⟩
          · replace h := h.2 c13
            refine z_bipush (pc' := 140) (v := 9) dX8_step_138 rfl (by decide) ?_
            refine z_goto (pc' := 144) dX8_step_140 (by decide) ?_
            refine z_imul (pc' := 145) dX8_step_144 rfl ?_
            refine z_iadd (pc' := 146) dX8_step_145 rfl ?_
            refine z_iload (pc' := 148) (x := (0 : Int32)) dX8_step_146 rfl rfl ?_
            refine z_if_eq (pc' := 151) (tgt := 155) dX8_step_148 rfl (by decide) (fun _ => ?_) (fun c => absurd c (by decide))
            refine z_iconst (pc' := 156) (v := 0) dX8_step_155 rfl (by decide) ?_
            refine z_iadd (pc' := 157) dX8_step_156 rfl ?_
            exact z_iret dX8_step_157 rfl rfl ⟨Nat.le_refl _, Nat.le_refl _⟩ ⟨_, _, _, rfl, rfl, h⟩
        · replace h := h.2 c11
          refine z_iconst (pc' := 110) (v := 1) dX8_step_109 rfl (by decide) ?_
          refine z_goto (pc' := 114) dX8_step_110 (by decide) ?_
          refine z_istore (pc' := 116) (ls' := [some (.ref 0), some (.int x1), some (.int (I5 20 2)), some (.int y6), some (.int (1 : Int32))]) dX8_step_114 rfl (by decide) rfl ?_
          refine z_aload_n (pc' := 117) (x := 0) dX8_step_116 rfl rfl ?_
          refine z_getr (pc' := 120) (x := 20) dX8_step_117 rfl fl_X8_37 rfl rfl rfl ?_
          refine z_iload_n (pc' := 121) (x := y6) dX8_step_120 rfl rfl ?_
          refine z_iload (pc' := 123) (x := (1 : Int32)) dX8_step_121 rfl rfl ?_
          obtain ⟨d14, P14, hd14, hC14, h⟩ := h
          refine z_callV (pc' := 126) (M' := mX1_throwAt) (As := [.int y6, .int (1 : Int32)]) dX8_step_123 rfl ml_X8_261 me_X1_throwAt hC14 rfl (by decide) rfl rfl hd14 (Nat.le_of_ble_eq_true rfl) ⟨Nat.le_refl _, Nat.le_refl _⟩ rfl ?_
          rintro _ _ ⟨I14, L14, rfl, rfl, hP14⟩
          replace h := h I14 L14 hP14
          refine z_bipush (pc' := 128) (v := 100) dX8_step_126 rfl (by decide) ?_
          refine z_iload_n (pc' := 129) (x := (I5 20 2)) dX8_step_128 rfl rfl ?_
          refine z_imul (pc' := 130) dX8_step_129 rfl ?_
          refine z_bipush (pc' := 132) (v := 10) dX8_step_130 rfl (by decide) ?_
          refine z_iload_n (pc' := 133) (x := y6) dX8_step_132 rfl rfl ?_
          refine z_bipush (pc' := 135) (v := -2) dX8_step_133 rfl (by decide) ?_
          refine z_icmp_ne (pc' := 138) (tgt := 143) dX8_step_135 rfl (by decide) (fun c15 => ?_) (fun c15 => ?_)
          · replace h := h.1 c15
            refine z_iload_n (pc' := 144) (x := y6) dX8_step_143 rfl rfl ?_
            refine z_imul (pc' := 145) dX8_step_144 rfl ?_
            refine z_iadd (pc' := 146) dX8_step_145 rfl ?_
            refine z_iload (pc' := 148) (x := (1 : Int32)) dX8_step_146 rfl rfl ?_
            refine z_if_eq (pc' := 151) (tgt := 155) dX8_step_148 rfl (by decide) (fun c => absurd c (by decide)) (fun _ => ?_)
            refine z_iconst (pc' := 152) (v := 1) dX8_step_151 rfl (by decide) ?_
            refine z_goto (pc' := 156) dX8_step_152 (by decide) ?_
            refine z_iadd (pc' := 157) dX8_step_156 rfl ?_
            exact z_iret dX8_step_157 rfl rfl ⟨Nat.le_refl _, Nat.le_refl _⟩ ⟨_, _, _, rfl, rfl, h⟩
          · replace h := h.2 c15
            refine z_bipush (pc' := 140) (v := 9) dX8_step_138 rfl (by decide) ?_
            refine z_goto (pc' := 144) dX8_step_140 (by decide) ?_
            refine z_imul (pc' := 145) dX8_step_144 rfl ?_
            refine z_iadd (pc' := 146) dX8_step_145 rfl ?_
            refine z_iload (pc' := 148) (x := (1 : Int32)) dX8_step_146 rfl rfl ?_
            refine z_if_eq (pc' := 151) (tgt := 155) dX8_step_148 rfl (by decide) (fun c => absurd c (by decide)) (fun _ => ?_)
            refine z_iconst (pc' := 152) (v := 1) dX8_step_151 rfl (by decide) ?_
            refine z_goto (pc' := 156) dX8_step_152 (by decide) ?_
            refine z_iadd (pc' := 157) dX8_step_156 rfl ?_
            exact z_iret dX8_step_157 rfl rfl ⟨Nat.le_refl _, Nat.le_refl _⟩ ⟨_, _, _, rfl, rfl, h⟩
    · replace h := h.2 c4
      refine z_bipush (pc' := 37) (v := -5) dX8_step_35 rfl (by decide) ?_
      exact z_iret dX8_step_37 rfl rfl ⟨Nat.le_refl _, Nat.le_refl _⟩ ⟨_, _, _, rfl, rfl, h⟩
  · replace h := h.2 c2
    refine z_iconst (pc' := 10) (v := -1) dX8_step_9 rfl (by decide) ?_
    exact z_iret dX8_step_10 rfl rfl ⟨Nat.le_refl _, Nat.le_refl _⟩ ⟨_, _, _, rfl, rfl, h⟩
set_option maxHeartbeats 4000000 in
set_option maxRecDepth 100000 in
theorem t_X8_anew {l : Launch} {G : zG} {d : Nat} {P : Int32 → zIM → zLM → Prop} {I : zIM} {L : zLM}   (h : ∃ (d1 : Nat) (P1 : zIM → zLM → Prop), d1 + 1 ≤ d ∧ zCv l G d1 mX1_start [.ref 20] I L P1 ∧ ∀ (I1 : zIM) (L1 : zLM), P1 I1 L1 → (P (I 20 1) I1 L1)) : zCi l G d mX8_anew [.ref 0] I L P := by
  refine zCn.of (ls := [some (.ref 0), none]) (by decide) (Nat.le_of_ble_eq_true rfl) rfl ?_
  refine z_aload_n (pc' := 1) (x := 0) dX8_anew_0 rfl rfl ?_
  refine z_getr (pc' := 4) (x := 20) dX8_anew_1 rfl fl_X8_37 rfl rfl rfl ?_
  refine z_geti (pc' := 7) (x := (I 20 1)) dX8_anew_4 rfl fl_X8_255 rfl rfl rfl ?_
  refine z_istore_n (pc' := 8) (ls' := [some (.ref 0), some (.int (I 20 1))]) dX8_anew_7 rfl (by decide) rfl ?_
  refine z_aload_n (pc' := 9) (x := 0) dX8_anew_8 rfl rfl ?_
  refine z_getr (pc' := 12) (x := 20) dX8_anew_9 rfl fl_X8_37 rfl rfl rfl ?_
  obtain ⟨d1, P1, hd1, hC1, h⟩ := h
  refine z_callV (pc' := 15) (M' := mX1_start) (As := []) dX8_anew_12 rfl ml_X8_265 me_X1_start hC1 rfl (by decide) rfl rfl hd1 (Nat.le_of_ble_eq_true rfl) ⟨Nat.le_refl _, Nat.le_refl _⟩ rfl ?_
  rintro _ _ ⟨I1, L1, rfl, rfl, hP1⟩
  replace h := h I1 L1 hP1
  refine z_iload_n (pc' := 16) (x := (I 20 1)) dX8_anew_15 rfl rfl ?_
  exact z_iret dX8_anew_16 rfl rfl ⟨Nat.le_refl _, Nat.le_refl _⟩ ⟨_, _, _, rfl, rfl, h⟩
set_option maxHeartbeats 4000000 in
set_option maxRecDepth 100000 in
theorem t_X8_image {l : Launch} {G : zG} {d : Nat} {P : Int32 → zIM → zLM → Prop} {I : zIM} {L : zLM}   (h : ∃ (d1 : Nat) (P1 : zIM → zLM → Prop), d1 + 1 ≤ d ∧ zCv l G d1 mX1_keepImage [.ref 20] I L P1 ∧ ∀ (I1 : zIM) (L1 : zLM), P1 I1 L1 → (P (I1 20 1) I1 L1)) : zCi l G d mX8_image [.ref 0] I L P := by
  refine zCn.of (ls := [some (.ref 0)]) (by decide) (Nat.le_of_ble_eq_true rfl) rfl ?_
  refine z_aload_n (pc' := 1) (x := 0) dX8_image_0 rfl rfl ?_
  refine z_getr (pc' := 4) (x := 20) dX8_image_1 rfl fl_X8_37 rfl rfl rfl ?_
  obtain ⟨d1, P1, hd1, hC1, h⟩ := h
  refine z_callV (pc' := 7) (M' := mX1_keepImage) (As := []) dX8_image_4 rfl ml_X8_268 me_X1_keepImage hC1 rfl (by decide) rfl rfl hd1 (Nat.le_of_ble_eq_true rfl) ⟨Nat.le_refl _, Nat.le_refl _⟩ rfl ?_
  rintro _ _ ⟨I1, L1, rfl, rfl, hP1⟩
  replace h := h I1 L1 hP1
  refine z_aload_n (pc' := 8) (x := 0) dX8_image_7 rfl rfl ?_
  refine z_getr (pc' := 11) (x := 20) dX8_image_8 rfl fl_X8_37 rfl rfl rfl ?_
  refine z_geti (pc' := 14) (x := (I1 20 1)) dX8_image_11 rfl fl_X8_255 rfl rfl rfl ?_
  exact z_iret dX8_image_14 rfl rfl ⟨Nat.le_refl _, Nat.le_refl _⟩ ⟨_, _, _, rfl, rfl, h⟩
set_option maxHeartbeats 4000000 in
set_option maxRecDepth 100000 in
theorem t_X8_back {l : Launch} {G : zG} {d : Nat} {P : Int32 → zIM → zLM → Prop} {I : zIM} {L : zLM}   (h : ∃ (d1 : Nat) (P1 : Int32 → zIM → zLM → Prop), d1 + 1 ≤ d ∧ zCi l G d1 mX1_takeImage [.ref 20] I L P1 ∧ ∀ (y1 : Int32) (I1 : zIM) (L1 : zLM), P1 y1 I1 L1 → (((y1 = 0 → (P (-5 : Int32) I1 L1)) ∧ (¬ y1 = 0 → (P (I1 20 1) I1 L1))))) : zCi l G d mX8_back [.ref 0] I L P := by
  refine zCn.of (ls := [some (.ref 0)]) (by decide) (Nat.le_of_ble_eq_true rfl) rfl ?_
  refine z_aload_n (pc' := 1) (x := 0) dX8_back_0 rfl rfl ?_
  refine z_getr (pc' := 4) (x := 20) dX8_back_1 rfl fl_X8_37 rfl rfl rfl ?_
  obtain ⟨d1, P1, hd1, hC1, h⟩ := h
  refine z_callV (pc' := 7) (M' := mX1_takeImage) (As := []) dX8_back_4 rfl ml_X8_271 me_X1_takeImage hC1 rfl (by decide) rfl rfl hd1 (Nat.le_of_ble_eq_true rfl) ⟨Nat.le_refl _, Nat.le_refl _⟩ rfl ?_
  rintro _ _ ⟨y1, I1, L1, rfl, rfl, hP1⟩
  replace h := h y1 I1 L1 hP1
  refine z_if_eq (pc' := 10) (tgt := 20) dX8_back_7 rfl (by decide) (fun c2 => ?_) (fun c2 => ?_)
  · replace h := h.1 c2
    refine z_bipush (pc' := 22) (v := -5) dX8_back_20 rfl (by decide) ?_
    exact z_iret dX8_back_22 rfl rfl ⟨Nat.le_refl _, Nat.le_refl _⟩ ⟨_, _, _, rfl, rfl, h⟩
  · replace h := h.2 c2
    refine z_aload_n (pc' := 11) (x := 0) dX8_back_10 rfl rfl ?_
    refine z_getr (pc' := 14) (x := 20) dX8_back_11 rfl fl_X8_37 rfl rfl rfl ?_
    refine z_geti (pc' := 17) (x := (I1 20 1)) dX8_back_14 rfl fl_X8_255 rfl rfl rfl ?_
    refine z_goto (pc' := 22) dX8_back_17 (by decide) ?_
    exact z_iret dX8_back_22 rfl rfl ⟨Nat.le_refl _, Nat.le_refl _⟩ ⟨_, _, _, rfl, rfl, h⟩
set_option maxHeartbeats 4000000 in
set_option maxRecDepth 100000 in
theorem t_X8_undo {l : Launch} {G : zG} {d : Nat} {P : Int32 → zIM → zLM → Prop} {I : zIM} {L : zLM}   (h : ∃ (d1 : Nat) (P1 : Int32 → zIM → zLM → Prop), d1 + 1 ≤ d ∧ zCi l G d1 mX0_takeBack [.ref 22] I L P1 ∧ ∀ (y1 : Int32) (I1 : zIM) (L1 : zLM), P1 y1 I1 L1 → (((¬ y1 = (-2 : Int32) → (∃ j3 : Nat, y1 = nI j3 ∧ j3 < 40 ∧ (∃ (d4 : Nat) (P4 : zIM → zLM → Prop), d4 + 1 ≤ d ∧ zCv l G d4 mX8_tell [.ref 0, .int (I1 23 j3), .int (I1 24 j3), .int (I1 25 j3)] I1 L1 P4 ∧ ∀ (I4 : zIM) (L4 : zLM), P4 I4 L4 → (P (I4 22 4) I4 L4)))) ∧ (y1 = (-2 : Int32) → (P (-5 : Int32) I1 L1))))) : zCi l G d mX8_undo [.ref 0] I L P := by
  refine zCn.of (ls := [some (.ref 0), none]) (by decide) (Nat.le_of_ble_eq_true rfl) rfl ?_
  refine z_aload_n (pc' := 1) (x := 0) dX8_undo_0 rfl rfl ?_
  refine z_getr (pc' := 4) (x := 22) dX8_undo_1 rfl fl_X8_53 rfl rfl rfl ?_
  obtain ⟨d1, P1, hd1, hC1, h⟩ := h
  refine z_callV (pc' := 7) (M' := mX0_takeBack) (As := []) dX8_undo_4 rfl ml_X8_275 me_X0_takeBack hC1 rfl (by decide) rfl rfl hd1 (Nat.le_of_ble_eq_true rfl) ⟨Nat.le_refl _, Nat.le_refl _⟩ rfl ?_
  rintro _ _ ⟨y1, I1, L1, rfl, rfl, hP1⟩
  replace h := h y1 I1 L1 hP1
  refine z_istore_n (pc' := 8) (ls' := [some (.ref 0), some (.int y1)]) dX8_undo_7 rfl (by decide) rfl ?_
  refine z_iload_n (pc' := 9) (x := y1) dX8_undo_8 rfl rfl ?_
  refine z_bipush (pc' := 11) (v := -2) dX8_undo_9 rfl (by decide) ?_
  refine z_icmp_ne (pc' := 14) (tgt := 17) dX8_undo_11 rfl (by decide) (fun c2 => ?_) (fun c2 => ?_)
  · replace h := h.1 c2
    refine z_aload_n (pc' := 18) (x := 0) dX8_undo_17 rfl rfl ?_
    refine z_aload_n (pc' := 19) (x := 0) dX8_undo_18 rfl rfl ?_
    refine z_getr (pc' := 22) (x := 22) dX8_undo_19 rfl fl_X8_53 rfl rfl rfl ?_
    refine z_getr (pc' := 25) (x := 23) dX8_undo_22 rfl fl_X8_278 rfl rfl rfl ?_
    refine z_iload_n (pc' := 26) (x := y1) dX8_undo_25 rfl rfl ?_
    obtain ⟨j3, ha3, hb3, h⟩ := h
    refine z_iald (pc' := 27) (x := (I1 23 j3)) (j := j3) dX8_undo_26 rfl rfl (by decide) ha3 hb3 rfl ?_
    refine z_aload_n (pc' := 28) (x := 0) dX8_undo_27 rfl rfl ?_
    refine z_getr (pc' := 31) (x := 22) dX8_undo_28 rfl fl_X8_53 rfl rfl rfl ?_
    refine z_getr (pc' := 34) (x := 24) dX8_undo_31 rfl fl_X8_281 rfl rfl rfl ?_
    refine z_iload_n (pc' := 35) (x := y1) dX8_undo_34 rfl rfl ?_
    refine z_iald (pc' := 36) (x := (I1 24 j3)) (j := j3) dX8_undo_35 rfl rfl (by decide) ha3 hb3 rfl ?_
    refine z_aload_n (pc' := 37) (x := 0) dX8_undo_36 rfl rfl ?_
    refine z_getr (pc' := 40) (x := 22) dX8_undo_37 rfl fl_X8_53 rfl rfl rfl ?_
    refine z_getr (pc' := 43) (x := 25) dX8_undo_40 rfl fl_X8_284 rfl rfl rfl ?_
    refine z_iload_n (pc' := 44) (x := y1) dX8_undo_43 rfl rfl ?_
    refine z_iald (pc' := 45) (x := (I1 25 j3)) (j := j3) dX8_undo_44 rfl rfl (by decide) ha3 hb3 rfl ?_
    obtain ⟨d4, P4, hd4, hC4, h⟩ := h
    refine z_callV (pc' := 48) (M' := mX8_tell) (As := [.int (I1 23 j3), .int (I1 24 j3), .int (I1 25 j3)]) dX8_undo_45 rfl ml_X8_116 me_X8_tell hC4 rfl (by decide) rfl rfl hd4 (Nat.le_of_ble_eq_true rfl) ⟨Nat.le_refl _, Nat.le_refl _⟩ rfl ?_
    rintro _ _ ⟨I4, L4, rfl, rfl, hP4⟩
    replace h := h I4 L4 hP4
    refine z_aload_n (pc' := 49) (x := 0) dX8_undo_48 rfl rfl ?_
    refine z_getr (pc' := 52) (x := 22) dX8_undo_49 rfl fl_X8_53 rfl rfl rfl ?_
    refine z_geti (pc' := 55) (x := (I4 22 4)) dX8_undo_52 rfl fl_X8_287 rfl rfl rfl ?_
    exact z_iret dX8_undo_55 rfl rfl ⟨Nat.le_refl _, Nat.le_refl _⟩ ⟨_, _, _, rfl, rfl, h⟩
  · replace h := h.2 c2
    refine z_bipush (pc' := 16) (v := -5) dX8_undo_14 rfl (by decide) ?_
    exact z_iret dX8_undo_16 rfl rfl ⟨Nat.le_refl _, Nat.le_refl _⟩ ⟨_, _, _, rfl, rfl, h⟩
set_option maxHeartbeats 4000000 in
set_option maxRecDepth 100000 in
theorem t_X8_redo {l : Launch} {G : zG} {d : Nat} {P : Int32 → zIM → zLM → Prop} {I : zIM} {L : zLM}   (h : ∃ (d1 : Nat) (P1 : Int32 → zIM → zLM → Prop), d1 + 1 ≤ d ∧ zCi l G d1 mX0_takeAgain [.ref 22] I L P1 ∧ ∀ (y1 : Int32) (I1 : zIM) (L1 : zLM), P1 y1 I1 L1 → (((¬ y1 = (-2 : Int32) → (∃ j3 : Nat, y1 = nI j3 ∧ j3 < 40 ∧ (∃ (d4 : Nat) (P4 : zIM → zLM → Prop), d4 + 1 ≤ d ∧ zCv l G d4 mX8_tell [.ref 0, .int (I1 23 j3), .int (I1 24 j3), .int (I1 26 j3)] I1 L1 P4 ∧ ∀ (I4 : zIM) (L4 : zLM), P4 I4 L4 → (P ((I4 22 5) - (I4 22 4)) I4 L4)))) ∧ (y1 = (-2 : Int32) → (P (-5 : Int32) I1 L1))))) : zCi l G d mX8_redo [.ref 0] I L P := by
  refine zCn.of (ls := [some (.ref 0), none]) (by decide) (Nat.le_of_ble_eq_true rfl) rfl ?_
  refine z_aload_n (pc' := 1) (x := 0) dX8_redo_0 rfl rfl ?_
  refine z_getr (pc' := 4) (x := 22) dX8_redo_1 rfl fl_X8_53 rfl rfl rfl ?_
  obtain ⟨d1, P1, hd1, hC1, h⟩ := h
  refine z_callV (pc' := 7) (M' := mX0_takeAgain) (As := []) dX8_redo_4 rfl ml_X8_290 me_X0_takeAgain hC1 rfl (by decide) rfl rfl hd1 (Nat.le_of_ble_eq_true rfl) ⟨Nat.le_refl _, Nat.le_refl _⟩ rfl ?_
  rintro _ _ ⟨y1, I1, L1, rfl, rfl, hP1⟩
  replace h := h y1 I1 L1 hP1
  refine z_istore_n (pc' := 8) (ls' := [some (.ref 0), some (.int y1)]) dX8_redo_7 rfl (by decide) rfl ?_
  refine z_iload_n (pc' := 9) (x := y1) dX8_redo_8 rfl rfl ?_
  refine z_bipush (pc' := 11) (v := -2) dX8_redo_9 rfl (by decide) ?_
  refine z_icmp_ne (pc' := 14) (tgt := 17) dX8_redo_11 rfl (by decide) (fun c2 => ?_) (fun c2 => ?_)
  · replace h := h.1 c2
    refine z_aload_n (pc' := 18) (x := 0) dX8_redo_17 rfl rfl ?_
    refine z_aload_n (pc' := 19) (x := 0) dX8_redo_18 rfl rfl ?_
    refine z_getr (pc' := 22) (x := 22) dX8_redo_19 rfl fl_X8_53 rfl rfl rfl ?_
    refine z_getr (pc' := 25) (x := 23) dX8_redo_22 rfl fl_X8_278 rfl rfl rfl ?_
    refine z_iload_n (pc' := 26) (x := y1) dX8_redo_25 rfl rfl ?_
    obtain ⟨j3, ha3, hb3, h⟩ := h
    refine z_iald (pc' := 27) (x := (I1 23 j3)) (j := j3) dX8_redo_26 rfl rfl (by decide) ha3 hb3 rfl ?_
    refine z_aload_n (pc' := 28) (x := 0) dX8_redo_27 rfl rfl ?_
    refine z_getr (pc' := 31) (x := 22) dX8_redo_28 rfl fl_X8_53 rfl rfl rfl ?_
    refine z_getr (pc' := 34) (x := 24) dX8_redo_31 rfl fl_X8_281 rfl rfl rfl ?_
    refine z_iload_n (pc' := 35) (x := y1) dX8_redo_34 rfl rfl ?_
    refine z_iald (pc' := 36) (x := (I1 24 j3)) (j := j3) dX8_redo_35 rfl rfl (by decide) ha3 hb3 rfl ?_
    refine z_aload_n (pc' := 37) (x := 0) dX8_redo_36 rfl rfl ?_
    refine z_getr (pc' := 40) (x := 22) dX8_redo_37 rfl fl_X8_53 rfl rfl rfl ?_
    refine z_getr (pc' := 43) (x := 26) dX8_redo_40 rfl fl_X8_293 rfl rfl rfl ?_
    refine z_iload_n (pc' := 44) (x := y1) dX8_redo_43 rfl rfl ?_
    refine z_iald (pc' := 45) (x := (I1 26 j3)) (j := j3) dX8_redo_44 rfl rfl (by decide) ha3 hb3 rfl ?_
    obtain ⟨d4, P4, hd4, hC4, h⟩ := h
    refine z_callV (pc' := 48) (M' := mX8_tell) (As := [.int (I1 23 j3), .int (I1 24 j3), .int (I1 26 j3)]) dX8_redo_45 rfl ml_X8_116 me_X8_tell hC4 rfl (by decide) rfl rfl hd4 (Nat.le_of_ble_eq_true rfl) ⟨Nat.le_refl _, Nat.le_refl _⟩ rfl ?_
    rintro _ _ ⟨I4, L4, rfl, rfl, hP4⟩
    replace h := h I4 L4 hP4
    refine z_aload_n (pc' := 49) (x := 0) dX8_redo_48 rfl rfl ?_
    refine z_getr (pc' := 52) (x := 22) dX8_redo_49 rfl fl_X8_53 rfl rfl rfl ?_
    refine z_geti (pc' := 55) (x := (I4 22 5)) dX8_redo_52 rfl fl_X8_296 rfl rfl rfl ?_
    refine z_aload_n (pc' := 56) (x := 0) dX8_redo_55 rfl rfl ?_
    refine z_getr (pc' := 59) (x := 22) dX8_redo_56 rfl fl_X8_53 rfl rfl rfl ?_
    refine z_geti (pc' := 62) (x := (I4 22 4)) dX8_redo_59 rfl fl_X8_287 rfl rfl rfl ?_
    refine z_isub (pc' := 63) dX8_redo_62 rfl ?_
    exact z_iret dX8_redo_63 rfl rfl ⟨Nat.le_refl _, Nat.le_refl _⟩ ⟨_, _, _, rfl, rfl, h⟩
  · replace h := h.2 c2
    refine z_bipush (pc' := 16) (v := -5) dX8_redo_14 rfl (by decide) ?_
    exact z_iret dX8_redo_16 rfl rfl ⟨Nat.le_refl _, Nat.le_refl _⟩ ⟨_, _, _, rfl, rfl, h⟩
set_option maxHeartbeats 4000000 in
set_option maxRecDepth 100000 in
theorem t_X8_body {l : Launch} {G : zG} {d : Nat} {P : Int32 → zIM → zLM → Prop} {I : zIM} {L : zLM} {x1 : Int32}  (h : ∃ (d1 : Nat) (P1 : Int32 → zIM → zLM → Prop), d1 + 1 ≤ d ∧ zCi l G d1 mX8_isWithin [.int x1, .int (7 : Int32)] I L P1 ∧ ∀ (y1 : Int32) (I1 : zIM) (L1 : zLM), P1 y1 I1 L1 → (((y1 = 0 → (P (-1 : Int32) I1 L1)) ∧ (¬ y1 = 0 → (∃ (d3 : Nat) (P3 : Int32 → zIM → zLM → Prop), d3 + 1 ≤ d ∧ zCi l G d3 mX6_come [.ref 27, .int x1] I1 L1 P3 ∧ ∀ (y3 : Int32) (I3 : zIM) (L3 : zLM), P3 y3 I3 L3 → (P y3 I3 L3)))))) : zCi l G d mX8_body [.ref 0, .int x1] I L P := by
  refine zCn.of (ls := [some (.ref 0), some (.int x1)]) (by decide) (Nat.le_of_ble_eq_true rfl) rfl ?_
  refine z_iload_n (pc' := 1) (x := x1) dX8_body_0 rfl rfl ?_
  refine z_bipush (pc' := 3) (v := 7) dX8_body_1 rfl (by decide) ?_
  obtain ⟨d1, P1, hd1, hC1, h⟩ := h
  refine z_callS (pc' := 6) (M' := mX8_isWithin) (As := [.int x1, .int (7 : Int32)]) dX8_body_3 rfl ml_X8_75 me_X8_isWithin hC1 rfl hd1 (Nat.le_of_ble_eq_true rfl) ⟨Nat.le_refl _, Nat.le_refl _⟩ rfl ?_
  rintro _ _ ⟨y1, I1, L1, rfl, rfl, hP1⟩
  replace h := h y1 I1 L1 hP1
  refine z_if_eq (pc' := 9) (tgt := 20) dX8_body_6 rfl (by decide) (fun c2 => ?_) (fun c2 => ?_)
  · replace h := h.1 c2
    refine z_iconst (pc' := 21) (v := -1) dX8_body_20 rfl (by decide) ?_
    exact z_iret dX8_body_21 rfl rfl ⟨Nat.le_refl _, Nat.le_refl _⟩ ⟨_, _, _, rfl, rfl, h⟩
  · replace h := h.2 c2
    refine z_aload_n (pc' := 10) (x := 0) dX8_body_9 rfl rfl ?_
    refine z_getr (pc' := 13) (x := 27) dX8_body_10 rfl fl_X8_60 rfl rfl rfl ?_
    refine z_iload_n (pc' := 14) (x := x1) dX8_body_13 rfl rfl ?_
    obtain ⟨d3, P3, hd3, hC3, h⟩ := h
    refine z_callV (pc' := 17) (M' := mX6_come) (As := [.int x1]) dX8_body_14 rfl ml_X8_299 me_X6_come hC3 rfl (by decide) rfl rfl hd3 (Nat.le_of_ble_eq_true rfl) ⟨Nat.le_refl _, Nat.le_refl _⟩ rfl ?_
    rintro _ _ ⟨y3, I3, L3, rfl, rfl, hP3⟩
    replace h := h y3 I3 L3 hP3
    refine z_goto (pc' := 21) dX8_body_17 (by decide) ?_
    exact z_iret dX8_body_21 rfl rfl ⟨Nat.le_refl _, Nat.le_refl _⟩ ⟨_, _, _, rfl, rfl, h⟩
set_option maxHeartbeats 4000000 in
set_option maxRecDepth 100000 in
theorem t_X8_act {l : Launch} {G : zG} {d : Nat} {P : Int32 → zIM → zLM → Prop} {I : zIM} {L : zLM} {x1 : Int32} {x2 : Int32} {x3 : Int32}  (h : ∃ (d1 : Nat) (P1 : Int32 → zIM → zLM → Prop), d1 + 1 ≤ d ∧ zCi l G d1 mX6_doAct [.ref 27, .int x1, .int x2, .int x3] I L P1 ∧ ∀ (y1 : Int32) (I1 : zIM) (L1 : zLM), P1 y1 I1 L1 → (P y1 I1 L1)) : zCi l G d mX8_act [.ref 0, .int x1, .int x2, .int x3] I L P := by
  refine zCn.of (ls := [some (.ref 0), some (.int x1), some (.int x2), some (.int x3)]) (by decide) (Nat.le_of_ble_eq_true rfl) rfl ?_
  refine z_aload_n (pc' := 1) (x := 0) dX8_act_0 rfl rfl ?_
  refine z_getr (pc' := 4) (x := 27) dX8_act_1 rfl fl_X8_60 rfl rfl rfl ?_
  refine z_iload_n (pc' := 5) (x := x1) dX8_act_4 rfl rfl ?_
  refine z_iload_n (pc' := 6) (x := x2) dX8_act_5 rfl rfl ?_
  refine z_iload_n (pc' := 7) (x := x3) dX8_act_6 rfl rfl ?_
  obtain ⟨d1, P1, hd1, hC1, h⟩ := h
  refine z_callV (pc' := 10) (M' := mX6_doAct) (As := [.int x1, .int x2, .int x3]) dX8_act_7 rfl ml_X8_301 me_X6_doAct hC1 rfl (by decide) rfl rfl hd1 (Nat.le_of_ble_eq_true rfl) ⟨Nat.le_refl _, Nat.le_refl _⟩ rfl ?_
  rintro _ _ ⟨y1, I1, L1, rfl, rfl, hP1⟩
  replace h := h y1 I1 L1 hP1
  exact z_iret dX8_act_10 rfl rfl ⟨Nat.le_refl _, Nat.le_refl _⟩ ⟨_, _, _, rfl, rfl, h⟩
set_option maxHeartbeats 4000000 in
set_option maxRecDepth 100000 in
theorem t_X8_trace {l : Launch} {G : zG} {d : Nat} {P : Int32 → zIM → zLM → Prop} {I : zIM} {L : zLM} {x1 : Int32}  (hdp : 1 ≤ d) (h : ∃ (d1 : Nat) (P1 : Int32 → zIM → zLM → Prop), d1 + 1 ≤ d ∧ zCi l G d1 mX8_isWithin [.int x1, .int ((if (24 : Int32) < (I 27 3) then (24 : Int32) else (I 27 3)) - (1 : Int32))] I L P1 ∧ ∀ (y1 : Int32) (I1 : zIM) (L1 : zLM), P1 y1 I1 L1 → (((y1 = 0 → (P (-1 : Int32) I1 L1)) ∧ (¬ y1 = 0 → (∃ j3 : Nat, x1 = nI j3 ∧ j3 < 24 ∧ (P (I1 29 j3) I1 L1)))))) : zCi l G d mX8_trace [.ref 0, .int x1] I L P := by
  refine zCn.of (ls := [some (.ref 0), some (.int x1)]) (by decide) (Nat.le_of_ble_eq_true rfl) rfl ?_
  refine z_iload_n (pc' := 1) (x := x1) dX8_trace_0 rfl rfl ?_
  refine z_aload_n (pc' := 2) (x := 0) dX8_trace_1 rfl rfl ?_
  refine z_getr (pc' := 5) (x := 27) dX8_trace_2 rfl fl_X8_60 rfl rfl rfl ?_
  refine z_geti (pc' := 8) (x := (I 27 3)) dX8_trace_5 rfl fl_X8_304 rfl rfl rfl ?_
  refine z_bipush (pc' := 10) (v := 24) dX8_trace_8 rfl (by decide) ?_
  refine z_mmin (pc' := 13) dX8_trace_10 rfl ml_X8_307 zmt_mmin hdp (Nat.le_of_ble_eq_true rfl) ⟨Nat.le_refl _, Nat.le_refl _⟩ ?_
  refine z_iconst (pc' := 14) (v := 1) dX8_trace_13 rfl (by decide) ?_
  refine z_isub (pc' := 15) dX8_trace_14 rfl ?_
  obtain ⟨d1, P1, hd1, hC1, h⟩ := h
  refine z_callS (pc' := 18) (M' := mX8_isWithin) (As := [.int x1, .int ((if (24 : Int32) < (I 27 3) then (24 : Int32) else (I 27 3)) - (1 : Int32))]) dX8_trace_15 rfl ml_X8_75 me_X8_isWithin hC1 rfl hd1 (Nat.le_of_ble_eq_true rfl) ⟨Nat.le_refl _, Nat.le_refl _⟩ rfl ?_
  rintro _ _ ⟨y1, I1, L1, rfl, rfl, hP1⟩
  replace h := h y1 I1 L1 hP1
  refine z_if_eq (pc' := 21) (tgt := 33) dX8_trace_18 rfl (by decide) (fun c2 => ?_) (fun c2 => ?_)
  · replace h := h.1 c2
    refine z_iconst (pc' := 34) (v := -1) dX8_trace_33 rfl (by decide) ?_
    exact z_iret dX8_trace_34 rfl rfl ⟨Nat.le_refl _, Nat.le_refl _⟩ ⟨_, _, _, rfl, rfl, h⟩
  · replace h := h.2 c2
    refine z_aload_n (pc' := 22) (x := 0) dX8_trace_21 rfl rfl ?_
    refine z_getr (pc' := 25) (x := 27) dX8_trace_22 rfl fl_X8_60 rfl rfl rfl ?_
    refine z_getr (pc' := 28) (x := 29) dX8_trace_25 rfl fl_X8_312 rfl rfl rfl ?_
    refine z_iload_n (pc' := 29) (x := x1) dX8_trace_28 rfl rfl ?_
    obtain ⟨j3, ha3, hb3, h⟩ := h
    refine z_iald (pc' := 30) (x := (I1 29 j3)) (j := j3) dX8_trace_29 rfl rfl (by decide) ha3 hb3 rfl ?_
    refine z_goto (pc' := 34) dX8_trace_30 (by decide) ?_
    exact z_iret dX8_trace_34 rfl rfl ⟨Nat.le_refl _, Nat.le_refl _⟩ ⟨_, _, _, rfl, rfl, h⟩
set_option maxHeartbeats 4000000 in
set_option maxRecDepth 100000 in
theorem t_X8_keep {l : Launch} {G : zG} {d : Nat} {P : Int32 → zIM → zLM → Prop} {I : zIM} {L : zLM} {x1 : Int32} {x2 : Int32}  (h : ∃ (d1 : Nat) (P1 : Int32 → zIM → zLM → Prop), d1 + 1 ≤ d ∧ zCi l G d1 mX8_isWithin [.int x1, .int (5 : Int32)] I L P1 ∧ ∀ (y1 : Int32) (I1 : zIM) (L1 : zLM), P1 y1 I1 L1 → (((y1 = 0 → (P (-1 : Int32) I1 L1)) ∧ (¬ y1 = 0 → (((x2 < (-1 : Int32) → (P (-1 : Int32) I1 L1)) ∧ (¬ x2 < (-1 : Int32) → (((x2 < (I1 27 1) → (∃ j5 : Nat, x1 = nI j5 ∧ j5 < 6 ∧ (∃ (d6 : Nat) (P6 : zIM → zLM → Prop), d6 + 1 ≤ d ∧ zCv l G d6 mX5_holdBody [.ref (31 + 2 * j5), .int x2] I1 L1 P6 ∧ ∀ (I6 : zIM) (L6 : zLM), P6 I6 L6 → (P (1 : Int32) I6 L6)))) ∧ (¬ x2 < (I1 27 1) → (P (-1 : Int32) I1 L1))))))))))) : zCi l G d mX8_keep [.ref 0, .int x1, .int x2] I L P := by
  refine zCn.of (ls := [some (.ref 0), some (.int x1), some (.int x2)]) (by decide) (Nat.le_of_ble_eq_true rfl) rfl ?_
  refine z_iload_n (pc' := 1) (x := x1) dX8_keep_0 rfl rfl ?_
  refine z_iconst (pc' := 2) (v := 5) dX8_keep_1 rfl (by decide) ?_
  obtain ⟨d1, P1, hd1, hC1, h⟩ := h
  refine z_callS (pc' := 5) (M' := mX8_isWithin) (As := [.int x1, .int (5 : Int32)]) dX8_keep_2 rfl ml_X8_75 me_X8_isWithin hC1 rfl hd1 (Nat.le_of_ble_eq_true rfl) ⟨Nat.le_refl _, Nat.le_refl _⟩ rfl ?_
  rintro _ _ ⟨y1, I1, L1, rfl, rfl, hP1⟩
  replace h := h y1 I1 L1 hP1
  refine z_if_eq (pc' := 8) (tgt := 24) dX8_keep_5 rfl (by decide) (fun c2 => ?_) (fun c2 => ?_)
  · replace h := h.1 c2
    refine z_iconst (pc' := 25) (v := -1) dX8_keep_24 rfl (by decide) ?_
    exact z_iret dX8_keep_25 rfl rfl ⟨Nat.le_refl _, Nat.le_refl _⟩ ⟨_, _, _, rfl, rfl, h⟩
  · replace h := h.2 c2
    refine z_iload_n (pc' := 9) (x := x2) dX8_keep_8 rfl rfl ?_
    refine z_iconst (pc' := 10) (v := -1) dX8_keep_9 rfl (by decide) ?_
    refine z_icmp_lt (pc' := 13) (tgt := 24) dX8_keep_10 rfl (by decide) (fun c3 => ?_) (fun c3 => ?_)
    · replace h := h.1 c3
      refine z_iconst (pc' := 25) (v := -1) dX8_keep_24 rfl (by decide) ?_
      exact z_iret dX8_keep_25 rfl rfl ⟨Nat.le_refl _, Nat.le_refl _⟩ ⟨_, _, _, rfl, rfl, h⟩
    · replace h := h.2 c3
      refine z_iload_n (pc' := 14) (x := x2) dX8_keep_13 rfl rfl ?_
      refine z_aload_n (pc' := 15) (x := 0) dX8_keep_14 rfl rfl ?_
      refine z_getr (pc' := 18) (x := 27) dX8_keep_15 rfl fl_X8_60 rfl rfl rfl ?_
      refine z_geti (pc' := 21) (x := (I1 27 1)) dX8_keep_18 rfl fl_X8_315 rfl rfl rfl ?_
      refine z_icmp_lt (pc' := 24) (tgt := 26) dX8_keep_21 rfl (by decide) (fun c4 => ?_) (fun c4 => ?_)
      · replace h := h.1 c4
        refine z_aload_n (pc' := 27) (x := 0) dX8_keep_26 rfl rfl ?_
        refine z_getr (pc' := 30) (x := 30) dX8_keep_27 rfl fl_X8_66 rfl rfl rfl ?_
        refine z_iload_n (pc' := 31) (x := x1) dX8_keep_30 rfl rfl ?_
        obtain ⟨j5, ha5, hb5, h⟩ := h
        refine z_aald (pc' := 32) (x := (31 + 2 * j5)) (j := j5) dX8_keep_31 rfl rfl (by decide) ha5 hb5 (zR_sh hb5) ?_
        refine z_iload_n (pc' := 33) (x := x2) dX8_keep_32 rfl rfl ?_
        obtain ⟨d6, P6, hd6, hC6, h⟩ := h
        refine z_callV (pc' := 36) (M' := mX5_holdBody) (As := [.int x2]) dX8_keep_33 rfl ml_X8_316 me_X5_holdBody hC6 (zS_sh hb5) (by decide) rfl rfl hd6 (Nat.le_of_ble_eq_true rfl) ⟨Nat.le_refl _, Nat.le_refl _⟩ rfl ?_
        rintro _ _ ⟨I6, L6, rfl, rfl, hP6⟩
        replace h := h I6 L6 hP6
        refine z_iconst (pc' := 37) (v := 1) dX8_keep_36 rfl (by decide) ?_
        exact z_iret dX8_keep_37 rfl rfl ⟨Nat.le_refl _, Nat.le_refl _⟩ ⟨_, _, _, rfl, rfl, h⟩
      · replace h := h.2 c4
        refine z_iconst (pc' := 25) (v := -1) dX8_keep_24 rfl (by decide) ?_
        exact z_iret dX8_keep_25 rfl rfl ⟨Nat.le_refl _, Nat.le_refl _⟩ ⟨_, _, _, rfl, rfl, h⟩
set_option maxHeartbeats 4000000 in
set_option maxRecDepth 100000 in
theorem t_X8_row {l : Launch} {G : zG} {d : Nat} {P : Int32 → zIM → zLM → Prop} {I : zIM} {L : zLM} {x1 : Int32} {x2 : Int32} {x3 : Int32}  (h : ∃ (d1 : Nat) (P1 : Int32 → zIM → zLM → Prop), d1 + 1 ≤ d ∧ zCi l G d1 mX8_isWithin [.int x1, .int (5 : Int32)] I L P1 ∧ ∀ (y1 : Int32) (I1 : zIM) (L1 : zLM), P1 y1 I1 L1 → (((y1 = 0 → (P (-1 : Int32) I1 L1)) ∧ (¬ y1 = 0 → (∃ (d3 : Nat) (P3 : Int32 → zIM → zLM → Prop), d3 + 1 ≤ d ∧ zCi l G d3 mX8_isWithin [.int x2, .int (4 : Int32)] I1 L1 P3 ∧ ∀ (y3 : Int32) (I3 : zIM) (L3 : zLM), P3 y3 I3 L3 → (((y3 = 0 → (P (-1 : Int32) I3 L3)) ∧ (¬ y3 = 0 → (((x3 ≤ (60 : Int32) → (((0 ≤ x3 → (∃ j7 : Nat, x1 = nI j7 ∧ j7 < 6 ∧ (∃ (d8 : Nat) (P8 : zIM → zLM → Prop), d8 + 1 ≤ d ∧ zCv l G d8 mX5_holdRow [.ref (31 + 2 * j7), .int x2, .int x3] I3 L3 P8 ∧ ∀ (I8 : zIM) (L8 : zLM), P8 I8 L8 → (P (1 : Int32) I8 L8)))) ∧ (¬ 0 ≤ x3 → (P (-14 : Int32) I3 L3))))) ∧ (¬ x3 ≤ (60 : Int32) → (P (-1 : Int32) I3 L3)))))))))))) : zCi l G d mX8_row [.ref 0, .int x1, .int x2, .int x3] I L P := by
  refine zCn.of (ls := [some (.ref 0), some (.int x1), some (.int x2), some (.int x3)]) (by decide) (Nat.le_of_ble_eq_true rfl) rfl ?_
  refine z_iload_n (pc' := 1) (x := x1) dX8_row_0 rfl rfl ?_
  refine z_iconst (pc' := 2) (v := 5) dX8_row_1 rfl (by decide) ?_
  obtain ⟨d1, P1, hd1, hC1, h⟩ := h
  refine z_callS (pc' := 5) (M' := mX8_isWithin) (As := [.int x1, .int (5 : Int32)]) dX8_row_2 rfl ml_X8_75 me_X8_isWithin hC1 rfl hd1 (Nat.le_of_ble_eq_true rfl) ⟨Nat.le_refl _, Nat.le_refl _⟩ rfl ?_
  rintro _ _ ⟨y1, I1, L1, rfl, rfl, hP1⟩
  replace h := h y1 I1 L1 hP1
  refine z_if_eq (pc' := 8) (tgt := 22) dX8_row_5 rfl (by decide) (fun c2 => ?_) (fun c2 => ?_)
  · replace h := h.1 c2
    refine z_iconst (pc' := 23) (v := -1) dX8_row_22 rfl (by decide) ?_
    exact z_iret dX8_row_23 rfl rfl ⟨Nat.le_refl _, Nat.le_refl _⟩ ⟨_, _, _, rfl, rfl, h⟩
  · replace h := h.2 c2
    refine z_iload_n (pc' := 9) (x := x2) dX8_row_8 rfl rfl ?_
    refine z_iconst (pc' := 10) (v := 4) dX8_row_9 rfl (by decide) ?_
    obtain ⟨d3, P3, hd3, hC3, h⟩ := h
    refine z_callS (pc' := 13) (M' := mX8_isWithin) (As := [.int x2, .int (4 : Int32)]) dX8_row_10 rfl ml_X8_75 me_X8_isWithin hC3 rfl hd3 (Nat.le_of_ble_eq_true rfl) ⟨Nat.le_refl _, Nat.le_refl _⟩ rfl ?_
    rintro _ _ ⟨y3, I3, L3, rfl, rfl, hP3⟩
    replace h := h y3 I3 L3 hP3
    refine z_if_eq (pc' := 16) (tgt := 22) dX8_row_13 rfl (by decide) (fun c4 => ?_) (fun c4 => ?_)
    · replace h := h.1 c4
      refine z_iconst (pc' := 23) (v := -1) dX8_row_22 rfl (by decide) ?_
      exact z_iret dX8_row_23 rfl rfl ⟨Nat.le_refl _, Nat.le_refl _⟩ ⟨_, _, _, rfl, rfl, h⟩
    · replace h := h.2 c4
      refine z_iload_n (pc' := 17) (x := x3) dX8_row_16 rfl rfl ?_
      refine z_bipush (pc' := 19) (v := 60) dX8_row_17 rfl (by decide) ?_
      refine z_icmp_le (pc' := 22) (tgt := 24) dX8_row_19 rfl (by decide) (fun c5 => ?_) (fun c5 => ?_)
      · replace h := h.1 c5
        refine z_iload_n (pc' := 25) (x := x3) dX8_row_24 rfl rfl ?_
        refine z_if_ge (pc' := 28) (tgt := 31) dX8_row_25 rfl (by decide) (fun c6 => ?_) (fun c6 => ?_)
        · replace h := h.1 c6
          refine z_aload_n (pc' := 32) (x := 0) dX8_row_31 rfl rfl ?_
          refine z_getr (pc' := 35) (x := 30) dX8_row_32 rfl fl_X8_66 rfl rfl rfl ?_
          refine z_iload_n (pc' := 36) (x := x1) dX8_row_35 rfl rfl ?_
          obtain ⟨j7, ha7, hb7, h⟩ := h
          refine z_aald (pc' := 37) (x := (31 + 2 * j7)) (j := j7) dX8_row_36 rfl rfl (by decide) ha7 hb7 (zR_sh hb7) ?_
          refine z_iload_n (pc' := 38) (x := x2) dX8_row_37 rfl rfl ?_
          refine z_iload_n (pc' := 39) (x := x3) dX8_row_38 rfl rfl ?_
          obtain ⟨d8, P8, hd8, hC8, h⟩ := h
          refine z_callV (pc' := 42) (M' := mX5_holdRow) (As := [.int x2, .int x3]) dX8_row_39 rfl ml_X8_320 me_X5_holdRow hC8 (zS_sh hb7) (by decide) rfl rfl hd8 (Nat.le_of_ble_eq_true rfl) ⟨Nat.le_refl _, Nat.le_refl _⟩ rfl ?_
          rintro _ _ ⟨I8, L8, rfl, rfl, hP8⟩
          replace h := h I8 L8 hP8
          refine z_iconst (pc' := 43) (v := 1) dX8_row_42 rfl (by decide) ?_
          exact z_iret dX8_row_43 rfl rfl ⟨Nat.le_refl _, Nat.le_refl _⟩ ⟨_, _, _, rfl, rfl, h⟩
        · replace h := h.2 c6
          refine z_bipush (pc' := 30) (v := -14) dX8_row_28 rfl (by decide) ?_
          exact z_iret dX8_row_30 rfl rfl ⟨Nat.le_refl _, Nat.le_refl _⟩ ⟨_, _, _, rfl, rfl, h⟩
      · replace h := h.2 c5
        refine z_iconst (pc' := 23) (v := -1) dX8_row_22 rfl (by decide) ?_
        exact z_iret dX8_row_23 rfl rfl ⟨Nat.le_refl _, Nat.le_refl _⟩ ⟨_, _, _, rfl, rfl, h⟩
set_option maxHeartbeats 4000000 in
set_option maxRecDepth 100000 in
theorem t_X8_put {l : Launch} {G : zG} {d : Nat} {P : Int32 → zIM → zLM → Prop} {I : zIM} {L : zLM} {x1 : Int32} {x2 : Int32} {x3 : Int64}  (h : ∃ (d1 : Nat) (P1 : Int32 → zIM → zLM → Prop), d1 + 1 ≤ d ∧ zCi l G d1 mX8_refusal [.ref 0, .int x1, .int x2] I L P1 ∧ ∀ (y1 : Int32) (I1 : zIM) (L1 : zLM), P1 y1 I1 L1 → (((y1 = 0 → (∃ j3 : Nat, x1 = nI j3 ∧ j3 < 6 ∧ (∃ (d4 : Nat) (P4 : zIM → zLM → Prop), d4 + 1 ≤ d ∧ zCv l G d4 mX5_setElement [.ref (31 + 2 * j3), .int x2, .long x3] I1 L1 P4 ∧ ∀ (I4 : zIM) (L4 : zLM), P4 I4 L4 → (P (1 : Int32) I4 L4)))) ∧ (¬ y1 = 0 → (P y1 I1 L1))))) : zCi l G d mX8_put [.ref 0, .int x1, .int x2, .long x3] I L P := by
  refine zCn.of (ls := [some (.ref 0), some (.int x1), some (.int x2), some (.long x3), none, none]) (by decide) (Nat.le_of_ble_eq_true rfl) rfl ?_
  refine z_aload_n (pc' := 1) (x := 0) dX8_put_0 rfl rfl ?_
  refine z_iload_n (pc' := 2) (x := x1) dX8_put_1 rfl rfl ?_
  refine z_iload_n (pc' := 3) (x := x2) dX8_put_2 rfl rfl ?_
  obtain ⟨d1, P1, hd1, hC1, h⟩ := h
  refine z_callV (pc' := 6) (M' := mX8_refusal) (As := [.int x1, .int x2]) dX8_put_3 rfl ml_X8_324 me_X8_refusal hC1 rfl (by decide) rfl rfl hd1 (Nat.le_of_ble_eq_true rfl) ⟨Nat.le_refl _, Nat.le_refl _⟩ rfl ?_
  rintro _ _ ⟨y1, I1, L1, rfl, rfl, hP1⟩
  replace h := h y1 I1 L1 hP1
  refine z_istore (pc' := 8) (ls' := [some (.ref 0), some (.int x1), some (.int x2), some (.long x3), none, some (.int y1)]) dX8_put_6 rfl (by decide) rfl ?_
  refine z_iload (pc' := 10) (x := y1) dX8_put_8 rfl rfl ?_
  refine z_if_eq (pc' := 13) (tgt := 16) dX8_put_10 rfl (by decide) (fun c2 => ?_) (fun c2 => ?_)
  · replace h := h.1 c2
    refine z_aload_n (pc' := 17) (x := 0) dX8_put_16 rfl rfl ?_
    refine z_getr (pc' := 20) (x := 30) dX8_put_17 rfl fl_X8_66 rfl rfl rfl ?_
    refine z_iload_n (pc' := 21) (x := x1) dX8_put_20 rfl rfl ?_
    obtain ⟨j3, ha3, hb3, h⟩ := h
    refine z_aald (pc' := 22) (x := (31 + 2 * j3)) (j := j3) dX8_put_21 rfl rfl (by decide) ha3 hb3 (zR_sh hb3) ?_
    refine z_iload_n (pc' := 23) (x := x2) dX8_put_22 rfl rfl ?_
    refine z_lload_n (pc' := 24) (x := x3) dX8_put_23 rfl rfl ?_
    obtain ⟨d4, P4, hd4, hC4, h⟩ := h
    refine z_callV (pc' := 27) (M' := mX5_setElement) (As := [.int x2, .long x3]) dX8_put_24 rfl ml_X8_327 me_X5_setElement hC4 (zS_sh hb3) (by decide) rfl rfl hd4 (Nat.le_of_ble_eq_true rfl) ⟨Nat.le_refl _, Nat.le_refl _⟩ rfl ?_
    rintro _ _ ⟨I4, L4, rfl, rfl, hP4⟩
    replace h := h I4 L4 hP4
    refine z_iconst (pc' := 28) (v := 1) dX8_put_27 rfl (by decide) ?_
    exact z_iret dX8_put_28 rfl rfl ⟨Nat.le_refl _, Nat.le_refl _⟩ ⟨_, _, _, rfl, rfl, h⟩
  · replace h := h.2 c2
    refine z_iload (pc' := 15) (x := y1) dX8_put_13 rfl rfl ?_
    exact z_iret dX8_put_15 rfl rfl ⟨Nat.le_refl _, Nat.le_refl _⟩ ⟨_, _, _, rfl, rfl, h⟩
set_option maxHeartbeats 4000000 in
set_option maxRecDepth 100000 in
theorem t_X8_element {l : Launch} {G : zG} {d : Nat} {P : Int64 → zIM → zLM → Prop} {I : zIM} {L : zLM} {x1 : Int32} {x2 : Int32}  (h : ∃ (d1 : Nat) (P1 : Int32 → zIM → zLM → Prop), d1 + 1 ≤ d ∧ zCi l G d1 mX8_refusal [.ref 0, .int x1, .int x2] I L P1 ∧ ∀ (y1 : Int32) (I1 : zIM) (L1 : zLM), P1 y1 I1 L1 → (((y1 = 0 → (∃ j3 : Nat, x1 = nI j3 ∧ j3 < 6 ∧ (∃ j4 : Nat, x2 = nI j4 ∧ j4 < 60 ∧ (P (L1 (32 + 2 * j3) j4) I1 L1)))) ∧ (¬ y1 = 0 → (P (-9223372036854775808 : Int64) I1 L1))))) : zCl l G d mX8_element [.ref 0, .int x1, .int x2] I L P := by
  refine zCn.of (ls := [some (.ref 0), some (.int x1), some (.int x2)]) (by decide) (Nat.le_of_ble_eq_true rfl) rfl ?_
  refine z_aload_n (pc' := 1) (x := 0) dX8_element_0 rfl rfl ?_
  refine z_iload_n (pc' := 2) (x := x1) dX8_element_1 rfl rfl ?_
  refine z_iload_n (pc' := 3) (x := x2) dX8_element_2 rfl rfl ?_
  obtain ⟨d1, P1, hd1, hC1, h⟩ := h
  refine z_callV (pc' := 6) (M' := mX8_refusal) (As := [.int x1, .int x2]) dX8_element_3 rfl ml_X8_324 me_X8_refusal hC1 rfl (by decide) rfl rfl hd1 (Nat.le_of_ble_eq_true rfl) ⟨Nat.le_refl _, Nat.le_refl _⟩ rfl ?_
  rintro _ _ ⟨y1, I1, L1, rfl, rfl, hP1⟩
  replace h := h y1 I1 L1 hP1
  refine z_if_eq (pc' := 9) (tgt := 15) dX8_element_6 rfl (by decide) (fun c2 => ?_) (fun c2 => ?_)
  · replace h := h.1 c2
    refine z_aload_n (pc' := 16) (x := 0) dX8_element_15 rfl rfl ?_
    refine z_getr (pc' := 19) (x := 30) dX8_element_16 rfl fl_X8_66 rfl rfl rfl ?_
    refine z_iload_n (pc' := 20) (x := x1) dX8_element_19 rfl rfl ?_
    obtain ⟨j3, ha3, hb3, h⟩ := h
    refine z_aald (pc' := 21) (x := (31 + 2 * j3)) (j := j3) dX8_element_20 rfl rfl (by decide) ha3 hb3 (zR_sh hb3) ?_
    refine z_getr (pc' := 24) (x := (32 + 2 * j3)) dX8_element_21 rfl fl_X8_93 (zS_sh hb3) rfl (zR_el hb3) ?_
    refine z_iload_n (pc' := 25) (x := x2) dX8_element_24 rfl rfl ?_
    obtain ⟨j4, ha4, hb4, h⟩ := h
    refine z_lald (pc' := 26) (x := (L1 (32 + 2 * j3) j4)) (j := j4) dX8_element_25 rfl (zS_el hb3) (by decide) ha4 hb4 rfl ?_
    exact z_lret dX8_element_26 rfl ⟨Nat.le_refl _, Nat.le_refl _⟩ ⟨_, _, _, rfl, rfl, h⟩
  · replace h := h.2 c2
    refine z_ldc2 (pc' := 12) (v := -9223372036854775808) dX8_element_9 rfl kl_X8_150 ?_
    refine z_goto (pc' := 26) dX8_element_12 (by decide) ?_
    exact z_lret dX8_element_26 rfl ⟨Nat.le_refl _, Nat.le_refl _⟩ ⟨_, _, _, rfl, rfl, h⟩
set_option maxHeartbeats 4000000 in
set_option maxRecDepth 100000 in
theorem t_X8_shift {l : Launch} {G : zG} {d : Nat} {P : Int32 → zIM → zLM → Prop} {I : zIM} {L : zLM} {x1 : Int32} {x2 : Int32} {x3 : Int32} {x4 : Int32} {x5 : Int32}  (hdp : 1 ≤ d) (h : ∃ (d1 : Nat) (P1 : Int32 → zIM → zLM → Prop), d1 + 1 ≤ d ∧ zCi l G d1 mX8_isWithin [.int x1, .int (5 : Int32)] I L P1 ∧ ∀ (y1 : Int32) (I1 : zIM) (L1 : zLM), P1 y1 I1 L1 → (((y1 = 0 → (K_X8_shift_16 l G d P I1 L1)) ∧ (¬ y1 = 0 → (∃ (d3 : Nat) (P3 : Int32 → zIM → zLM → Prop), d3 + 1 ≤ d ∧ zCi l G d3 mX8_isWithin [.int x3, .int (5 : Int32)] I1 L1 P3 ∧ ∀ (y3 : Int32) (I3 : zIM) (L3 : zLM), P3 y3 I3 L3 → (((¬ y3 = 0 → (∃ j5 : Nat, x1 = nI j5 ∧ j5 < 6 ∧ (∃ j6 : Nat, x3 = nI j6 ∧ j6 < 6 ∧ ((((I3 (31 + 2 * j5) 0) = (-2 : Int32) → (K_X8_shift_54 l G d P I3 L3)) ∧ (¬ (I3 (31 + 2 * j5) 0) = (-2 : Int32) → (((¬ (I3 (31 + 2 * j6) 0) = (-2 : Int32) → (((¬ (I3 (31 + 2 * j5) 0) = (I3 (31 + 2 * j6) 0) → (K_X8_shift_79 l G d P I3 L3)) ∧ ((I3 (31 + 2 * j5) 0) = (I3 (31 + 2 * j6) 0) → (((¬ (I3 (31 + 2 * j5) 0) = (-1 : Int32) → (((x5 < 0 → (K_X8_shift_121 l G d P I3 L3)) ∧ (¬ x5 < 0 → (((x2 < 0 → (K_X8_shift_121 l G d P I3 L3)) ∧ (¬ x2 < 0 → (((x4 < 0 → (K_X8_shift_121 l G d P I3 L3)) ∧ (¬ x4 < 0 → (((((I3 (31 + 2 * j5) 2) - x5) < x2 → (K_X8_shift_121 l G d P I3 L3)) ∧ (¬ ((I3 (31 + 2 * j5) 2) - x5) < x2 → (((x4 ≤ ((I3 (31 + 2 * j6) 2) - x5) → (∃ j16 : Nat, x2 = nI j16 ∧ (∃ j17 : Nat, x4 = nI j17 ∧ (∃ j18 : Nat, x5 = nI j18 ∧ (j16 + j18 ≤ 60 ∧ j17 + j18 ≤ 60 ∧ (P x5 I3 (xcL L3 (32 + 2 * j5) (32 + 2 * j6) j16 j17 j18))))))) ∧ (¬ x4 ≤ ((I3 (31 + 2 * j6) 2) - x5) → (K_X8_shift_121 l G d P I3 L3))))))))))))))))) ∧ ((I3 (31 + 2 * j5) 0) = (-1 : Int32) → (K_X8_shift_79 l G d P I3 L3)))))))) ∧ ((I3 (31 + 2 * j6) 0) = (-2 : Int32) → (K_X8_shift_54 l G d P I3 L3)))))))))) ∧ (y3 = 0 → (K_X8_shift_16 l G d P I3 L3))))))))) : zCi l G d mX8_shift [.ref 0, .int x1, .int x2, .int x3, .int x4, .int x5] I L P := by
  refine zCn.of (ls := [some (.ref 0), some (.int x1), some (.int x2), some (.int x3), some (.int x4), some (.int x5), none, none]) (by decide) (Nat.le_of_ble_eq_true rfl) rfl ?_
  refine z_iload_n (pc' := 1) (x := x1) dX8_shift_0 rfl rfl ?_
  refine z_iconst (pc' := 2) (v := 5) dX8_shift_1 rfl (by decide) ?_
  obtain ⟨d1, P1, hd1, hC1, h⟩ := h
  refine z_callS (pc' := 5) (M' := mX8_isWithin) (As := [.int x1, .int (5 : Int32)]) dX8_shift_2 rfl ml_X8_75 me_X8_isWithin hC1 rfl hd1 (Nat.le_of_ble_eq_true rfl) ⟨Nat.le_refl _, Nat.le_refl _⟩ rfl ?_
  rintro _ _ ⟨y1, I1, L1, rfl, rfl, hP1⟩
  replace h := h y1 I1 L1 hP1
  refine z_if_eq (pc' := 8) (tgt := 16) dX8_shift_5 rfl (by decide) (fun c2 => ?_) (fun c2 => ?_)
  · replace h := h.1 c2
    refine z_sub (pc' := 0) [none, none, none, none, none, none, none, none] (zsub_n (zsub_n (zsub_n (zsub_n (zsub_n (zsub_n (zsub_n (zsub_n zsub_nil)))))))) ?_
    exact h
  · replace h := h.2 c2
    refine z_iload_n (pc' := 9) (x := x3) dX8_shift_8 rfl rfl ?_
    refine z_iconst (pc' := 10) (v := 5) dX8_shift_9 rfl (by decide) ?_
    obtain ⟨d3, P3, hd3, hC3, h⟩ := h
    refine z_callS (pc' := 13) (M' := mX8_isWithin) (As := [.int x3, .int (5 : Int32)]) dX8_shift_10 rfl ml_X8_75 me_X8_isWithin hC3 rfl hd3 (Nat.le_of_ble_eq_true rfl) ⟨Nat.le_refl _, Nat.le_refl _⟩ rfl ?_
    rintro _ _ ⟨y3, I3, L3, rfl, rfl, hP3⟩
    replace h := h y3 I3 L3 hP3
    refine z_if_ne (pc' := 16) (tgt := 18) dX8_shift_13 rfl (by decide) (fun c4 => ?_) (fun c4 => ?_)
    · replace h := h.1 c4
      refine z_aload_n (pc' := 19) (x := 0) dX8_shift_18 rfl rfl ?_
      refine z_getr (pc' := 22) (x := 30) dX8_shift_19 rfl fl_X8_66 rfl rfl rfl ?_
      refine z_iload_n (pc' := 23) (x := x1) dX8_shift_22 rfl rfl ?_
      obtain ⟨j5, ha5, hb5, h⟩ := h
      refine z_aald (pc' := 24) (x := (31 + 2 * j5)) (j := j5) dX8_shift_23 rfl rfl (by decide) ha5 hb5 (zR_sh hb5) ?_
      refine z_astore (pc' := 26) (ls' := [some (.ref 0), some (.int x1), some (.int x2), some (.int x3), some (.int x4), some (.int x5), some (.ref (31 + 2 * j5)), none]) dX8_shift_24 rfl (by decide) rfl ?_
      refine z_aload_n (pc' := 27) (x := 0) dX8_shift_26 rfl rfl ?_
      refine z_getr (pc' := 30) (x := 30) dX8_shift_27 rfl fl_X8_66 rfl rfl rfl ?_
      refine z_iload_n (pc' := 31) (x := x3) dX8_shift_30 rfl rfl ?_
      obtain ⟨j6, ha6, hb6, h⟩ := h
      refine z_aald (pc' := 32) (x := (31 + 2 * j6)) (j := j6) dX8_shift_31 rfl rfl (by decide) ha6 hb6 (zR_sh hb6) ?_
      refine z_astore (pc' := 34) (ls' := [some (.ref 0), some (.int x1), some (.int x2), some (.int x3), some (.int x4), some (.int x5), some (.ref (31 + 2 * j5)), some (.ref (31 + 2 * j6))]) dX8_shift_32 rfl (by decide) rfl ?_
      refine z_aload (pc' := 36) (x := (31 + 2 * j5)) dX8_shift_34 rfl rfl ?_
      refine z_geti (pc' := 39) (x := (I3 (31 + 2 * j5) 0)) dX8_shift_36 rfl fl_X8_87 (zS_sh hb5) rfl rfl ?_
      refine z_bipush (pc' := 41) (v := -2) dX8_shift_39 rfl (by decide) ?_
      refine z_icmp_eq (pc' := 44) (tgt := 54) dX8_shift_41 rfl (by decide) (fun c7 => ?_) (fun c7 => ?_)
      · replace h := h.1 c7
        refine z_sub (pc' := 0) [none, none, none, none, none, none, none, none] (zsub_n (zsub_n (zsub_n (zsub_n (zsub_n (zsub_n (zsub_n (zsub_n zsub_nil)))))))) ?_
        exact h
      · replace h := h.2 c7
        refine z_aload (pc' := 46) (x := (31 + 2 * j6)) dX8_shift_44 rfl rfl ?_
        refine z_geti (pc' := 49) (x := (I3 (31 + 2 * j6) 0)) dX8_shift_46 rfl fl_X8_87 (zS_sh hb6) rfl rfl ?_
        refine z_bipush (pc' := 51) (v := -2) dX8_shift_49 rfl (by decide) ?_
        refine z_icmp_ne (pc' := 54) (tgt := 57) dX8_shift_51 rfl (by decide) (fun c8 => ?_) (fun c8 => ?_)
        · replace h := h.1 c8
          refine z_aload (pc' := 59) (x := (31 + 2 * j5)) dX8_shift_57 rfl rfl ?_
          refine z_geti (pc' := 62) (x := (I3 (31 + 2 * j5) 0)) dX8_shift_59 rfl fl_X8_87 (zS_sh hb5) rfl rfl ?_
          refine z_aload (pc' := 64) (x := (31 + 2 * j6)) dX8_shift_62 rfl rfl ?_
          refine z_geti (pc' := 67) (x := (I3 (31 + 2 * j6) 0)) dX8_shift_64 rfl fl_X8_87 (zS_sh hb6) rfl rfl ?_
          refine z_icmp_ne (pc' := 70) (tgt := 79) dX8_shift_67 rfl (by decide) (fun c9 => ?_) (fun c9 => ?_)
          · replace h := h.1 c9
            refine z_sub (pc' := 0) [none, none, none, none, none, none, none, none] (zsub_n (zsub_n (zsub_n (zsub_n (zsub_n (zsub_n (zsub_n (zsub_n zsub_nil)))))))) ?_
            exact h
          · replace h := h.2 c9
            refine z_aload (pc' := 72) (x := (31 + 2 * j5)) dX8_shift_70 rfl rfl ?_
            refine z_geti (pc' := 75) (x := (I3 (31 + 2 * j5) 0)) dX8_shift_72 rfl fl_X8_87 (zS_sh hb5) rfl rfl ?_
            refine z_iconst (pc' := 76) (v := -1) dX8_shift_75 rfl (by decide) ?_
            refine z_icmp_ne (pc' := 79) (tgt := 82) dX8_shift_76 rfl (by decide) (fun c10 => ?_) (fun c10 => ?_)
            · replace h := h.1 c10
              refine z_iload (pc' := 84) (x := x5) dX8_shift_82 rfl rfl ?_
              refine z_if_lt (pc' := 87) (tgt := 121) dX8_shift_84 rfl (by decide) (fun c11 => ?_) (fun c11 => ?_)
              · replace h := h.1 c11
                refine z_sub (pc' := 0) [none, none, none, none, none, none, none, none] (zsub_n (zsub_n (zsub_n (zsub_n (zsub_n (zsub_n (zsub_n (zsub_n zsub_nil)))))))) ?_
                exact h
              · replace h := h.2 c11
                refine z_iload_n (pc' := 88) (x := x2) dX8_shift_87 rfl rfl ?_
                refine z_if_lt (pc' := 91) (tgt := 121) dX8_shift_88 rfl (by decide) (fun c12 => ?_) (fun c12 => ?_)
                · replace h := h.1 c12
                  refine z_sub (pc' := 0) [none, none, none, none, none, none, none, none] (zsub_n (zsub_n (zsub_n (zsub_n (zsub_n (zsub_n (zsub_n (zsub_n zsub_nil)))))))) ?_
                  exact h
                · replace h := h.2 c12
                  refine z_iload (pc' := 93) (x := x4) dX8_shift_91 rfl rfl ?_
                  refine z_if_lt (pc' := 96) (tgt := 121) dX8_shift_93 rfl (by decide) (fun c13 => ?_) (fun c13 => ?_)
                  · replace h := h.1 c13
                    refine z_sub (pc' := 0) [none, none, none, none, none, none, none, none] (zsub_n (zsub_n (zsub_n (zsub_n (zsub_n (zsub_n (zsub_n (zsub_n zsub_nil)))))))) ?_
                    exact h
                  · replace h := h.2 c13
                    refine z_iload_n (pc' := 97) (x := x2) dX8_shift_96 rfl rfl ?_
                    refine z_aload (pc' := 99) (x := (31 + 2 * j5)) dX8_shift_97 rfl rfl ?_
                    refine z_geti (pc' := 102) (x := (I3 (31 + 2 * j5) 2)) dX8_shift_99 rfl fl_X8_90 (zS_sh hb5) rfl rfl ?_
                    refine z_iload (pc' := 104) (x := x5) dX8_shift_102 rfl rfl ?_
                    refine z_isub (pc' := 105) dX8_shift_104 rfl ?_
                    refine z_icmp_gt (pc' := 108) (tgt := 121) dX8_shift_105 rfl (by decide) (fun c14 => ?_) (fun c14 => ?_)
                    · replace h := h.1 c14
                      refine z_sub (pc' := 0) [none, none, none, none, none, none, none, none] (zsub_n (zsub_n (zsub_n (zsub_n (zsub_n (zsub_n (zsub_n (zsub_n zsub_nil)))))))) ?_
                      exact h
                    · replace h := h.2 c14
                      refine z_iload (pc' := 110) (x := x4) dX8_shift_108 rfl rfl ?_
                      refine z_aload (pc' := 112) (x := (31 + 2 * j6)) dX8_shift_110 rfl rfl ?_
                      refine z_geti (pc' := 115) (x := (I3 (31 + 2 * j6) 2)) dX8_shift_112 rfl fl_X8_90 (zS_sh hb6) rfl rfl ?_
                      refine z_iload (pc' := 117) (x := x5) dX8_shift_115 rfl rfl ?_
                      refine z_isub (pc' := 118) dX8_shift_117 rfl ?_
                      refine z_icmp_le (pc' := 121) (tgt := 124) dX8_shift_118 rfl (by decide) (fun c15 => ?_) (fun c15 => ?_)
                      · replace h := h.1 c15
                        refine z_aload (pc' := 126) (x := (31 + 2 * j5)) dX8_shift_124 rfl rfl ?_
                        refine z_getr (pc' := 129) (x := (32 + 2 * j5)) dX8_shift_126 rfl fl_X8_93 (zS_sh hb5) rfl (zR_el hb5) ?_
                        refine z_iload_n (pc' := 130) (x := x2) dX8_shift_129 rfl rfl ?_
                        refine z_aload (pc' := 132) (x := (31 + 2 * j6)) dX8_shift_130 rfl rfl ?_
                        refine z_getr (pc' := 135) (x := (32 + 2 * j6)) dX8_shift_132 rfl fl_X8_93 (zS_sh hb6) rfl (zR_el hb6) ?_
                        refine z_iload (pc' := 137) (x := x4) dX8_shift_135 rfl rfl ?_
                        refine z_iload (pc' := 139) (x := x5) dX8_shift_137 rfl rfl ?_
                        obtain ⟨j16, ha16, h⟩ := h
                        obtain ⟨j17, ha17, h⟩ := h
                        obtain ⟨j18, ha18, h⟩ := h
                        obtain ⟨hx19, hy19, h⟩ := h
                        refine z_cpyl (pc' := 142) (sp := j16) (dp := j17) (n := j18) (w' := zs I3 (xcL L3 (32 + 2 * j5) (32 + 2 * j6) j16 j17 j18)) dX8_shift_139 rfl ml_X8_203 zcp_m hdp (Nat.le_of_ble_eq_true rfl) (zS_el hb5) (zS_el hb6) ha16 ha17 ha18 hx19 hy19 (by decide) rfl ?_
                        refine z_iload (pc' := 144) (x := x5) dX8_shift_142 rfl rfl ?_
                        exact z_iret dX8_shift_144 rfl rfl ⟨Nat.le_refl _, Nat.le_refl _⟩ ⟨_, _, _, rfl, rfl, h⟩
                      · replace h := h.2 c15
                        refine z_sub (pc' := 0) [none, none, none, none, none, none, none, none] (zsub_n (zsub_n (zsub_n (zsub_n (zsub_n (zsub_n (zsub_n (zsub_n zsub_nil)))))))) ?_
                        exact h
            · replace h := h.2 c10
              refine z_sub (pc' := 0) [none, none, none, none, none, none, none, none] (zsub_n (zsub_n (zsub_n (zsub_n (zsub_n (zsub_n (zsub_n (zsub_n zsub_nil)))))))) ?_
              exact h
        · replace h := h.2 c8
          refine z_sub (pc' := 0) [none, none, none, none, none, none, none, none] (zsub_n (zsub_n (zsub_n (zsub_n (zsub_n (zsub_n (zsub_n (zsub_n zsub_nil)))))))) ?_
          exact h
    · replace h := h.2 c4
      refine z_sub (pc' := 0) [none, none, none, none, none, none, none, none] (zsub_n (zsub_n (zsub_n (zsub_n (zsub_n (zsub_n (zsub_n (zsub_n zsub_nil)))))))) ?_
      exact h
set_option maxHeartbeats 4000000 in
set_option maxRecDepth 100000 in
theorem t_X8_shift_16 {l : Launch} {G : zG} {d : Nat} {P : Int32 → zIM → zLM → Prop} {I : zIM} {L : zLM}    (h : P (-1 : Int32) I L) : K_X8_shift_16 l G d P I L   := by
  refine z_iconst (pc' := 17) (v := -1) dX8_shift_16 rfl (by decide) ?_
  exact z_iret dX8_shift_17 rfl rfl ⟨Nat.le_refl _, Nat.le_refl _⟩ ⟨_, _, _, rfl, rfl, h⟩
set_option maxHeartbeats 4000000 in
set_option maxRecDepth 100000 in
theorem t_X8_shift_54 {l : Launch} {G : zG} {d : Nat} {P : Int32 → zIM → zLM → Prop} {I : zIM} {L : zLM}    (h : P (-11 : Int32) I L) : K_X8_shift_54 l G d P I L   := by
  refine z_bipush (pc' := 56) (v := -11) dX8_shift_54 rfl (by decide) ?_
  exact z_iret dX8_shift_56 rfl rfl ⟨Nat.le_refl _, Nat.le_refl _⟩ ⟨_, _, _, rfl, rfl, h⟩
set_option maxHeartbeats 4000000 in
set_option maxRecDepth 100000 in
theorem t_X8_shift_79 {l : Launch} {G : zG} {d : Nat} {P : Int32 → zIM → zLM → Prop} {I : zIM} {L : zLM}    (h : P (-12 : Int32) I L) : K_X8_shift_79 l G d P I L   := by
  refine z_bipush (pc' := 81) (v := -12) dX8_shift_79 rfl (by decide) ?_
  exact z_iret dX8_shift_81 rfl rfl ⟨Nat.le_refl _, Nat.le_refl _⟩ ⟨_, _, _, rfl, rfl, h⟩
set_option maxHeartbeats 4000000 in
set_option maxRecDepth 100000 in
theorem t_X8_shift_121 {l : Launch} {G : zG} {d : Nat} {P : Int32 → zIM → zLM → Prop} {I : zIM} {L : zLM}    (h : P (-13 : Int32) I L) : K_X8_shift_121 l G d P I L   := by
  refine z_bipush (pc' := 123) (v := -13) dX8_shift_121 rfl (by decide) ?_
  exact z_iret dX8_shift_123 rfl rfl ⟨Nat.le_refl _, Nat.le_refl _⟩ ⟨_, _, _, rfl, rfl, h⟩
set_option maxHeartbeats 4000000 in
set_option maxRecDepth 100000 in
theorem t_X8_taken {l : Launch} {G : zG} {d : Nat} {P : Int32 → zIM → zLM → Prop} {I : zIM} {L : zLM} {x1 : Int32} {x2 : Int32}  (h : ∃ (d1 : Nat) (P1 : Int32 → zIM → zLM → Prop), d1 + 1 ≤ d ∧ zCi l G d1 mX8_isWithin [.int x1, .int (5 : Int32)] I L P1 ∧ ∀ (y1 : Int32) (I1 : zIM) (L1 : zLM), P1 y1 I1 L1 → (((y1 = 0 → (P (-1 : Int32) I1 L1)) ∧ (¬ y1 = 0 → (∃ (d3 : Nat) (P3 : Int32 → zIM → zLM → Prop), d3 + 1 ≤ d ∧ zCi l G d3 mX8_isWithin [.int x2, .int (7 : Int32)] I1 L1 P3 ∧ ∀ (y3 : Int32) (I3 : zIM) (L3 : zLM), P3 y3 I3 L3 → (((¬ y3 = 0 → (∃ j5 : Nat, x1 = nI j5 ∧ j5 < 6 ∧ (((¬ (I3 (31 + 2 * j5) 0) = (-2 : Int32) → ((((I3 (31 + 2 * j5) 0) = (-1 : Int32) → (∃ j8 : Nat, (I3 (31 + 2 * j5) 1) = nI j8 ∧ j8 < 50 ∧ (∃ (d9 : Nat) (P9 : Int32 → zIM → zLM → Prop), d9 + 1 ≤ d ∧ zCi l G d9 mX6_isUnder [.int (I3 28 j8), .int x2] I3 L3 P9 ∧ ∀ (y9 : Int32) (I9 : zIM) (L9 : zLM), P9 y9 I9 L9 → (((y9 = 0 → (P (-12 : Int32) I9 L9)) ∧ (¬ y9 = 0 → (P (I3 28 j8) I9 L9))))))) ∧ (¬ (I3 (31 + 2 * j5) 0) = (-1 : Int32) → (P (-12 : Int32) I3 L3))))) ∧ ((I3 (31 + 2 * j5) 0) = (-2 : Int32) → (P (-11 : Int32) I3 L3)))))) ∧ (y3 = 0 → (P (-1 : Int32) I3 L3))))))))) : zCi l G d mX8_taken [.ref 0, .int x1, .int x2] I L P := by
  refine zCn.of (ls := [some (.ref 0), some (.int x1), some (.int x2), none, none]) (by decide) (Nat.le_of_ble_eq_true rfl) rfl ?_
  refine z_iload_n (pc' := 1) (x := x1) dX8_taken_0 rfl rfl ?_
  refine z_iconst (pc' := 2) (v := 5) dX8_taken_1 rfl (by decide) ?_
  obtain ⟨d1, P1, hd1, hC1, h⟩ := h
  refine z_callS (pc' := 5) (M' := mX8_isWithin) (As := [.int x1, .int (5 : Int32)]) dX8_taken_2 rfl ml_X8_75 me_X8_isWithin hC1 rfl hd1 (Nat.le_of_ble_eq_true rfl) ⟨Nat.le_refl _, Nat.le_refl _⟩ rfl ?_
  rintro _ _ ⟨y1, I1, L1, rfl, rfl, hP1⟩
  replace h := h y1 I1 L1 hP1
  refine z_if_eq (pc' := 8) (tgt := 17) dX8_taken_5 rfl (by decide) (fun c2 => ?_) (fun c2 => ?_)
  · replace h := h.1 c2
    refine z_iconst (pc' := 18) (v := -1) dX8_taken_17 rfl (by decide) ?_
    exact z_iret dX8_taken_18 rfl rfl ⟨Nat.le_refl _, Nat.le_refl _⟩ ⟨_, _, _, rfl, rfl, h⟩
  · replace h := h.2 c2
    refine z_iload_n (pc' := 9) (x := x2) dX8_taken_8 rfl rfl ?_
    refine z_bipush (pc' := 11) (v := 7) dX8_taken_9 rfl (by decide) ?_
    obtain ⟨d3, P3, hd3, hC3, h⟩ := h
    refine z_callS (pc' := 14) (M' := mX8_isWithin) (As := [.int x2, .int (7 : Int32)]) dX8_taken_11 rfl ml_X8_75 me_X8_isWithin hC3 rfl hd3 (Nat.le_of_ble_eq_true rfl) ⟨Nat.le_refl _, Nat.le_refl _⟩ rfl ?_
    rintro _ _ ⟨y3, I3, L3, rfl, rfl, hP3⟩
    replace h := h y3 I3 L3 hP3
    refine z_if_ne (pc' := 17) (tgt := 19) dX8_taken_14 rfl (by decide) (fun c4 => ?_) (fun c4 => ?_)
    · replace h := h.1 c4
      refine z_aload_n (pc' := 20) (x := 0) dX8_taken_19 rfl rfl ?_
      refine z_getr (pc' := 23) (x := 30) dX8_taken_20 rfl fl_X8_66 rfl rfl rfl ?_
      refine z_iload_n (pc' := 24) (x := x1) dX8_taken_23 rfl rfl ?_
      obtain ⟨j5, ha5, hb5, h⟩ := h
      refine z_aald (pc' := 25) (x := (31 + 2 * j5)) (j := j5) dX8_taken_24 rfl rfl (by decide) ha5 hb5 (zR_sh hb5) ?_
      refine z_astore_n (pc' := 26) (ls' := [some (.ref 0), some (.int x1), some (.int x2), some (.ref (31 + 2 * j5)), none]) dX8_taken_25 rfl (by decide) rfl ?_
      refine z_aload_n (pc' := 27) (x := (31 + 2 * j5)) dX8_taken_26 rfl rfl ?_
      refine z_geti (pc' := 30) (x := (I3 (31 + 2 * j5) 0)) dX8_taken_27 rfl fl_X8_87 (zS_sh hb5) rfl rfl ?_
      refine z_bipush (pc' := 32) (v := -2) dX8_taken_30 rfl (by decide) ?_
      refine z_icmp_ne (pc' := 35) (tgt := 38) dX8_taken_32 rfl (by decide) (fun c6 => ?_) (fun c6 => ?_)
      · replace h := h.1 c6
        refine z_aload_n (pc' := 39) (x := (31 + 2 * j5)) dX8_taken_38 rfl rfl ?_
        refine z_geti (pc' := 42) (x := (I3 (31 + 2 * j5) 0)) dX8_taken_39 rfl fl_X8_87 (zS_sh hb5) rfl rfl ?_
        refine z_iconst (pc' := 43) (v := -1) dX8_taken_42 rfl (by decide) ?_
        refine z_icmp_eq (pc' := 46) (tgt := 49) dX8_taken_43 rfl (by decide) (fun c7 => ?_) (fun c7 => ?_)
        · replace h := h.1 c7
          refine z_aload_n (pc' := 50) (x := 0) dX8_taken_49 rfl rfl ?_
          refine z_getr (pc' := 53) (x := 27) dX8_taken_50 rfl fl_X8_60 rfl rfl rfl ?_
          refine z_getr (pc' := 56) (x := 28) dX8_taken_53 rfl fl_X8_331 rfl rfl rfl ?_
          refine z_aload_n (pc' := 57) (x := (31 + 2 * j5)) dX8_taken_56 rfl rfl ?_
          refine z_geti (pc' := 60) (x := (I3 (31 + 2 * j5) 1)) dX8_taken_57 rfl fl_X8_334 (zS_sh hb5) rfl rfl ?_
          obtain ⟨j8, ha8, hb8, h⟩ := h
          refine z_iald (pc' := 61) (x := (I3 28 j8)) (j := j8) dX8_taken_60 rfl rfl (by decide) ha8 hb8 rfl ?_
          refine z_istore (pc' := 63) (ls' := [some (.ref 0), some (.int x1), some (.int x2), some (.ref (31 + 2 * j5)), some (.int (I3 28 j8))]) dX8_taken_61 rfl (by decide) rfl ?_
          refine z_iload (pc' := 65) (x := (I3 28 j8)) dX8_taken_63 rfl rfl ?_
          refine z_iload_n (pc' := 66) (x := x2) dX8_taken_65 rfl rfl ?_
          obtain ⟨d9, P9, hd9, hC9, h⟩ := h
          refine z_callS (pc' := 69) (M' := mX6_isUnder) (As := [.int (I3 28 j8), .int x2]) dX8_taken_66 rfl ml_X8_337 me_X6_isUnder hC9 rfl hd9 (Nat.le_of_ble_eq_true rfl) ⟨Nat.le_refl _, Nat.le_refl _⟩ rfl ?_
          rintro _ _ ⟨y9, I9, L9, rfl, rfl, hP9⟩
          replace h := h y9 I9 L9 hP9
          refine z_if_eq (pc' := 72) (tgt := 77) dX8_taken_69 rfl (by decide) (fun c10 => ?_) (fun c10 => ?_)
          · replace h := h.1 c10
            refine z_bipush (pc' := 79) (v := -12) dX8_taken_77 rfl (by decide) ?_
            exact z_iret dX8_taken_79 rfl rfl ⟨Nat.le_refl _, Nat.le_refl _⟩ ⟨_, _, _, rfl, rfl, h⟩
          · replace h := h.2 c10
            refine z_iload (pc' := 74) (x := (I3 28 j8)) dX8_taken_72 rfl rfl ?_
            refine z_goto (pc' := 79) dX8_taken_74 (by decide) ?_
            exact z_iret dX8_taken_79 rfl rfl ⟨Nat.le_refl _, Nat.le_refl _⟩ ⟨_, _, _, rfl, rfl, h⟩
        · replace h := h.2 c7
          refine z_bipush (pc' := 48) (v := -12) dX8_taken_46 rfl (by decide) ?_
          exact z_iret dX8_taken_48 rfl rfl ⟨Nat.le_refl _, Nat.le_refl _⟩ ⟨_, _, _, rfl, rfl, h⟩
      · replace h := h.2 c6
        refine z_bipush (pc' := 37) (v := -11) dX8_taken_35 rfl (by decide) ?_
        exact z_iret dX8_taken_37 rfl rfl ⟨Nat.le_refl _, Nat.le_refl _⟩ ⟨_, _, _, rfl, rfl, h⟩
    · replace h := h.2 c4
      refine z_iconst (pc' := 18) (v := -1) dX8_taken_17 rfl (by decide) ?_
      exact z_iret dX8_taken_18 rfl rfl ⟨Nat.le_refl _, Nat.le_refl _⟩ ⟨_, _, _, rfl, rfl, h⟩
set_option maxHeartbeats 4000000 in
set_option maxRecDepth 100000 in
theorem t_X8_count {l : Launch} {G : zG} {d : Nat} {P : Int32 → zIM → zLM → Prop} {I : zIM} {L : zLM} {x1 : Int32}  (h : ((x1 = (0 : Int32) → (P (I 1 6) I L)) ∧ (x1 = (1 : Int32) → (P (I 20 0) I L)) ∧ (x1 = (2 : Int32) → (P (I 20 1) I L)) ∧ (x1 = (3 : Int32) → (P (I 9 0) I L)) ∧ (x1 = (4 : Int32) → (P (I 22 4) I L)) ∧ (x1 = (5 : Int32) → (P (I 27 1) I L)) ∧ (x1 = (6 : Int32) → (P (I 27 3) I L)) ∧ (¬ x1 = (0 : Int32) → ¬ x1 = (1 : Int32) → ¬ x1 = (2 : Int32) → ¬ x1 = (3 : Int32) → ¬ x1 = (4 : Int32) → ¬ x1 = (5 : Int32) → ¬ x1 = (6 : Int32) → (P (-1 : Int32) I L)))) : zCi l G d mX8_count [.ref 0, .int x1] I L P := by
  refine zCn.of (ls := [some (.ref 0), some (.int x1)]) (by decide) (Nat.le_of_ble_eq_true rfl) rfl ?_
  refine z_iload_n (pc' := 1) (x := x1) dX8_count_0 rfl rfl ?_
  by_cases c1_0 : x1 = (0 : Int32)
  · replace h := h.1 c1_0
    refine z_tableIn (pc' := 44) dX8_count_1 (by rw [c1_0]; decide) (by rw [c1_0]; decide) (by rw [c1_0]; rfl) (by decide) ?_
    refine z_aload_n (pc' := 45) (x := 0) dX8_count_44 rfl rfl ?_
    refine z_getr (pc' := 48) (x := 1) dX8_count_45 rfl fl_X8_10 rfl rfl rfl ?_
    refine z_geti (pc' := 51) (x := (I 1 6)) dX8_count_48 rfl fl_X8_79 rfl rfl rfl ?_
    exact z_iret dX8_count_51 rfl rfl ⟨Nat.le_refl _, Nat.le_refl _⟩ ⟨_, _, _, rfl, rfl, h⟩
  by_cases c1_1 : x1 = (1 : Int32)
  · replace h := h.2.1 c1_1
    refine z_tableIn (pc' := 52) dX8_count_1 (by rw [c1_1]; decide) (by rw [c1_1]; decide) (by rw [c1_1]; rfl) (by decide) ?_
    refine z_aload_n (pc' := 53) (x := 0) dX8_count_52 rfl rfl ?_
    refine z_getr (pc' := 56) (x := 20) dX8_count_53 rfl fl_X8_37 rfl rfl rfl ?_
    refine z_geti (pc' := 59) (x := (I 20 0)) dX8_count_56 rfl fl_X8_132 rfl rfl rfl ?_
    exact z_iret dX8_count_59 rfl rfl ⟨Nat.le_refl _, Nat.le_refl _⟩ ⟨_, _, _, rfl, rfl, h⟩
  by_cases c1_2 : x1 = (2 : Int32)
  · replace h := h.2.2.1 c1_2
    refine z_tableIn (pc' := 60) dX8_count_1 (by rw [c1_2]; decide) (by rw [c1_2]; decide) (by rw [c1_2]; rfl) (by decide) ?_
    refine z_aload_n (pc' := 61) (x := 0) dX8_count_60 rfl rfl ?_
    refine z_getr (pc' := 64) (x := 20) dX8_count_61 rfl fl_X8_37 rfl rfl rfl ?_
    refine z_geti (pc' := 67) (x := (I 20 1)) dX8_count_64 rfl fl_X8_255 rfl rfl rfl ?_
    exact z_iret dX8_count_67 rfl rfl ⟨Nat.le_refl _, Nat.le_refl _⟩ ⟨_, _, _, rfl, rfl, h⟩
  by_cases c1_3 : x1 = (3 : Int32)
  · replace h := h.2.2.2.1 c1_3
    refine z_tableIn (pc' := 68) dX8_count_1 (by rw [c1_3]; decide) (by rw [c1_3]; decide) (by rw [c1_3]; rfl) (by decide) ?_
    refine z_aload_n (pc' := 69) (x := 0) dX8_count_68 rfl rfl ?_
    refine z_getr (pc' := 72) (x := 9) dX8_count_69 rfl fl_X8_19 rfl rfl rfl ?_
    refine z_geti (pc' := 75) (x := (I 9 0)) dX8_count_72 rfl fl_X8_340 rfl rfl rfl ?_
    exact z_iret dX8_count_75 rfl rfl ⟨Nat.le_refl _, Nat.le_refl _⟩ ⟨_, _, _, rfl, rfl, h⟩
  by_cases c1_4 : x1 = (4 : Int32)
  · replace h := h.2.2.2.2.1 c1_4
    refine z_tableIn (pc' := 76) dX8_count_1 (by rw [c1_4]; decide) (by rw [c1_4]; decide) (by rw [c1_4]; rfl) (by decide) ?_
    refine z_aload_n (pc' := 77) (x := 0) dX8_count_76 rfl rfl ?_
    refine z_getr (pc' := 80) (x := 22) dX8_count_77 rfl fl_X8_53 rfl rfl rfl ?_
    refine z_geti (pc' := 83) (x := (I 22 4)) dX8_count_80 rfl fl_X8_287 rfl rfl rfl ?_
    exact z_iret dX8_count_83 rfl rfl ⟨Nat.le_refl _, Nat.le_refl _⟩ ⟨_, _, _, rfl, rfl, h⟩
  by_cases c1_5 : x1 = (5 : Int32)
  · replace h := h.2.2.2.2.2.1 c1_5
    refine z_tableIn (pc' := 84) dX8_count_1 (by rw [c1_5]; decide) (by rw [c1_5]; decide) (by rw [c1_5]; rfl) (by decide) ?_
    refine z_aload_n (pc' := 85) (x := 0) dX8_count_84 rfl rfl ?_
    refine z_getr (pc' := 88) (x := 27) dX8_count_85 rfl fl_X8_60 rfl rfl rfl ?_
    refine z_geti (pc' := 91) (x := (I 27 1)) dX8_count_88 rfl fl_X8_315 rfl rfl rfl ?_
    exact z_iret dX8_count_91 rfl rfl ⟨Nat.le_refl _, Nat.le_refl _⟩ ⟨_, _, _, rfl, rfl, h⟩
  by_cases c1_6 : x1 = (6 : Int32)
  · replace h := h.2.2.2.2.2.2.1 c1_6
    refine z_tableIn (pc' := 92) dX8_count_1 (by rw [c1_6]; decide) (by rw [c1_6]; decide) (by rw [c1_6]; rfl) (by decide) ?_
    refine z_aload_n (pc' := 93) (x := 0) dX8_count_92 rfl rfl ?_
    refine z_getr (pc' := 96) (x := 27) dX8_count_93 rfl fl_X8_60 rfl rfl rfl ?_
    refine z_geti (pc' := 99) (x := (I 27 3)) dX8_count_96 rfl fl_X8_304 rfl rfl rfl ?_
    exact z_iret dX8_count_99 rfl rfl ⟨Nat.le_refl _, Nat.le_refl _⟩ ⟨_, _, _, rfl, rfl, h⟩
  replace h := h.2.2.2.2.2.2.2 c1_0 c1_1 c1_2 c1_3 c1_4 c1_5 c1_6
  have hne1 : x1.toInt < 0 ∨ 6 < x1.toInt := by
    have nc1_0 := lv_neT c1_0 (a := 0) (by decide); have nc1_1 := lv_neT c1_1 (a := 1) (by decide); have nc1_2 := lv_neT c1_2 (a := 2) (by decide); have nc1_3 := lv_neT c1_3 (a := 3) (by decide); have nc1_4 := lv_neT c1_4 (a := 4) (by decide); have nc1_5 := lv_neT c1_5 (a := 5) (by decide); have nc1_6 := lv_neT c1_6 (a := 6) (by decide); omega
  refine z_tableOut (pc' := 100) dX8_count_1 hne1 (by decide) ?_
  refine z_iconst (pc' := 101) (v := -1) dX8_count_100 rfl (by decide) ?_
  exact z_iret dX8_count_101 rfl rfl ⟨Nat.le_refl _, Nat.le_refl _⟩ ⟨_, _, _, rfl, rfl, h⟩
set_option maxHeartbeats 4000000 in
set_option maxRecDepth 100000 in
theorem t_X8_isWithin {l : Launch} {G : zG} {d : Nat} {P : Int32 → zIM → zLM → Prop} {I : zIM} {L : zLM} {x0 : Int32} {x1 : Int32}  (h : ((x0 < 0 → (P (0 : Int32) I L)) ∧ (¬ x0 < 0 → (((x1 < x0 → (P (0 : Int32) I L)) ∧ (¬ x1 < x0 → (P (1 : Int32) I L))))))) : zCi l G d mX8_isWithin [.int x0, .int x1] I L P := by
  refine zCn.of (ls := [some (.int x0), some (.int x1)]) (by decide) (Nat.le_of_ble_eq_true rfl) rfl ?_
  refine z_iload_n (pc' := 1) (x := x0) dX8_isWithin_0 rfl rfl ?_
  refine z_if_lt (pc' := 4) (tgt := 13) dX8_isWithin_1 rfl (by decide) (fun c1 => ?_) (fun c1 => ?_)
  · replace h := h.1 c1
    refine z_iconst (pc' := 14) (v := 0) dX8_isWithin_13 rfl (by decide) ?_
    exact z_iret dX8_isWithin_14 rfl rfl ⟨Nat.le_refl _, Nat.le_refl _⟩ ⟨_, _, _, rfl, rfl, h⟩
  · replace h := h.2 c1
    refine z_iload_n (pc' := 5) (x := x0) dX8_isWithin_4 rfl rfl ?_
    refine z_iload_n (pc' := 6) (x := x1) dX8_isWithin_5 rfl rfl ?_
    refine z_icmp_gt (pc' := 9) (tgt := 13) dX8_isWithin_6 rfl (by decide) (fun c2 => ?_) (fun c2 => ?_)
    · replace h := h.1 c2
      refine z_iconst (pc' := 14) (v := 0) dX8_isWithin_13 rfl (by decide) ?_
      exact z_iret dX8_isWithin_14 rfl rfl ⟨Nat.le_refl _, Nat.le_refl _⟩ ⟨_, _, _, rfl, rfl, h⟩
    · replace h := h.2 c2
      refine z_iconst (pc' := 10) (v := 1) dX8_isWithin_9 rfl (by decide) ?_
      refine z_goto (pc' := 14) dX8_isWithin_10 (by decide) ?_
      exact z_iret dX8_isWithin_14 rfl rfl ⟨Nat.le_refl _, Nat.le_refl _⟩ ⟨_, _, _, rfl, rfl, h⟩
set_option maxHeartbeats 4000000 in
set_option maxRecDepth 100000 in
theorem t_X8_greatest {l : Launch} {G : zG} {d : Nat} {P : Int32 → zIM → zLM → Prop} {I : zIM} {L : zLM} {x0 : Int32}  (h : ((¬ x0 = 0 → (((¬ x0 = (1 : Int32) → (P (3 : Int32) I L)) ∧ (x0 = (1 : Int32) → (P (5 : Int32) I L))))) ∧ (x0 = 0 → (P (12 : Int32) I L)))) : zCi l G d mX8_greatest [.int x0] I L P := by
  refine zCn.of (ls := [some (.int x0)]) (by decide) (Nat.le_of_ble_eq_true rfl) rfl ?_
  refine z_iload_n (pc' := 1) (x := x0) dX8_greatest_0 rfl rfl ?_
  refine z_if_ne (pc' := 4) (tgt := 9) dX8_greatest_1 rfl (by decide) (fun c1 => ?_) (fun c1 => ?_)
  · replace h := h.1 c1
    refine z_iload_n (pc' := 10) (x := x0) dX8_greatest_9 rfl rfl ?_
    refine z_iconst (pc' := 11) (v := 1) dX8_greatest_10 rfl (by decide) ?_
    refine z_icmp_ne (pc' := 14) (tgt := 18) dX8_greatest_11 rfl (by decide) (fun c2 => ?_) (fun c2 => ?_)
    · replace h := h.1 c2
      refine z_iconst (pc' := 19) (v := 3) dX8_greatest_18 rfl (by decide) ?_
      exact z_iret dX8_greatest_19 rfl rfl ⟨Nat.le_refl _, Nat.le_refl _⟩ ⟨_, _, _, rfl, rfl, h⟩
    · replace h := h.2 c2
      refine z_iconst (pc' := 15) (v := 5) dX8_greatest_14 rfl (by decide) ?_
      refine z_goto (pc' := 19) dX8_greatest_15 (by decide) ?_
      exact z_iret dX8_greatest_19 rfl rfl ⟨Nat.le_refl _, Nat.le_refl _⟩ ⟨_, _, _, rfl, rfl, h⟩
  · replace h := h.2 c1
    refine z_bipush (pc' := 6) (v := 12) dX8_greatest_4 rfl (by decide) ?_
    refine z_goto (pc' := 19) dX8_greatest_6 (by decide) ?_
    exact z_iret dX8_greatest_19 rfl rfl ⟨Nat.le_refl _, Nat.le_refl _⟩ ⟨_, _, _, rfl, rfl, h⟩
set_option maxHeartbeats 4000000 in
set_option maxRecDepth 100000 in
theorem t_X8_power {l : Launch} {G : zG} {d : Nat} {P : Int64 → zIM → zLM → Prop} {I : zIM} {L : zLM} {x0 : Int32} {x1 : Int32}  (h : K_X8_power_5 l G d P I L x0 x1 (1 : Int64) (0 : Int32)) : zCl l G d mX8_power [.int x0, .int x1] I L P := by
  refine zCn.of (ls := [some (.int x0), some (.int x1), none, none, none]) (by decide) (Nat.le_of_ble_eq_true rfl) rfl ?_
  refine z_lconst (pc' := 1) (v := 1) dX8_power_0 rfl (by decide) ?_
  refine z_lstore_n (pc' := 2) (ls' := [some (.int x0), some (.int x1), some (.long (1 : Int64)), none, none]) dX8_power_1 rfl (by decide) rfl ?_
  refine z_iconst (pc' := 3) (v := 0) dX8_power_2 rfl (by decide) ?_
  refine z_istore (pc' := 5) (ls' := [some (.int x0), some (.int x1), some (.long (1 : Int64)), none, some (.int (0 : Int32))]) dX8_power_3 rfl (by decide) rfl ?_
  exact h
set_option maxHeartbeats 4000000 in
set_option maxRecDepth 100000 in
theorem t_X8_power_5 {l : Launch} {G : zG} {d : Nat} {P : Int64 → zIM → zLM → Prop} {I : zIM} {L : zLM} {x0 : Int32} {x1 : Int32} {x2 : Int64} {x4 : Int32}   (h : ((x1 ≤ x4 → (P x2 I L)) ∧ (¬ x1 ≤ x4 → (K_X8_power_5 l G d P I L x0 x1 (x2 * (x0.toInt64)) (x4 + (1 : Int32)))))) : K_X8_power_5 l G d P I L x0 x1 x2 x4  := by
  refine z_iload (pc' := 7) (x := x4) dX8_power_5 rfl rfl ?_
  refine z_iload_n (pc' := 8) (x := x1) dX8_power_7 rfl rfl ?_
  refine z_icmp_ge (pc' := 11) (tgt := 22) dX8_power_8 rfl (by decide) (fun c1 => ?_) (fun c1 => ?_)
  · replace h := h.1 c1
    refine z_lload_n (pc' := 23) (x := x2) dX8_power_22 rfl rfl ?_
    exact z_lret dX8_power_23 rfl ⟨Nat.le_refl _, Nat.le_refl _⟩ ⟨_, _, _, rfl, rfl, h⟩
  · replace h := h.2 c1
    refine z_lload_n (pc' := 12) (x := x2) dX8_power_11 rfl rfl ?_
    refine z_iload_n (pc' := 13) (x := x0) dX8_power_12 rfl rfl ?_
    refine z_i2l (pc' := 14) dX8_power_13 rfl ?_
    refine z_lmul (pc' := 15) dX8_power_14 rfl ?_
    refine z_lstore_n (pc' := 16) (ls' := [some (.int x0), some (.int x1), some (.long (x2 * (x0.toInt64))), none, some (.int x4)]) dX8_power_15 rfl (by decide) rfl ?_
    refine z_iinc (pc' := 19) (x := x4) (v := (x4 + (1 : Int32))) (ls' := [some (.int x0), some (.int x1), some (.long (x2 * (x0.toInt64))), none, some (.int (x4 + (1 : Int32)))]) dX8_power_16 rfl rfl (by rfl) (by decide) rfl ?_
    refine z_goto (pc' := 5) dX8_power_19 (by decide) ?_
    exact h
set_option maxHeartbeats 4000000 in
set_option maxRecDepth 100000 in
theorem t_X8_lowest {l : Launch} {G : zG} {d : Nat} {P : Int64 → zIM → zLM → Prop} {I : zIM} {L : zLM} {x0 : Int64} {x2 : Int64} {x4 : Int32}  (h : K_X8_lowest_9 l G d P I L x0 x2 x4 x0 x2 (0 : Int32)) : zCl l G d mX8_lowest [.long x0, .long x2, .int x4] I L P := by
  refine zCn.of (ls := [some (.long x0), none, some (.long x2), none, some (.int x4), none, none, none, none, none, none, none]) (by decide) (Nat.le_of_ble_eq_true rfl) rfl ?_
  refine z_lload_n (pc' := 1) (x := x0) dX8_lowest_0 rfl rfl ?_
  refine z_lstore (pc' := 3) (ls' := [some (.long x0), none, some (.long x2), none, some (.int x4), some (.long x0), none, none, none, none, none, none]) dX8_lowest_1 rfl (by decide) rfl ?_
  refine z_lload_n (pc' := 4) (x := x2) dX8_lowest_3 rfl rfl ?_
  refine z_lstore (pc' := 6) (ls' := [some (.long x0), none, some (.long x2), none, some (.int x4), some (.long x0), none, some (.long x2), none, none, none, none]) dX8_lowest_4 rfl (by decide) rfl ?_
  refine z_iconst (pc' := 7) (v := 0) dX8_lowest_6 rfl (by decide) ?_
  refine z_istore (pc' := 9) (ls' := [some (.long x0), none, some (.long x2), none, some (.int x4), some (.long x0), none, some (.long x2), none, some (.int (0 : Int32)), none, none]) dX8_lowest_7 rfl (by decide) rfl ?_
  exact h
set_option maxHeartbeats 4000000 in
set_option maxRecDepth 100000 in
theorem t_X8_lowest_9 {l : Launch} {G : zG} {d : Nat} {P : Int64 → zIM → zLM → Prop} {I : zIM} {L : zLM} {x0 : Int64} {x2 : Int64} {x4 : Int32} {x5 : Int64} {x7 : Int64} {x9 : Int32}   (hdp : 1 ≤ d) (h : (((100 : Int32) ≤ x9 → (((¬ x4 = 0 → ((¬ (if (1 : Int64) < x5 then x5 else (1 : Int64)) = 0) ∧ (P (x2 / (if (1 : Int64) < x5 then x5 else (1 : Int64))) I L))) ∧ (x4 = 0 → ((¬ (if (1 : Int64) < x5 then x5 else (1 : Int64)) = 0) ∧ (P (x0 / (if (1 : Int64) < x5 then x5 else (1 : Int64))) I L)))))) ∧ (¬ (100 : Int32) ≤ x9 → (((x7 = (0 : Int64) → (((¬ x4 = 0 → ((¬ (if (1 : Int64) < x5 then x5 else (1 : Int64)) = 0) ∧ (P (x2 / (if (1 : Int64) < x5 then x5 else (1 : Int64))) I L))) ∧ (x4 = 0 → ((¬ (if (1 : Int64) < x5 then x5 else (1 : Int64)) = 0) ∧ (P (x0 / (if (1 : Int64) < x5 then x5 else (1 : Int64))) I L)))))) ∧ (¬ x7 = (0 : Int64) → ((¬ x7 = 0) ∧ (K_X8_lowest_9 l G d P I L x0 x2 x4 x7 (x5 % x7) (x9 + (1 : Int32)))))))))) : K_X8_lowest_9 l G d P I L x0 x2 x4 x5 x7 x9  := by
  refine z_iload (pc' := 11) (x := x9) dX8_lowest_9 rfl rfl ?_
  refine z_bipush (pc' := 13) (v := 100) dX8_lowest_11 rfl (by decide) ?_
  refine z_icmp_ge (pc' := 16) (tgt := 44) dX8_lowest_13 rfl (by decide) (fun c1 => ?_) (fun c1 => ?_)
  · replace h := h.1 c1
    refine z_lload (pc' := 46) (x := x5) dX8_lowest_44 rfl rfl ?_
    refine z_lconst (pc' := 47) (v := 1) dX8_lowest_46 rfl (by decide) ?_
    refine z_mmaxl (pc' := 50) dX8_lowest_47 rfl ml_X8_343 zmt_mmaxl hdp (Nat.le_of_ble_eq_true rfl) ⟨Nat.le_refl _, Nat.le_refl _⟩ ?_
    refine z_lstore (pc' := 52) (ls' := [some (.long x0), none, some (.long x2), none, some (.int x4), some (.long x5), none, some (.long x7), none, some (.long (if (1 : Int64) < x5 then x5 else (1 : Int64))), none, none]) dX8_lowest_50 rfl (by decide) rfl ?_
    refine z_iload (pc' := 54) (x := x4) dX8_lowest_52 rfl rfl ?_
    refine z_if_ne (pc' := 57) (tgt := 61) dX8_lowest_54 rfl (by decide) (fun c2 => ?_) (fun c2 => ?_)
    · replace h := h.1 c2
      refine z_lload_n (pc' := 62) (x := x2) dX8_lowest_61 rfl rfl ?_
      refine z_lload (pc' := 64) (x := (if (1 : Int64) < x5 then x5 else (1 : Int64))) dX8_lowest_62 rfl rfl ?_
      obtain ⟨hz3, h⟩ := h
      refine z_ldiv (pc' := 65) dX8_lowest_64 rfl hz3 ?_
      exact z_lret dX8_lowest_65 rfl ⟨Nat.le_refl _, Nat.le_refl _⟩ ⟨_, _, _, rfl, rfl, h⟩
    · replace h := h.2 c2
      refine z_lload_n (pc' := 58) (x := x0) dX8_lowest_57 rfl rfl ?_
      refine z_goto (pc' := 62) dX8_lowest_58 (by decide) ?_
      refine z_lload (pc' := 64) (x := (if (1 : Int64) < x5 then x5 else (1 : Int64))) dX8_lowest_62 rfl rfl ?_
      obtain ⟨hz4, h⟩ := h
      refine z_ldiv (pc' := 65) dX8_lowest_64 rfl hz4 ?_
      exact z_lret dX8_lowest_65 rfl ⟨Nat.le_refl _, Nat.le_refl _⟩ ⟨_, _, _, rfl, rfl, h⟩
  · replace h := h.2 c1
    refine z_lload (pc' := 18) (x := x7) dX8_lowest_16 rfl rfl ?_
    refine z_lconst (pc' := 19) (v := 0) dX8_lowest_18 rfl (by decide) ?_
    refine z_lc_eq (pc' := 23) (tgt := 44) dX8_lowest_19 dX8_lowest_20 rfl (by decide) (fun c5 => ?_) (fun c5 => ?_)
    · replace h := h.1 c5
      refine z_lload (pc' := 46) (x := x5) dX8_lowest_44 rfl rfl ?_
      refine z_lconst (pc' := 47) (v := 1) dX8_lowest_46 rfl (by decide) ?_
      refine z_mmaxl (pc' := 50) dX8_lowest_47 rfl ml_X8_343 zmt_mmaxl hdp (Nat.le_of_ble_eq_true rfl) ⟨Nat.le_refl _, Nat.le_refl _⟩ ?_
      refine z_lstore (pc' := 52) (ls' := [some (.long x0), none, some (.long x2), none, some (.int x4), some (.long x5), none, some (.long x7), none, some (.long (if (1 : Int64) < x5 then x5 else (1 : Int64))), none, none]) dX8_lowest_50 rfl (by decide) rfl ?_
      refine z_iload (pc' := 54) (x := x4) dX8_lowest_52 rfl rfl ?_
      refine z_if_ne (pc' := 57) (tgt := 61) dX8_lowest_54 rfl (by decide) (fun c6 => ?_) (fun c6 => ?_)
      · replace h := h.1 c6
        refine z_lload_n (pc' := 62) (x := x2) dX8_lowest_61 rfl rfl ?_
        refine z_lload (pc' := 64) (x := (if (1 : Int64) < x5 then x5 else (1 : Int64))) dX8_lowest_62 rfl rfl ?_
        obtain ⟨hz7, h⟩ := h
        refine z_ldiv (pc' := 65) dX8_lowest_64 rfl hz7 ?_
        exact z_lret dX8_lowest_65 rfl ⟨Nat.le_refl _, Nat.le_refl _⟩ ⟨_, _, _, rfl, rfl, h⟩
      · replace h := h.2 c6
        refine z_lload_n (pc' := 58) (x := x0) dX8_lowest_57 rfl rfl ?_
        refine z_goto (pc' := 62) dX8_lowest_58 (by decide) ?_
        refine z_lload (pc' := 64) (x := (if (1 : Int64) < x5 then x5 else (1 : Int64))) dX8_lowest_62 rfl rfl ?_
        obtain ⟨hz8, h⟩ := h
        refine z_ldiv (pc' := 65) dX8_lowest_64 rfl hz8 ?_
        exact z_lret dX8_lowest_65 rfl ⟨Nat.le_refl _, Nat.le_refl _⟩ ⟨_, _, _, rfl, rfl, h⟩
    · replace h := h.2 c5
      refine z_lload (pc' := 25) (x := x5) dX8_lowest_23 rfl rfl ?_
      refine z_lload (pc' := 27) (x := x7) dX8_lowest_25 rfl rfl ?_
      obtain ⟨hz9, h⟩ := h
      refine z_lrem (pc' := 28) dX8_lowest_27 rfl hz9 ?_
      refine z_lstore (pc' := 30) (ls' := [some (.long x0), none, some (.long x2), none, some (.int x4), some (.long x5), none, some (.long x7), none, some (.int x9), some (.long (x5 % x7)), none]) dX8_lowest_28 rfl (by decide) rfl ?_
      refine z_lload (pc' := 32) (x := x7) dX8_lowest_30 rfl rfl ?_
      refine z_lstore (pc' := 34) (ls' := [some (.long x0), none, some (.long x2), none, some (.int x4), some (.long x7), none, some (.long x7), none, some (.int x9), some (.long (x5 % x7)), none]) dX8_lowest_32 rfl (by decide) rfl ?_
      refine z_lload (pc' := 36) (x := (x5 % x7)) dX8_lowest_34 rfl rfl ?_
      refine z_lstore (pc' := 38) (ls' := [some (.long x0), none, some (.long x2), none, some (.int x4), some (.long x7), none, some (.long (x5 % x7)), none, some (.int x9), some (.long (x5 % x7)), none]) dX8_lowest_36 rfl (by decide) rfl ?_
      refine z_iinc (pc' := 41) (x := x9) (v := (x9 + (1 : Int32))) (ls' := [some (.long x0), none, some (.long x2), none, some (.int x4), some (.long x7), none, some (.long (x5 % x7)), none, some (.int (x9 + (1 : Int32))), some (.long (x5 % x7)), none]) dX8_lowest_38 rfl rfl (by rfl) (by decide) rfl ?_
      refine z_goto (pc' := 9) dX8_lowest_41 (by decide) ?_
      refine z_sub (pc' := 0) [some (.long x0), none, some (.long x2), none, some (.int x4), some (.long x7), none, some (.long (x5 % x7)), none, some (.int (x9 + (1 : Int32))), none, none] (zsub_s (zsub_n (zsub_s (zsub_n (zsub_s (zsub_s (zsub_n (zsub_s (zsub_n (zsub_s (zsub_n (zsub_n zsub_nil)))))))))))) ?_
      exact h
set_option maxHeartbeats 4000000 in
set_option maxRecDepth 100000 in
theorem t_X8_come {l : Launch} {G : zG} {d : Nat} {P : Int32 → zIM → zLM → Prop} {I : zIM} {L : zLM} {x1 : Int32} {x2 : Int32}  (h : ∃ (d1 : Nat) (P1 : Int32 → zIM → zLM → Prop), d1 + 1 ≤ d ∧ zCi l G d1 mX2_come [.ref 1, .int x1, .int x2] I L P1 ∧ ∀ (y1 : Int32) (I1 : zIM) (L1 : zLM), P1 y1 I1 L1 → (∃ (d2 : Nat) (P2 : zIM → zLM → Prop), d2 + 1 ≤ d ∧ zCv l G d2 mX4_forgetNumbers [.ref 14] I1 L1 P2 ∧ ∀ (I2 : zIM) (L2 : zLM), P2 I2 L2 → (∃ (d3 : Nat) (P3 : zIM → zLM → Prop), d3 + 1 ≤ d ∧ zCv l G d3 mX1_startForNewGroup [.ref 20] I2 L2 P3 ∧ ∀ (I3 : zIM) (L3 : zLM), P3 I3 L3 → (P y1 I3 L3)))) : zCi l G d mX8_come [.ref 0, .int x1, .int x2] I L P := by
  refine zCn.of (ls := [some (.ref 0), some (.int x1), some (.int x2), none]) (by decide) (Nat.le_of_ble_eq_true rfl) rfl ?_
  refine z_aload_n (pc' := 1) (x := 0) dX8_come_0 rfl rfl ?_
  refine z_getr (pc' := 4) (x := 1) dX8_come_1 rfl fl_X8_10 rfl rfl rfl ?_
  refine z_iload_n (pc' := 5) (x := x1) dX8_come_4 rfl rfl ?_
  refine z_iload_n (pc' := 6) (x := x2) dX8_come_5 rfl rfl ?_
  obtain ⟨d1, P1, hd1, hC1, h⟩ := h
  refine z_callV (pc' := 9) (M' := mX2_come) (As := [.int x1, .int x2]) dX8_come_6 rfl ml_X8_347 me_X2_come hC1 rfl (by decide) rfl rfl hd1 (Nat.le_of_ble_eq_true rfl) ⟨Nat.le_refl _, Nat.le_refl _⟩ rfl ?_
  rintro _ _ ⟨y1, I1, L1, rfl, rfl, hP1⟩
  replace h := h y1 I1 L1 hP1
  refine z_istore_n (pc' := 10) (ls' := [some (.ref 0), some (.int x1), some (.int x2), some (.int y1)]) dX8_come_9 rfl (by decide) rfl ?_
  refine z_aload_n (pc' := 11) (x := 0) dX8_come_10 rfl rfl ?_
  refine z_getr (pc' := 14) (x := 14) dX8_come_11 rfl fl_X8_28 rfl rfl rfl ?_
  obtain ⟨d2, P2, hd2, hC2, h⟩ := h
  refine z_callV (pc' := 17) (M' := mX4_forgetNumbers) (As := []) dX8_come_14 rfl ml_X8_145 me_X4_forgetNumbers hC2 rfl (by decide) rfl rfl hd2 (Nat.le_of_ble_eq_true rfl) ⟨Nat.le_refl _, Nat.le_refl _⟩ rfl ?_
  rintro _ _ ⟨I2, L2, rfl, rfl, hP2⟩
  replace h := h I2 L2 hP2
  refine z_aload_n (pc' := 18) (x := 0) dX8_come_17 rfl rfl ?_
  refine z_getr (pc' := 21) (x := 20) dX8_come_18 rfl fl_X8_37 rfl rfl rfl ?_
  obtain ⟨d3, P3, hd3, hC3, h⟩ := h
  refine z_callV (pc' := 24) (M' := mX1_startForNewGroup) (As := []) dX8_come_21 rfl ml_X8_123 me_X1_startForNewGroup hC3 rfl (by decide) rfl rfl hd3 (Nat.le_of_ble_eq_true rfl) ⟨Nat.le_refl _, Nat.le_refl _⟩ rfl ?_
  rintro _ _ ⟨I3, L3, rfl, rfl, hP3⟩
  replace h := h I3 L3 hP3
  refine z_iload_n (pc' := 25) (x := y1) dX8_come_24 rfl rfl ?_
  exact z_iret dX8_come_25 rfl rfl ⟨Nat.le_refl _, Nat.le_refl _⟩ ⟨_, _, _, rfl, rfl, h⟩
set_option maxHeartbeats 4000000 in
set_option maxRecDepth 100000 in
theorem t_X8_tell {l : Launch} {G : zG} {d : Nat} {P : zIM → zLM → Prop} {I : zIM} {L : zLM} {x1 : Int32} {x2 : Int32} {x3 : Int32}  (h : ((¬ x2 = 0 → (((¬ x2 = (1 : Int32) → (∃ j3 : Nat, x1 = nI j3 ∧ j3 < 4 ∧ (P (xI I 4 j3 x3) L))) ∧ (x2 = (1 : Int32) → (∃ j4 : Nat, x1 = nI j4 ∧ j4 < 4 ∧ (P (xI I 3 j4 x3) L)))))) ∧ (x2 = 0 → (∃ j5 : Nat, x1 = nI j5 ∧ j5 < 4 ∧ (∃ (d6 : Nat) (P6 : zIM → zLM → Prop), d6 + 1 ≤ d ∧ zCv l G d6 mX4_forgetNumbers [.ref 14] (xI I 2 j5 x3) L P6 ∧ ∀ (I6 : zIM) (L6 : zLM), P6 I6 L6 → (P I6 L6)))))) : zCv l G d mX8_tell [.ref 0, .int x1, .int x2, .int x3] I L P := by
  refine zCn.of (ls := [some (.ref 0), some (.int x1), some (.int x2), some (.int x3)]) (by decide) (Nat.le_of_ble_eq_true rfl) rfl ?_
  refine z_iload_n (pc' := 1) (x := x2) dX8_tell_0 rfl rfl ?_
  refine z_if_ne (pc' := 4) (tgt := 24) dX8_tell_1 rfl (by decide) (fun c1 => ?_) (fun c1 => ?_)
  · replace h := h.1 c1
    refine z_iload_n (pc' := 25) (x := x2) dX8_tell_24 rfl rfl ?_
    refine z_iconst (pc' := 26) (v := 1) dX8_tell_25 rfl (by decide) ?_
    refine z_icmp_ne (pc' := 29) (tgt := 42) dX8_tell_26 rfl (by decide) (fun c2 => ?_) (fun c2 => ?_)
    · replace h := h.1 c2
      refine z_aload_n (pc' := 43) (x := 0) dX8_tell_42 rfl rfl ?_
      refine z_getr (pc' := 46) (x := 1) dX8_tell_43 rfl fl_X8_10 rfl rfl rfl ?_
      refine z_getr (pc' := 49) (x := 4) dX8_tell_46 rfl fl_X8_348 rfl rfl rfl ?_
      refine z_iload_n (pc' := 50) (x := x1) dX8_tell_49 rfl rfl ?_
      refine z_iload_n (pc' := 51) (x := x3) dX8_tell_50 rfl rfl ?_
      obtain ⟨j3, ha3, hb3, h⟩ := h
      refine z_iast (pc' := 52) (j := j3) (w' := zs (xI I 4 j3 x3) L) dX8_tell_51 rfl rfl (by decide) ha3 hb3 rfl ?_
      exact z_vret dX8_tell_52 rfl ⟨Nat.le_refl _, Nat.le_refl _⟩ ⟨_, _, rfl, rfl, h⟩
    · replace h := h.2 c2
      refine z_aload_n (pc' := 30) (x := 0) dX8_tell_29 rfl rfl ?_
      refine z_getr (pc' := 33) (x := 1) dX8_tell_30 rfl fl_X8_10 rfl rfl rfl ?_
      refine z_getr (pc' := 36) (x := 3) dX8_tell_33 rfl fl_X8_200 rfl rfl rfl ?_
      refine z_iload_n (pc' := 37) (x := x1) dX8_tell_36 rfl rfl ?_
      refine z_iload_n (pc' := 38) (x := x3) dX8_tell_37 rfl rfl ?_
      obtain ⟨j4, ha4, hb4, h⟩ := h
      refine z_iast (pc' := 39) (j := j4) (w' := zs (xI I 3 j4 x3) L) dX8_tell_38 rfl rfl (by decide) ha4 hb4 rfl ?_
      refine z_goto (pc' := 52) dX8_tell_39 (by decide) ?_
      exact z_vret dX8_tell_52 rfl ⟨Nat.le_refl _, Nat.le_refl _⟩ ⟨_, _, rfl, rfl, h⟩
  · replace h := h.2 c1
    refine z_aload_n (pc' := 5) (x := 0) dX8_tell_4 rfl rfl ?_
    refine z_getr (pc' := 8) (x := 1) dX8_tell_5 rfl fl_X8_10 rfl rfl rfl ?_
    refine z_getr (pc' := 11) (x := 2) dX8_tell_8 rfl fl_X8_209 rfl rfl rfl ?_
    refine z_iload_n (pc' := 12) (x := x1) dX8_tell_11 rfl rfl ?_
    refine z_iload_n (pc' := 13) (x := x3) dX8_tell_12 rfl rfl ?_
    obtain ⟨j5, ha5, hb5, h⟩ := h
    refine z_iast (pc' := 14) (j := j5) (w' := zs (xI I 2 j5 x3) L) dX8_tell_13 rfl rfl (by decide) ha5 hb5 rfl ?_
    refine z_aload_n (pc' := 15) (x := 0) dX8_tell_14 rfl rfl ?_
    refine z_getr (pc' := 18) (x := 14) dX8_tell_15 rfl fl_X8_28 rfl rfl rfl ?_
    obtain ⟨d6, P6, hd6, hC6, h⟩ := h
    refine z_callV (pc' := 21) (M' := mX4_forgetNumbers) (As := []) dX8_tell_18 rfl ml_X8_145 me_X4_forgetNumbers hC6 rfl (by decide) rfl rfl hd6 (Nat.le_of_ble_eq_true rfl) ⟨Nat.le_refl _, Nat.le_refl _⟩ rfl ?_
    rintro _ _ ⟨I6, L6, rfl, rfl, hP6⟩
    replace h := h I6 L6 hP6
    refine z_goto (pc' := 52) dX8_tell_21 (by decide) ?_
    exact z_vret dX8_tell_52 rfl ⟨Nat.le_refl _, Nat.le_refl _⟩ ⟨_, _, rfl, rfl, h⟩
set_option maxHeartbeats 4000000 in
set_option maxRecDepth 100000 in
theorem t_X8_worthNow {l : Launch} {G : zG} {d : Nat} {P : Int64 → zIM → zLM → Prop} {I : zIM} {L : zLM} {x1 : Int32}  (h : ∃ (d1 : Nat) (P1 : Int32 → zIM → zLM → Prop), d1 + 1 ≤ d ∧ zCi l G d1 mX2_all [.ref 1] I L P1 ∧ ∀ (y1 : Int32) (I1 : zIM) (L1 : zLM), P1 y1 I1 L1 → (∃ (d2 : Nat) (P2 : Int32 → zIM → zLM → Prop), d2 + 1 ≤ d ∧ zCi l G d2 mX2_first [.ref 1, .int y1] I1 L1 P2 ∧ ∀ (y2 : Int32) (I2 : zIM) (L2 : zLM), P2 y2 I2 L2 → (∃ (d3 : Nat) (P3 : Int32 → zIM → zLM → Prop), d3 + 1 ≤ d ∧ zCi l G d3 mX2_all [.ref 1] I2 L2 P3 ∧ ∀ (y3 : Int32) (I3 : zIM) (L3 : zLM), P3 y3 I3 L3 → (∃ (d4 : Nat) (P4 : Int64 → zIM → zLM → Prop), d4 + 1 ≤ d ∧ zCl l G d4 mX4_worthAtFirst [.ref 14, .int y2, .int y3, .int x1] I3 L3 P4 ∧ ∀ (y4 : Int64) (I4 : zIM) (L4 : zLM), P4 y4 I4 L4 → (P y4 I4 L4))))) : zCl l G d mX8_worthNow [.ref 0, .int x1] I L P := by
  refine zCn.of (ls := [some (.ref 0), some (.int x1)]) (by decide) (Nat.le_of_ble_eq_true rfl) rfl ?_
  refine z_aload_n (pc' := 1) (x := 0) dX8_worthNow_0 rfl rfl ?_
  refine z_getr (pc' := 4) (x := 14) dX8_worthNow_1 rfl fl_X8_28 rfl rfl rfl ?_
  refine z_aload_n (pc' := 5) (x := 0) dX8_worthNow_4 rfl rfl ?_
  refine z_getr (pc' := 8) (x := 1) dX8_worthNow_5 rfl fl_X8_10 rfl rfl rfl ?_
  refine z_aload_n (pc' := 9) (x := 0) dX8_worthNow_8 rfl rfl ?_
  refine z_getr (pc' := 12) (x := 1) dX8_worthNow_9 rfl fl_X8_10 rfl rfl rfl ?_
  obtain ⟨d1, P1, hd1, hC1, h⟩ := h
  refine z_callV (pc' := 15) (M' := mX2_all) (As := []) dX8_worthNow_12 rfl ml_X8_176 me_X2_all hC1 rfl (by decide) rfl rfl hd1 (Nat.le_of_ble_eq_true rfl) ⟨Nat.le_refl _, Nat.le_refl _⟩ rfl ?_
  rintro _ _ ⟨y1, I1, L1, rfl, rfl, hP1⟩
  replace h := h y1 I1 L1 hP1
  obtain ⟨d2, P2, hd2, hC2, h⟩ := h
  refine z_callV (pc' := 18) (M' := mX2_first) (As := [.int y1]) dX8_worthNow_15 rfl ml_X8_241 me_X2_first hC2 rfl (by decide) rfl rfl hd2 (Nat.le_of_ble_eq_true rfl) ⟨Nat.le_refl _, Nat.le_refl _⟩ rfl ?_
  rintro _ _ ⟨y2, I2, L2, rfl, rfl, hP2⟩
  replace h := h y2 I2 L2 hP2
  refine z_aload_n (pc' := 19) (x := 0) dX8_worthNow_18 rfl rfl ?_
  refine z_getr (pc' := 22) (x := 1) dX8_worthNow_19 rfl fl_X8_10 rfl rfl rfl ?_
  obtain ⟨d3, P3, hd3, hC3, h⟩ := h
  refine z_callV (pc' := 25) (M' := mX2_all) (As := []) dX8_worthNow_22 rfl ml_X8_176 me_X2_all hC3 rfl (by decide) rfl rfl hd3 (Nat.le_of_ble_eq_true rfl) ⟨Nat.le_refl _, Nat.le_refl _⟩ rfl ?_
  rintro _ _ ⟨y3, I3, L3, rfl, rfl, hP3⟩
  replace h := h y3 I3 L3 hP3
  refine z_iload_n (pc' := 26) (x := x1) dX8_worthNow_25 rfl rfl ?_
  obtain ⟨d4, P4, hd4, hC4, h⟩ := h
  refine z_callV (pc' := 29) (M' := mX4_worthAtFirst) (As := [.int y2, .int y3, .int x1]) dX8_worthNow_26 rfl ml_X8_351 me_X4_worthAtFirst hC4 rfl (by decide) rfl rfl hd4 (Nat.le_of_ble_eq_true rfl) ⟨Nat.le_refl _, Nat.le_refl _⟩ rfl ?_
  rintro _ _ ⟨y4, I4, L4, rfl, rfl, hP4⟩
  replace h := h y4 I4 L4 hP4
  exact z_lret dX8_worthNow_29 rfl ⟨Nat.le_refl _, Nat.le_refl _⟩ ⟨_, _, _, rfl, rfl, h⟩
set_option maxHeartbeats 4000000 in
set_option maxRecDepth 100000 in
theorem t_X8_worthIfBegins {l : Launch} {G : zG} {d : Nat} {P : Int64 → zIM → zLM → Prop} {I : zIM} {L : zLM} {x1 : Int32} {x2 : Int32}  (h : ∃ j1 : Nat, x1 = nI j1 ∧ j1 < 4 ∧ (∃ (d2 : Nat) (P2 : Int32 → zIM → zLM → Prop), d2 + 1 ≤ d ∧ zCi l G d2 mX2_all [.ref 1] I L P2 ∧ ∀ (y2 : Int32) (I2 : zIM) (L2 : zLM), P2 y2 I2 L2 → (∃ (d3 : Nat) (P3 : Int64 → zIM → zLM → Prop), d3 + 1 ≤ d ∧ zCl l G d3 mX4_worthAtFirst [.ref 14, .int (I 5 j1), .int y2, .int x2] I2 L2 P3 ∧ ∀ (y3 : Int64) (I3 : zIM) (L3 : zLM), P3 y3 I3 L3 → (P y3 I3 L3)))) : zCl l G d mX8_worthIfBegins [.ref 0, .int x1, .int x2] I L P := by
  refine zCn.of (ls := [some (.ref 0), some (.int x1), some (.int x2)]) (by decide) (Nat.le_of_ble_eq_true rfl) rfl ?_
  refine z_aload_n (pc' := 1) (x := 0) dX8_worthIfBegins_0 rfl rfl ?_
  refine z_getr (pc' := 4) (x := 14) dX8_worthIfBegins_1 rfl fl_X8_28 rfl rfl rfl ?_
  refine z_aload_n (pc' := 5) (x := 0) dX8_worthIfBegins_4 rfl rfl ?_
  refine z_getr (pc' := 8) (x := 1) dX8_worthIfBegins_5 rfl fl_X8_10 rfl rfl rfl ?_
  refine z_getr (pc' := 11) (x := 5) dX8_worthIfBegins_8 rfl fl_X8_355 rfl rfl rfl ?_
  refine z_iload_n (pc' := 12) (x := x1) dX8_worthIfBegins_11 rfl rfl ?_
  obtain ⟨j1, ha1, hb1, h⟩ := h
  refine z_iald (pc' := 13) (x := (I 5 j1)) (j := j1) dX8_worthIfBegins_12 rfl rfl (by decide) ha1 hb1 rfl ?_
  refine z_aload_n (pc' := 14) (x := 0) dX8_worthIfBegins_13 rfl rfl ?_
  refine z_getr (pc' := 17) (x := 1) dX8_worthIfBegins_14 rfl fl_X8_10 rfl rfl rfl ?_
  obtain ⟨d2, P2, hd2, hC2, h⟩ := h
  refine z_callV (pc' := 20) (M' := mX2_all) (As := []) dX8_worthIfBegins_17 rfl ml_X8_176 me_X2_all hC2 rfl (by decide) rfl rfl hd2 (Nat.le_of_ble_eq_true rfl) ⟨Nat.le_refl _, Nat.le_refl _⟩ rfl ?_
  rintro _ _ ⟨y2, I2, L2, rfl, rfl, hP2⟩
  replace h := h y2 I2 L2 hP2
  refine z_iload_n (pc' := 21) (x := x2) dX8_worthIfBegins_20 rfl rfl ?_
  obtain ⟨d3, P3, hd3, hC3, h⟩ := h
  refine z_callV (pc' := 24) (M' := mX4_worthAtFirst) (As := [.int (I 5 j1), .int y2, .int x2]) dX8_worthIfBegins_21 rfl ml_X8_351 me_X4_worthAtFirst hC3 rfl (by decide) rfl rfl hd3 (Nat.le_of_ble_eq_true rfl) ⟨Nat.le_refl _, Nat.le_refl _⟩ rfl ?_
  rintro _ _ ⟨y3, I3, L3, rfl, rfl, hP3⟩
  replace h := h y3 I3 L3 hP3
  exact z_lret dX8_worthIfBegins_24 rfl ⟨Nat.le_refl _, Nat.le_refl _⟩ ⟨_, _, _, rfl, rfl, h⟩
set_option maxHeartbeats 4000000 in
set_option maxRecDepth 100000 in
theorem t_X8_spanIfBegins {l : Launch} {G : zG} {d : Nat} {P : Int64 → zIM → zLM → Prop} {I : zIM} {L : zLM} {x1 : Int32}  (h : ∃ (d1 : Nat) (P1 : Int64 → zIM → zLM → Prop), d1 + 1 ≤ d ∧ zCl l G d1 mX8_worthIfBegins [.ref 0, .int x1, .int (0 : Int32)] I L P1 ∧ ∀ (y1 : Int64) (I1 : zIM) (L1 : zLM), P1 y1 I1 L1 → (K_X8_spanIfBegins_13 l G d P I1 L1 x1 y1 y1 (1 : Int32))) : zCl l G d mX8_spanIfBegins [.ref 0, .int x1] I L P := by
  refine zCn.of (ls := [some (.ref 0), some (.int x1), none, none, none, none, none, none, none]) (by decide) (Nat.le_of_ble_eq_true rfl) rfl ?_
  refine z_aload_n (pc' := 1) (x := 0) dX8_spanIfBegins_0 rfl rfl ?_
  refine z_iload_n (pc' := 2) (x := x1) dX8_spanIfBegins_1 rfl rfl ?_
  refine z_iconst (pc' := 3) (v := 0) dX8_spanIfBegins_2 rfl (by decide) ?_
  obtain ⟨d1, P1, hd1, hC1, h⟩ := h
  refine z_callV (pc' := 6) (M' := mX8_worthIfBegins) (As := [.int x1, .int (0 : Int32)]) dX8_spanIfBegins_3 rfl ml_X8_187 me_X8_worthIfBegins hC1 rfl (by decide) rfl rfl hd1 (Nat.le_of_ble_eq_true rfl) ⟨Nat.le_refl _, Nat.le_refl _⟩ rfl ?_
  rintro _ _ ⟨y1, I1, L1, rfl, rfl, hP1⟩
  replace h := h y1 I1 L1 hP1
  refine z_lstore_n (pc' := 7) (ls' := [some (.ref 0), some (.int x1), some (.long y1), none, none, none, none, none, none]) dX8_spanIfBegins_6 rfl (by decide) rfl ?_
  refine z_lload_n (pc' := 8) (x := y1) dX8_spanIfBegins_7 rfl rfl ?_
  refine z_lstore (pc' := 10) (ls' := [some (.ref 0), some (.int x1), some (.long y1), none, some (.long y1), none, none, none, none]) dX8_spanIfBegins_8 rfl (by decide) rfl ?_
  refine z_iconst (pc' := 11) (v := 1) dX8_spanIfBegins_10 rfl (by decide) ?_
  refine z_istore (pc' := 13) (ls' := [some (.ref 0), some (.int x1), some (.long y1), none, some (.long y1), none, some (.int (1 : Int32)), none, none]) dX8_spanIfBegins_11 rfl (by decide) rfl ?_
  exact h
set_option maxHeartbeats 4000000 in
set_option maxRecDepth 100000 in
theorem t_X8_spanIfBegins_13 {l : Launch} {G : zG} {d : Nat} {P : Int64 → zIM → zLM → Prop} {I : zIM} {L : zLM} {x1 : Int32} {x2 : Int64} {x4 : Int64} {x6 : Int32}   (hdp : 1 ≤ d) (h : (((I 1 6) ≤ x6 → (P (x2 - x4) I L)) ∧ (¬ (I 1 6) ≤ x6 → (∃ (d2 : Nat) (P2 : Int64 → zIM → zLM → Prop), d2 + 1 ≤ d ∧ zCl l G d2 mX8_worthIfBegins [.ref 0, .int x1, .int x6] I L P2 ∧ ∀ (y2 : Int64) (I2 : zIM) (L2 : zLM), P2 y2 I2 L2 → (K_X8_spanIfBegins_13 l G d P I2 L2 x1 (if y2 < x2 then x2 else y2) (if y2 < x4 then y2 else x4) (x6 + (1 : Int32))))))) : K_X8_spanIfBegins_13 l G d P I L x1 x2 x4 x6  := by
  refine z_iload (pc' := 15) (x := x6) dX8_spanIfBegins_13 rfl rfl ?_
  refine z_aload_n (pc' := 16) (x := 0) dX8_spanIfBegins_15 rfl rfl ?_
  refine z_getr (pc' := 19) (x := 1) dX8_spanIfBegins_16 rfl fl_X8_10 rfl rfl rfl ?_
  refine z_geti (pc' := 22) (x := (I 1 6)) dX8_spanIfBegins_19 rfl fl_X8_79 rfl rfl rfl ?_
  refine z_icmp_ge (pc' := 25) (tgt := 56) dX8_spanIfBegins_22 rfl (by decide) (fun c1 => ?_) (fun c1 => ?_)
  · replace h := h.1 c1
    refine z_lload_n (pc' := 57) (x := x2) dX8_spanIfBegins_56 rfl rfl ?_
    refine z_lload (pc' := 59) (x := x4) dX8_spanIfBegins_57 rfl rfl ?_
    refine z_lsub (pc' := 60) dX8_spanIfBegins_59 rfl ?_
    exact z_lret dX8_spanIfBegins_60 rfl ⟨Nat.le_refl _, Nat.le_refl _⟩ ⟨_, _, _, rfl, rfl, h⟩
  · replace h := h.2 c1
    refine z_aload_n (pc' := 26) (x := 0) dX8_spanIfBegins_25 rfl rfl ?_
    refine z_iload_n (pc' := 27) (x := x1) dX8_spanIfBegins_26 rfl rfl ?_
    refine z_iload (pc' := 29) (x := x6) dX8_spanIfBegins_27 rfl rfl ?_
    obtain ⟨d2, P2, hd2, hC2, h⟩ := h
    refine z_callV (pc' := 32) (M' := mX8_worthIfBegins) (As := [.int x1, .int x6]) dX8_spanIfBegins_29 rfl ml_X8_187 me_X8_worthIfBegins hC2 rfl (by decide) rfl rfl hd2 (Nat.le_of_ble_eq_true rfl) ⟨Nat.le_refl _, Nat.le_refl _⟩ rfl ?_
    rintro _ _ ⟨y2, I2, L2, rfl, rfl, hP2⟩
    replace h := h y2 I2 L2 hP2
    refine z_lstore (pc' := 34) (ls' := [some (.ref 0), some (.int x1), some (.long x2), none, some (.long x4), none, some (.int x6), some (.long y2), none]) dX8_spanIfBegins_32 rfl (by decide) rfl ?_
    refine z_lload_n (pc' := 35) (x := x2) dX8_spanIfBegins_34 rfl rfl ?_
    refine z_lload (pc' := 37) (x := y2) dX8_spanIfBegins_35 rfl rfl ?_
    refine z_mmaxl (pc' := 40) dX8_spanIfBegins_37 rfl ml_X8_343 zmt_mmaxl hdp (Nat.le_of_ble_eq_true rfl) ⟨Nat.le_refl _, Nat.le_refl _⟩ ?_
    refine z_lstore_n (pc' := 41) (ls' := [some (.ref 0), some (.int x1), some (.long (if y2 < x2 then x2 else y2)), none, some (.long x4), none, some (.int x6), some (.long y2), none]) dX8_spanIfBegins_40 rfl (by decide) rfl ?_
    refine z_lload (pc' := 43) (x := x4) dX8_spanIfBegins_41 rfl rfl ?_
    refine z_lload (pc' := 45) (x := y2) dX8_spanIfBegins_43 rfl rfl ?_
    refine z_mminl (pc' := 48) dX8_spanIfBegins_45 rfl ml_X8_358 zmt_mminl hdp (Nat.le_of_ble_eq_true rfl) ⟨Nat.le_refl _, Nat.le_refl _⟩ ?_
    refine z_lstore (pc' := 50) (ls' := [some (.ref 0), some (.int x1), some (.long (if y2 < x2 then x2 else y2)), none, some (.long (if y2 < x4 then y2 else x4)), none, some (.int x6), some (.long y2), none]) dX8_spanIfBegins_48 rfl (by decide) rfl ?_
    refine z_iinc (pc' := 53) (x := x6) (v := (x6 + (1 : Int32))) (ls' := [some (.ref 0), some (.int x1), some (.long (if y2 < x2 then x2 else y2)), none, some (.long (if y2 < x4 then y2 else x4)), none, some (.int (x6 + (1 : Int32))), some (.long y2), none]) dX8_spanIfBegins_50 rfl rfl (by rfl) (by decide) rfl ?_
    refine z_goto (pc' := 13) dX8_spanIfBegins_53 (by decide) ?_
    refine z_sub (pc' := 0) [some (.ref 0), some (.int x1), some (.long (if y2 < x2 then x2 else y2)), none, some (.long (if y2 < x4 then y2 else x4)), none, some (.int (x6 + (1 : Int32))), none, none] (zsub_s (zsub_s (zsub_s (zsub_n (zsub_s (zsub_n (zsub_s (zsub_n (zsub_n zsub_nil))))))))) ?_
    exact h
set_option maxHeartbeats 4000000 in
set_option maxRecDepth 100000 in
theorem t_X8_distanceFromMean {l : Launch} {G : zG} {d : Nat} {P : Int64 → zIM → zLM → Prop} {I : zIM} {L : zLM} {x1 : Int32}  (h : K_X8_distanceFromMean_5 l G d P I L x1 (0 : Int64) (0 : Int32)) : zCl l G d mX8_distanceFromMean [.ref 0, .int x1] I L P := by
  refine zCn.of (ls := [some (.ref 0), some (.int x1), none, none, none]) (by decide) (Nat.le_of_ble_eq_true rfl) rfl ?_
  refine z_lconst (pc' := 1) (v := 0) dX8_distanceFromMean_0 rfl (by decide) ?_
  refine z_lstore_n (pc' := 2) (ls' := [some (.ref 0), some (.int x1), some (.long (0 : Int64)), none, none]) dX8_distanceFromMean_1 rfl (by decide) rfl ?_
  refine z_iconst (pc' := 3) (v := 0) dX8_distanceFromMean_2 rfl (by decide) ?_
  refine z_istore (pc' := 5) (ls' := [some (.ref 0), some (.int x1), some (.long (0 : Int64)), none, some (.int (0 : Int32))]) dX8_distanceFromMean_3 rfl (by decide) rfl ?_
  exact h
set_option maxHeartbeats 4000000 in
set_option maxRecDepth 100000 in
theorem t_X8_distanceFromMean_5 {l : Launch} {G : zG} {d : Nat} {P : Int64 → zIM → zLM → Prop} {I : zIM} {L : zLM} {x1 : Int32} {x2 : Int64} {x4 : Int32}   (hdp : 1 ≤ d) (h : (((I 1 6) ≤ x4 → (∃ (d2 : Nat) (P2 : Int64 → zIM → zLM → Prop), d2 + 1 ≤ d ∧ zCl l G d2 mX8_worthNow [.ref 0, .int x1] I L P2 ∧ ∀ (y2 : Int64) (I2 : zIM) (L2 : zLM), P2 y2 I2 L2 → (P (if 0 < ((((I 1 6).toInt64) * y2) - x2) then ((((I 1 6).toInt64) * y2) - x2) else -((((I 1 6).toInt64) * y2) - x2)) I2 L2))) ∧ (¬ (I 1 6) ≤ x4 → (∃ (d3 : Nat) (P3 : Int64 → zIM → zLM → Prop), d3 + 1 ≤ d ∧ zCl l G d3 mX8_worthNow [.ref 0, .int x4] I L P3 ∧ ∀ (y3 : Int64) (I3 : zIM) (L3 : zLM), P3 y3 I3 L3 → (K_X8_distanceFromMean_5 l G d P I3 L3 x1 (x2 + y3) (x4 + (1 : Int32))))))) : K_X8_distanceFromMean_5 l G d P I L x1 x2 x4  := by
  refine z_iload (pc' := 7) (x := x4) dX8_distanceFromMean_5 rfl rfl ?_
  refine z_aload_n (pc' := 8) (x := 0) dX8_distanceFromMean_7 rfl rfl ?_
  refine z_getr (pc' := 11) (x := 1) dX8_distanceFromMean_8 rfl fl_X8_10 rfl rfl rfl ?_
  refine z_geti (pc' := 14) (x := (I 1 6)) dX8_distanceFromMean_11 rfl fl_X8_79 rfl rfl rfl ?_
  refine z_icmp_ge (pc' := 17) (tgt := 32) dX8_distanceFromMean_14 rfl (by decide) (fun c1 => ?_) (fun c1 => ?_)
  · replace h := h.1 c1
    refine z_aload_n (pc' := 33) (x := 0) dX8_distanceFromMean_32 rfl rfl ?_
    refine z_getr (pc' := 36) (x := 1) dX8_distanceFromMean_33 rfl fl_X8_10 rfl rfl rfl ?_
    refine z_geti (pc' := 39) (x := (I 1 6)) dX8_distanceFromMean_36 rfl fl_X8_79 rfl rfl rfl ?_
    refine z_i2l (pc' := 40) dX8_distanceFromMean_39 rfl ?_
    refine z_aload_n (pc' := 41) (x := 0) dX8_distanceFromMean_40 rfl rfl ?_
    refine z_iload_n (pc' := 42) (x := x1) dX8_distanceFromMean_41 rfl rfl ?_
    obtain ⟨d2, P2, hd2, hC2, h⟩ := h
    refine z_callV (pc' := 45) (M' := mX8_worthNow) (As := [.int x1]) dX8_distanceFromMean_42 rfl ml_X8_155 me_X8_worthNow hC2 rfl (by decide) rfl rfl hd2 (Nat.le_of_ble_eq_true rfl) ⟨Nat.le_refl _, Nat.le_refl _⟩ rfl ?_
    rintro _ _ ⟨y2, I2, L2, rfl, rfl, hP2⟩
    replace h := h y2 I2 L2 hP2
    refine z_lmul (pc' := 46) dX8_distanceFromMean_45 rfl ?_
    refine z_lload_n (pc' := 47) (x := x2) dX8_distanceFromMean_46 rfl rfl ?_
    refine z_lsub (pc' := 48) dX8_distanceFromMean_47 rfl ?_
    refine z_mabsl (pc' := 51) dX8_distanceFromMean_48 rfl ml_X8_360 zmt_mabsl hdp (Nat.le_of_ble_eq_true rfl) ⟨Nat.le_refl _, Nat.le_refl _⟩ ?_
    exact z_lret dX8_distanceFromMean_51 rfl ⟨Nat.le_refl _, Nat.le_refl _⟩ ⟨_, _, _, rfl, rfl, h⟩
  · replace h := h.2 c1
    refine z_lload_n (pc' := 18) (x := x2) dX8_distanceFromMean_17 rfl rfl ?_
    refine z_aload_n (pc' := 19) (x := 0) dX8_distanceFromMean_18 rfl rfl ?_
    refine z_iload (pc' := 21) (x := x4) dX8_distanceFromMean_19 rfl rfl ?_
    obtain ⟨d3, P3, hd3, hC3, h⟩ := h
    refine z_callV (pc' := 24) (M' := mX8_worthNow) (As := [.int x4]) dX8_distanceFromMean_21 rfl ml_X8_155 me_X8_worthNow hC3 rfl (by decide) rfl rfl hd3 (Nat.le_of_ble_eq_true rfl) ⟨Nat.le_refl _, Nat.le_refl _⟩ rfl ?_
    rintro _ _ ⟨y3, I3, L3, rfl, rfl, hP3⟩
    replace h := h y3 I3 L3 hP3
    refine z_ladd (pc' := 25) dX8_distanceFromMean_24 rfl ?_
    refine z_lstore_n (pc' := 26) (ls' := [some (.ref 0), some (.int x1), some (.long (x2 + y3)), none, some (.int x4)]) dX8_distanceFromMean_25 rfl (by decide) rfl ?_
    refine z_iinc (pc' := 29) (x := x4) (v := (x4 + (1 : Int32))) (ls' := [some (.ref 0), some (.int x1), some (.long (x2 + y3)), none, some (.int (x4 + (1 : Int32)))]) dX8_distanceFromMean_26 rfl rfl (by rfl) (by decide) rfl ?_
    refine z_goto (pc' := 5) dX8_distanceFromMean_29 (by decide) ?_
    exact h
set_option maxHeartbeats 4000000 in
set_option maxRecDepth 100000 in
theorem t_X8_wantedWay {l : Launch} {G : zG} {d : Nat} {P : Int32 → zIM → zLM → Prop} {I : zIM} {L : zLM} {x1 : Int32}  (h : ∃ j1 : Nat, x1 = nI j1 ∧ j1 < 4 ∧ (∃ (d2 : Nat) (P2 : zIM → zLM → Prop), d2 + 1 ≤ d ∧ zCv l G d2 mX4_solve [.ref 14] I L P2 ∧ ∀ (I2 : zIM) (L2 : zLM), P2 I2 L2 → (∃ (d3 : Nat) (P3 : Int64 → zIM → zLM → Prop), d3 + 1 ≤ d ∧ zCl l G d3 mX8_worthNow [.ref 0, .int x1] I2 L2 P3 ∧ ∀ (y3 : Int64) (I3 : zIM) (L3 : zLM), P3 y3 I3 L3 → (K_X8_wantedWay_29 l G d P I3 L3 x1 (I 3 j1) y3 (I 3 j1) (0 : Int32))))) : zCi l G d mX8_wantedWay [.ref 0, .int x1] I L P := by
  refine zCn.of (ls := [some (.ref 0), some (.int x1), none, none, none, none, none, none, none]) (by decide) (Nat.le_of_ble_eq_true rfl) rfl ?_
  refine z_aload_n (pc' := 1) (x := 0) dX8_wantedWay_0 rfl rfl ?_
  refine z_getr (pc' := 4) (x := 1) dX8_wantedWay_1 rfl fl_X8_10 rfl rfl rfl ?_
  refine z_getr (pc' := 7) (x := 3) dX8_wantedWay_4 rfl fl_X8_200 rfl rfl rfl ?_
  refine z_iload_n (pc' := 8) (x := x1) dX8_wantedWay_7 rfl rfl ?_
  obtain ⟨j1, ha1, hb1, h⟩ := h
  refine z_iald (pc' := 9) (x := (I 3 j1)) (j := j1) dX8_wantedWay_8 rfl rfl (by decide) ha1 hb1 rfl ?_
  refine z_istore_n (pc' := 10) (ls' := [some (.ref 0), some (.int x1), some (.int (I 3 j1)), none, none, none, none, none, none]) dX8_wantedWay_9 rfl (by decide) rfl ?_
  refine z_aload_n (pc' := 11) (x := 0) dX8_wantedWay_10 rfl rfl ?_
  refine z_getr (pc' := 14) (x := 14) dX8_wantedWay_11 rfl fl_X8_28 rfl rfl rfl ?_
  obtain ⟨d2, P2, hd2, hC2, h⟩ := h
  refine z_callV (pc' := 17) (M' := mX4_solve) (As := []) dX8_wantedWay_14 rfl ml_X8_152 me_X4_solve hC2 rfl (by decide) rfl rfl hd2 (Nat.le_of_ble_eq_true rfl) ⟨Nat.le_refl _, Nat.le_refl _⟩ rfl ?_
  rintro _ _ ⟨I2, L2, rfl, rfl, hP2⟩
  replace h := h I2 L2 hP2
  refine z_aload_n (pc' := 18) (x := 0) dX8_wantedWay_17 rfl rfl ?_
  refine z_iload_n (pc' := 19) (x := x1) dX8_wantedWay_18 rfl rfl ?_
  obtain ⟨d3, P3, hd3, hC3, h⟩ := h
  refine z_callV (pc' := 22) (M' := mX8_worthNow) (As := [.int x1]) dX8_wantedWay_19 rfl ml_X8_155 me_X8_worthNow hC3 rfl (by decide) rfl rfl hd3 (Nat.le_of_ble_eq_true rfl) ⟨Nat.le_refl _, Nat.le_refl _⟩ rfl ?_
  rintro _ _ ⟨y3, I3, L3, rfl, rfl, hP3⟩
  replace h := h y3 I3 L3 hP3
  refine z_lstore_n (pc' := 23) (ls' := [some (.ref 0), some (.int x1), some (.int (I 3 j1)), some (.long y3), none, none, none, none, none]) dX8_wantedWay_22 rfl (by decide) rfl ?_
  refine z_iload_n (pc' := 24) (x := (I 3 j1)) dX8_wantedWay_23 rfl rfl ?_
  refine z_istore (pc' := 26) (ls' := [some (.ref 0), some (.int x1), some (.int (I 3 j1)), some (.long y3), none, some (.int (I 3 j1)), none, none, none]) dX8_wantedWay_24 rfl (by decide) rfl ?_
  refine z_iconst (pc' := 27) (v := 0) dX8_wantedWay_26 rfl (by decide) ?_
  refine z_istore (pc' := 29) (ls' := [some (.ref 0), some (.int x1), some (.int (I 3 j1)), some (.long y3), none, some (.int (I 3 j1)), some (.int (0 : Int32)), none, none]) dX8_wantedWay_27 rfl (by decide) rfl ?_
  exact h
set_option maxHeartbeats 4000000 in
set_option maxRecDepth 100000 in
theorem t_X8_wantedWay_29 {l : Launch} {G : zG} {d : Nat} {P : Int32 → zIM → zLM → Prop} {I : zIM} {L : zLM} {x1 : Int32} {x2 : Int32} {x3 : Int64} {x5 : Int32} {x6 : Int32}   (h : (((6 : Int32) ≤ x6 → (∃ j2 : Nat, x1 = nI j2 ∧ j2 < 4 ∧ (P x5 (xI I 3 j2 x2) L))) ∧ (¬ (6 : Int32) ≤ x6 → (∃ j3 : Nat, x1 = nI j3 ∧ j3 < 4 ∧ (∃ (d4 : Nat) (P4 : zIM → zLM → Prop), d4 + 1 ≤ d ∧ zCv l G d4 mX4_solve [.ref 14] (xI I 3 j3 x6) L P4 ∧ ∀ (I4 : zIM) (L4 : zLM), P4 I4 L4 → (∃ (d5 : Nat) (P5 : Int64 → zIM → zLM → Prop), d5 + 1 ≤ d ∧ zCl l G d5 mX8_worthNow [.ref 0, .int x1] I4 L4 P5 ∧ ∀ (y5 : Int64) (I5 : zIM) (L5 : zLM), P5 y5 I5 L5 → (((y5 ≤ x3 → (K_X8_wantedWay_29 l G d P I5 L5 x1 x2 x3 x5 (x6 + (1 : Int32)))) ∧ (¬ y5 ≤ x3 → (K_X8_wantedWay_29 l G d P I5 L5 x1 x2 y5 x6 (x6 + (1 : Int32)))))))))))) : K_X8_wantedWay_29 l G d P I L x1 x2 x3 x5 x6  := by
  refine z_iload (pc' := 31) (x := x6) dX8_wantedWay_29 rfl rfl ?_
  refine z_bipush (pc' := 33) (v := 6) dX8_wantedWay_31 rfl (by decide) ?_
  refine z_icmp_ge (pc' := 36) (tgt := 81) dX8_wantedWay_33 rfl (by decide) (fun c1 => ?_) (fun c1 => ?_)
  · replace h := h.1 c1
    refine z_aload_n (pc' := 82) (x := 0) dX8_wantedWay_81 rfl rfl ?_
    refine z_getr (pc' := 85) (x := 1) dX8_wantedWay_82 rfl fl_X8_10 rfl rfl rfl ?_
    refine z_getr (pc' := 88) (x := 3) dX8_wantedWay_85 rfl fl_X8_200 rfl rfl rfl ?_
    refine z_iload_n (pc' := 89) (x := x1) dX8_wantedWay_88 rfl rfl ?_
    refine z_iload_n (pc' := 90) (x := x2) dX8_wantedWay_89 rfl rfl ?_
    obtain ⟨j2, ha2, hb2, h⟩ := h
    refine z_iast (pc' := 91) (j := j2) (w' := zs (xI I 3 j2 x2) L) dX8_wantedWay_90 rfl rfl (by decide) ha2 hb2 rfl ?_
    refine z_iload (pc' := 93) (x := x5) dX8_wantedWay_91 rfl rfl ?_
    exact z_iret dX8_wantedWay_93 rfl rfl ⟨Nat.le_refl _, Nat.le_refl _⟩ ⟨_, _, _, rfl, rfl, h⟩
  · replace h := h.2 c1
    refine z_aload_n (pc' := 37) (x := 0) dX8_wantedWay_36 rfl rfl ?_
    refine z_getr (pc' := 40) (x := 1) dX8_wantedWay_37 rfl fl_X8_10 rfl rfl rfl ?_
    refine z_getr (pc' := 43) (x := 3) dX8_wantedWay_40 rfl fl_X8_200 rfl rfl rfl ?_
    refine z_iload_n (pc' := 44) (x := x1) dX8_wantedWay_43 rfl rfl ?_
    refine z_iload (pc' := 46) (x := x6) dX8_wantedWay_44 rfl rfl ?_
    obtain ⟨j3, ha3, hb3, h⟩ := h
    refine z_iast (pc' := 47) (j := j3) (w' := zs (xI I 3 j3 x6) L) dX8_wantedWay_46 rfl rfl (by decide) ha3 hb3 rfl ?_
    refine z_aload_n (pc' := 48) (x := 0) dX8_wantedWay_47 rfl rfl ?_
    refine z_getr (pc' := 51) (x := 14) dX8_wantedWay_48 rfl fl_X8_28 rfl rfl rfl ?_
    obtain ⟨d4, P4, hd4, hC4, h⟩ := h
    refine z_callV (pc' := 54) (M' := mX4_solve) (As := []) dX8_wantedWay_51 rfl ml_X8_152 me_X4_solve hC4 rfl (by decide) rfl rfl hd4 (Nat.le_of_ble_eq_true rfl) ⟨Nat.le_refl _, Nat.le_refl _⟩ rfl ?_
    rintro _ _ ⟨I4, L4, rfl, rfl, hP4⟩
    replace h := h I4 L4 hP4
    refine z_aload_n (pc' := 55) (x := 0) dX8_wantedWay_54 rfl rfl ?_
    refine z_iload_n (pc' := 56) (x := x1) dX8_wantedWay_55 rfl rfl ?_
    obtain ⟨d5, P5, hd5, hC5, h⟩ := h
    refine z_callV (pc' := 59) (M' := mX8_worthNow) (As := [.int x1]) dX8_wantedWay_56 rfl ml_X8_155 me_X8_worthNow hC5 rfl (by decide) rfl rfl hd5 (Nat.le_of_ble_eq_true rfl) ⟨Nat.le_refl _, Nat.le_refl _⟩ rfl ?_
    rintro _ _ ⟨y5, I5, L5, rfl, rfl, hP5⟩
    replace h := h y5 I5 L5 hP5
    refine z_lstore (pc' := 61) (ls' := [some (.ref 0), some (.int x1), some (.int x2), some (.long x3), none, some (.int x5), some (.int x6), some (.long y5), none]) dX8_wantedWay_59 rfl (by decide) rfl ?_
    refine z_lload (pc' := 63) (x := y5) dX8_wantedWay_61 rfl rfl ?_
    refine z_lload_n (pc' := 64) (x := x3) dX8_wantedWay_63 rfl rfl ?_
    refine z_lc_le (pc' := 68) (tgt := 75) dX8_wantedWay_64 dX8_wantedWay_65 rfl (by decide) (fun c6 => ?_) (fun c6 => ?_)
    · replace h := h.1 c6
      refine z_iinc (pc' := 78) (x := x6) (v := (x6 + (1 : Int32))) (ls' := [some (.ref 0), some (.int x1), some (.int x2), some (.long x3), none, some (.int x5), some (.int (x6 + (1 : Int32))), some (.long y5), none]) dX8_wantedWay_75 rfl rfl (by rfl) (by decide) rfl ?_
      refine z_goto (pc' := 29) dX8_wantedWay_78 (by decide) ?_
      refine z_sub (pc' := 0) [some (.ref 0), some (.int x1), some (.int x2), some (.long x3), none, some (.int x5), some (.int (x6 + (1 : Int32))), none, none] (zsub_s (zsub_s (zsub_s (zsub_s (zsub_n (zsub_s (zsub_s (zsub_n (zsub_n zsub_nil))))))))) ?_
      exact h
    · replace h := h.2 c6
      refine z_lload (pc' := 70) (x := y5) dX8_wantedWay_68 rfl rfl ?_
      refine z_lstore_n (pc' := 71) (ls' := [some (.ref 0), some (.int x1), some (.int x2), some (.long y5), none, some (.int x5), some (.int x6), some (.long y5), none]) dX8_wantedWay_70 rfl (by decide) rfl ?_
      refine z_iload (pc' := 73) (x := x6) dX8_wantedWay_71 rfl rfl ?_
      refine z_istore (pc' := 75) (ls' := [some (.ref 0), some (.int x1), some (.int x2), some (.long y5), none, some (.int x6), some (.int x6), some (.long y5), none]) dX8_wantedWay_73 rfl (by decide) rfl ?_
      refine z_iinc (pc' := 78) (x := x6) (v := (x6 + (1 : Int32))) (ls' := [some (.ref 0), some (.int x1), some (.int x2), some (.long y5), none, some (.int x6), some (.int (x6 + (1 : Int32))), some (.long y5), none]) dX8_wantedWay_75 rfl rfl (by rfl) (by decide) rfl ?_
      refine z_goto (pc' := 29) dX8_wantedWay_78 (by decide) ?_
      refine z_sub (pc' := 0) [some (.ref 0), some (.int x1), some (.int x2), some (.long y5), none, some (.int x6), some (.int (x6 + (1 : Int32))), none, none] (zsub_s (zsub_s (zsub_s (zsub_s (zsub_n (zsub_s (zsub_s (zsub_n (zsub_n zsub_nil))))))))) ?_
      exact h
set_option maxHeartbeats 4000000 in
set_option maxRecDepth 100000 in
theorem t_X8_firstMove {l : Launch} {G : zG} {d : Nat} {P : Int32 → zIM → zLM → Prop} {I : zIM} {L : zLM}   (h : K_X8_firstMove_2 l G d P I L (0 : Int32)) : zCi l G d mX8_firstMove [.ref 0] I L P := by
  refine zCn.of (ls := [some (.ref 0), none, none]) (by decide) (Nat.le_of_ble_eq_true rfl) rfl ?_
  refine z_iconst (pc' := 1) (v := 0) dX8_firstMove_0 rfl (by decide) ?_
  refine z_istore_n (pc' := 2) (ls' := [some (.ref 0), some (.int (0 : Int32)), none]) dX8_firstMove_1 rfl (by decide) rfl ?_
  exact h
set_option maxHeartbeats 4000000 in
set_option maxRecDepth 100000 in
theorem t_X8_firstMove_2 {l : Launch} {G : zG} {d : Nat} {P : Int32 → zIM → zLM → Prop} {I : zIM} {L : zLM} {x1 : Int32}   (h : (((I 1 6) ≤ x1 → (P (-2 : Int32) I L)) ∧ (¬ (I 1 6) ≤ x1 → (∃ (d2 : Nat) (P2 : Int32 → zIM → zLM → Prop), d2 + 1 ≤ d ∧ zCi l G d2 mX8_wantedWay [.ref 0, .int x1] I L P2 ∧ ∀ (y2 : Int32) (I2 : zIM) (L2 : zLM), P2 y2 I2 L2 → (∃ j3 : Nat, x1 = nI j3 ∧ j3 < 4 ∧ (((y2 = (I2 3 j3) → (K_X8_firstMove_2 l G d P I2 L2 (x1 + (1 : Int32)))) ∧ (¬ y2 = (I2 3 j3) → (P ((x1 * (6 : Int32)) + y2) I2 L2))))))))) : K_X8_firstMove_2 l G d P I L x1  := by
  refine z_iload_n (pc' := 3) (x := x1) dX8_firstMove_2 rfl rfl ?_
  refine z_aload_n (pc' := 4) (x := 0) dX8_firstMove_3 rfl rfl ?_
  refine z_getr (pc' := 7) (x := 1) dX8_firstMove_4 rfl fl_X8_10 rfl rfl rfl ?_
  refine z_geti (pc' := 10) (x := (I 1 6)) dX8_firstMove_7 rfl fl_X8_79 rfl rfl rfl ?_
  refine z_icmp_ge (pc' := 13) (tgt := 45) dX8_firstMove_10 rfl (by decide) (fun c1 => ?_) (fun c1 => ?_)
  · replace h := h.1 c1
    refine z_bipush (pc' := 47) (v := -2) dX8_firstMove_45 rfl (by decide) ?_
    exact z_iret dX8_firstMove_47 rfl rfl ⟨Nat.le_refl _, Nat.le_refl _⟩ ⟨_, _, _, rfl, rfl, h⟩
  · replace h := h.2 c1
    refine z_aload_n (pc' := 14) (x := 0) dX8_firstMove_13 rfl rfl ?_
    refine z_iload_n (pc' := 15) (x := x1) dX8_firstMove_14 rfl rfl ?_
    obtain ⟨d2, P2, hd2, hC2, h⟩ := h
    refine z_callV (pc' := 18) (M' := mX8_wantedWay) (As := [.int x1]) dX8_firstMove_15 rfl ml_X8_194 me_X8_wantedWay hC2 rfl (by decide) rfl rfl hd2 (Nat.le_of_ble_eq_true rfl) ⟨Nat.le_refl _, Nat.le_refl _⟩ rfl ?_
    rintro _ _ ⟨y2, I2, L2, rfl, rfl, hP2⟩
    replace h := h y2 I2 L2 hP2
    refine z_istore_n (pc' := 19) (ls' := [some (.ref 0), some (.int x1), some (.int y2)]) dX8_firstMove_18 rfl (by decide) rfl ?_
    refine z_iload_n (pc' := 20) (x := y2) dX8_firstMove_19 rfl rfl ?_
    refine z_aload_n (pc' := 21) (x := 0) dX8_firstMove_20 rfl rfl ?_
    refine z_getr (pc' := 24) (x := 1) dX8_firstMove_21 rfl fl_X8_10 rfl rfl rfl ?_
    refine z_getr (pc' := 27) (x := 3) dX8_firstMove_24 rfl fl_X8_200 rfl rfl rfl ?_
    refine z_iload_n (pc' := 28) (x := x1) dX8_firstMove_27 rfl rfl ?_
    obtain ⟨j3, ha3, hb3, h⟩ := h
    refine z_iald (pc' := 29) (x := (I2 3 j3)) (j := j3) dX8_firstMove_28 rfl rfl (by decide) ha3 hb3 rfl ?_
    refine z_icmp_eq (pc' := 32) (tgt := 39) dX8_firstMove_29 rfl (by decide) (fun c4 => ?_) (fun c4 => ?_)
    · replace h := h.1 c4
      refine z_iinc (pc' := 42) (x := x1) (v := (x1 + (1 : Int32))) (ls' := [some (.ref 0), some (.int (x1 + (1 : Int32))), some (.int y2)]) dX8_firstMove_39 rfl rfl (by rfl) (by decide) rfl ?_
      refine z_goto (pc' := 2) dX8_firstMove_42 (by decide) ?_
      refine z_sub (pc' := 0) [some (.ref 0), some (.int (x1 + (1 : Int32))), none] (zsub_s (zsub_s (zsub_n zsub_nil))) ?_
      exact h
    · replace h := h.2 c4
      refine z_iload_n (pc' := 33) (x := x1) dX8_firstMove_32 rfl rfl ?_
      refine z_bipush (pc' := 35) (v := 6) dX8_firstMove_33 rfl (by decide) ?_
      refine z_imul (pc' := 36) dX8_firstMove_35 rfl ?_
      refine z_iload_n (pc' := 37) (x := y2) dX8_firstMove_36 rfl rfl ?_
      refine z_iadd (pc' := 38) dX8_firstMove_37 rfl ?_
      exact z_iret dX8_firstMove_38 rfl rfl ⟨Nat.le_refl _, Nat.le_refl _⟩ ⟨_, _, _, rfl, rfl, h⟩
set_option maxHeartbeats 4000000 in
set_option maxRecDepth 100000 in
theorem t_X8_winner {l : Launch} {G : zG} {d : Nat} {P : Int32 → zIM → zLM → Prop} {I : zIM} {L : zLM} {x1 : Int32} {x2 : Int32}  (h : ∃ (d1 : Nat) (P1 : Int32 → zIM → zLM → Prop), d1 + 1 ≤ d ∧ zCi l G d1 mX2_first [.ref 1, .int (((1 : Int32) <<< (x1 &&& 31)) ||| ((1 : Int32) <<< (x2 &&& 31)))] I L P1 ∧ ∀ (y1 : Int32) (I1 : zIM) (L1 : zLM), P1 y1 I1 L1 → (∃ (d2 : Nat) (P2 : Int64 → zIM → zLM → Prop), d2 + 1 ≤ d ∧ zCl l G d2 mX4_worthAtFirst [.ref 14, .int y1, .int (((1 : Int32) <<< (x1 &&& 31)) ||| ((1 : Int32) <<< (x2 &&& 31))), .int x1] I1 L1 P2 ∧ ∀ (y2 : Int64) (I2 : zIM) (L2 : zLM), P2 y2 I2 L2 → (∃ (d3 : Nat) (P3 : Int64 → zIM → zLM → Prop), d3 + 1 ≤ d ∧ zCl l G d3 mX4_worthAtFirst [.ref 14, .int y1, .int (((1 : Int32) <<< (x1 &&& 31)) ||| ((1 : Int32) <<< (x2 &&& 31))), .int x2] I2 L2 P3 ∧ ∀ (y3 : Int64) (I3 : zIM) (L3 : zLM), P3 y3 I3 L3 → (((y2 ≤ y3 → (((y3 ≤ y2 → (P (0 : Int32) I3 L3)) ∧ (¬ y3 ≤ y2 → (P (2 : Int32) I3 L3))))) ∧ (¬ y2 ≤ y3 → (P (1 : Int32) I3 L3))))))) : zCi l G d mX8_winner [.ref 0, .int x1, .int x2] I L P := by
  refine zCn.of (ls := [some (.ref 0), some (.int x1), some (.int x2), none, none, none, none, none, none]) (by decide) (Nat.le_of_ble_eq_true rfl) rfl ?_
  refine z_iconst (pc' := 1) (v := 1) dX8_winner_0 rfl (by decide) ?_
  refine z_iload_n (pc' := 2) (x := x1) dX8_winner_1 rfl rfl ?_
  refine z_ishl (pc' := 3) dX8_winner_2 rfl ?_
  refine z_iconst (pc' := 4) (v := 1) dX8_winner_3 rfl (by decide) ?_
  refine z_iload_n (pc' := 5) (x := x2) dX8_winner_4 rfl rfl ?_
  refine z_ishl (pc' := 6) dX8_winner_5 rfl ?_
  refine z_ior (pc' := 7) dX8_winner_6 rfl ?_
  refine z_istore_n (pc' := 8) (ls' := [some (.ref 0), some (.int x1), some (.int x2), some (.int (((1 : Int32) <<< (x1 &&& 31)) ||| ((1 : Int32) <<< (x2 &&& 31)))), none, none, none, none, none]) dX8_winner_7 rfl (by decide) rfl ?_
  refine z_aload_n (pc' := 9) (x := 0) dX8_winner_8 rfl rfl ?_
  refine z_getr (pc' := 12) (x := 1) dX8_winner_9 rfl fl_X8_10 rfl rfl rfl ?_
  refine z_iload_n (pc' := 13) (x := (((1 : Int32) <<< (x1 &&& 31)) ||| ((1 : Int32) <<< (x2 &&& 31)))) dX8_winner_12 rfl rfl ?_
  obtain ⟨d1, P1, hd1, hC1, h⟩ := h
  refine z_callV (pc' := 16) (M' := mX2_first) (As := [.int (((1 : Int32) <<< (x1 &&& 31)) ||| ((1 : Int32) <<< (x2 &&& 31)))]) dX8_winner_13 rfl ml_X8_241 me_X2_first hC1 rfl (by decide) rfl rfl hd1 (Nat.le_of_ble_eq_true rfl) ⟨Nat.le_refl _, Nat.le_refl _⟩ rfl ?_
  rintro _ _ ⟨y1, I1, L1, rfl, rfl, hP1⟩
  replace h := h y1 I1 L1 hP1
  refine z_istore (pc' := 18) (ls' := [some (.ref 0), some (.int x1), some (.int x2), some (.int (((1 : Int32) <<< (x1 &&& 31)) ||| ((1 : Int32) <<< (x2 &&& 31)))), some (.int y1), none, none, none, none]) dX8_winner_16 rfl (by decide) rfl ?_
  refine z_aload_n (pc' := 19) (x := 0) dX8_winner_18 rfl rfl ?_
  refine z_getr (pc' := 22) (x := 14) dX8_winner_19 rfl fl_X8_28 rfl rfl rfl ?_
  refine z_iload (pc' := 24) (x := y1) dX8_winner_22 rfl rfl ?_
  refine z_iload_n (pc' := 25) (x := (((1 : Int32) <<< (x1 &&& 31)) ||| ((1 : Int32) <<< (x2 &&& 31)))) dX8_winner_24 rfl rfl ?_
  refine z_iload_n (pc' := 26) (x := x1) dX8_winner_25 rfl rfl ?_
  obtain ⟨d2, P2, hd2, hC2, h⟩ := h
  refine z_callV (pc' := 29) (M' := mX4_worthAtFirst) (As := [.int y1, .int (((1 : Int32) <<< (x1 &&& 31)) ||| ((1 : Int32) <<< (x2 &&& 31))), .int x1]) dX8_winner_26 rfl ml_X8_351 me_X4_worthAtFirst hC2 rfl (by decide) rfl rfl hd2 (Nat.le_of_ble_eq_true rfl) ⟨Nat.le_refl _, Nat.le_refl _⟩ rfl ?_
  rintro _ _ ⟨y2, I2, L2, rfl, rfl, hP2⟩
  replace h := h y2 I2 L2 hP2
  refine z_lstore (pc' := 31) (ls' := [some (.ref 0), some (.int x1), some (.int x2), some (.int (((1 : Int32) <<< (x1 &&& 31)) ||| ((1 : Int32) <<< (x2 &&& 31)))), some (.int y1), some (.long y2), none, none, none]) dX8_winner_29 rfl (by decide) rfl ?_
  refine z_aload_n (pc' := 32) (x := 0) dX8_winner_31 rfl rfl ?_
  refine z_getr (pc' := 35) (x := 14) dX8_winner_32 rfl fl_X8_28 rfl rfl rfl ?_
  refine z_iload (pc' := 37) (x := y1) dX8_winner_35 rfl rfl ?_
  refine z_iload_n (pc' := 38) (x := (((1 : Int32) <<< (x1 &&& 31)) ||| ((1 : Int32) <<< (x2 &&& 31)))) dX8_winner_37 rfl rfl ?_
  refine z_iload_n (pc' := 39) (x := x2) dX8_winner_38 rfl rfl ?_
  obtain ⟨d3, P3, hd3, hC3, h⟩ := h
  refine z_callV (pc' := 42) (M' := mX4_worthAtFirst) (As := [.int y1, .int (((1 : Int32) <<< (x1 &&& 31)) ||| ((1 : Int32) <<< (x2 &&& 31))), .int x2]) dX8_winner_39 rfl ml_X8_351 me_X4_worthAtFirst hC3 rfl (by decide) rfl rfl hd3 (Nat.le_of_ble_eq_true rfl) ⟨Nat.le_refl _, Nat.le_refl _⟩ rfl ?_
  rintro _ _ ⟨y3, I3, L3, rfl, rfl, hP3⟩
  replace h := h y3 I3 L3 hP3
  refine z_lstore (pc' := 44) (ls' := [some (.ref 0), some (.int x1), some (.int x2), some (.int (((1 : Int32) <<< (x1 &&& 31)) ||| ((1 : Int32) <<< (x2 &&& 31)))), some (.int y1), some (.long y2), none, some (.long y3), none]) dX8_winner_42 rfl (by decide) rfl ?_
  refine z_lload (pc' := 46) (x := y2) dX8_winner_44 rfl rfl ?_
  refine z_lload (pc' := 48) (x := y3) dX8_winner_46 rfl rfl ?_
  refine z_lc_le (pc' := 52) (tgt := 56) dX8_winner_48 dX8_winner_49 rfl (by decide) (fun c4 => ?_) (fun c4 => ?_)
  · replace h := h.1 c4
    refine z_lload (pc' := 58) (x := y2) dX8_winner_56 rfl rfl ?_
    refine z_lload (pc' := 60) (x := y3) dX8_winner_58 rfl rfl ?_
    refine z_lc_ge (pc' := 64) (tgt := 68) dX8_winner_60 dX8_winner_61 rfl (by decide) (fun c5 => ?_) (fun c5 => ?_)
    · replace h := h.1 c5
      refine z_iconst (pc' := 69) (v := 0) dX8_winner_68 rfl (by decide) ?_
      exact z_iret dX8_winner_69 rfl rfl ⟨Nat.le_refl _, Nat.le_refl _⟩ ⟨_, _, _, rfl, rfl, h⟩
    · replace h := h.2 c5
      refine z_iconst (pc' := 65) (v := 2) dX8_winner_64 rfl (by decide) ?_
      refine z_goto (pc' := 69) dX8_winner_65 (by decide) ?_
      exact z_iret dX8_winner_69 rfl rfl ⟨Nat.le_refl _, Nat.le_refl _⟩ ⟨_, _, _, rfl, rfl, h⟩
  · replace h := h.2 c4
    refine z_iconst (pc' := 53) (v := 1) dX8_winner_52 rfl (by decide) ?_
    refine z_goto (pc' := 69) dX8_winner_53 (by decide) ?_
    exact z_iret dX8_winner_69 rfl rfl ⟨Nat.le_refl _, Nat.le_refl _⟩ ⟨_, _, _, rfl, rfl, h⟩
set_option maxHeartbeats 4000000 in
set_option maxRecDepth 100000 in
theorem t_X8_refusal {l : Launch} {G : zG} {d : Nat} {P : Int32 → zIM → zLM → Prop} {I : zIM} {L : zLM} {x1 : Int32} {x2 : Int32}  (h : ∃ (d1 : Nat) (P1 : Int32 → zIM → zLM → Prop), d1 + 1 ≤ d ∧ zCi l G d1 mX8_isWithin [.int x1, .int (5 : Int32)] I L P1 ∧ ∀ (y1 : Int32) (I1 : zIM) (L1 : zLM), P1 y1 I1 L1 → (((¬ y1 = 0 → (∃ j3 : Nat, x1 = nI j3 ∧ j3 < 6 ∧ (((¬ (I1 (31 + 2 * j3) 0) = (-2 : Int32) → (((¬ (I1 (31 + 2 * j3) 0) = (-1 : Int32) → (∃ (d6 : Nat) (P6 : Int32 → zIM → zLM → Prop), d6 + 1 ≤ d ∧ zCi l G d6 mX8_isWithin [.int x2, .int ((I1 (31 + 2 * j3) 2) - (1 : Int32))] I1 L1 P6 ∧ ∀ (y6 : Int32) (I6 : zIM) (L6 : zLM), P6 y6 I6 L6 → (((y6 = 0 → (P (-13 : Int32) I6 L6)) ∧ (¬ y6 = 0 → (P (0 : Int32) I6 L6)))))) ∧ ((I1 (31 + 2 * j3) 0) = (-1 : Int32) → (P (-12 : Int32) I1 L1))))) ∧ ((I1 (31 + 2 * j3) 0) = (-2 : Int32) → (P (-11 : Int32) I1 L1)))))) ∧ (y1 = 0 → (P (-1 : Int32) I1 L1))))) : zCi l G d mX8_refusal [.ref 0, .int x1, .int x2] I L P := by
  refine zCn.of (ls := [some (.ref 0), some (.int x1), some (.int x2), none]) (by decide) (Nat.le_of_ble_eq_true rfl) rfl ?_
  refine z_iload_n (pc' := 1) (x := x1) dX8_refusal_0 rfl rfl ?_
  refine z_iconst (pc' := 2) (v := 5) dX8_refusal_1 rfl (by decide) ?_
  obtain ⟨d1, P1, hd1, hC1, h⟩ := h
  refine z_callS (pc' := 5) (M' := mX8_isWithin) (As := [.int x1, .int (5 : Int32)]) dX8_refusal_2 rfl ml_X8_75 me_X8_isWithin hC1 rfl hd1 (Nat.le_of_ble_eq_true rfl) ⟨Nat.le_refl _, Nat.le_refl _⟩ rfl ?_
  rintro _ _ ⟨y1, I1, L1, rfl, rfl, hP1⟩
  replace h := h y1 I1 L1 hP1
  refine z_if_ne (pc' := 8) (tgt := 10) dX8_refusal_5 rfl (by decide) (fun c2 => ?_) (fun c2 => ?_)
  · replace h := h.1 c2
    refine z_aload_n (pc' := 11) (x := 0) dX8_refusal_10 rfl rfl ?_
    refine z_getr (pc' := 14) (x := 30) dX8_refusal_11 rfl fl_X8_66 rfl rfl rfl ?_
    refine z_iload_n (pc' := 15) (x := x1) dX8_refusal_14 rfl rfl ?_
    obtain ⟨j3, ha3, hb3, h⟩ := h
    refine z_aald (pc' := 16) (x := (31 + 2 * j3)) (j := j3) dX8_refusal_15 rfl rfl (by decide) ha3 hb3 (zR_sh hb3) ?_
    refine z_astore_n (pc' := 17) (ls' := [some (.ref 0), some (.int x1), some (.int x2), some (.ref (31 + 2 * j3))]) dX8_refusal_16 rfl (by decide) rfl ?_
    refine z_aload_n (pc' := 18) (x := (31 + 2 * j3)) dX8_refusal_17 rfl rfl ?_
    refine z_geti (pc' := 21) (x := (I1 (31 + 2 * j3) 0)) dX8_refusal_18 rfl fl_X8_87 (zS_sh hb3) rfl rfl ?_
    refine z_bipush (pc' := 23) (v := -2) dX8_refusal_21 rfl (by decide) ?_
    refine z_icmp_ne (pc' := 26) (tgt := 29) dX8_refusal_23 rfl (by decide) (fun c4 => ?_) (fun c4 => ?_)
    · replace h := h.1 c4
      refine z_aload_n (pc' := 30) (x := (31 + 2 * j3)) dX8_refusal_29 rfl rfl ?_
      refine z_geti (pc' := 33) (x := (I1 (31 + 2 * j3) 0)) dX8_refusal_30 rfl fl_X8_87 (zS_sh hb3) rfl rfl ?_
      refine z_iconst (pc' := 34) (v := -1) dX8_refusal_33 rfl (by decide) ?_
      refine z_icmp_ne (pc' := 37) (tgt := 40) dX8_refusal_34 rfl (by decide) (fun c5 => ?_) (fun c5 => ?_)
      · replace h := h.1 c5
        refine z_iload_n (pc' := 41) (x := x2) dX8_refusal_40 rfl rfl ?_
        refine z_aload_n (pc' := 42) (x := (31 + 2 * j3)) dX8_refusal_41 rfl rfl ?_
        refine z_geti (pc' := 45) (x := (I1 (31 + 2 * j3) 2)) dX8_refusal_42 rfl fl_X8_90 (zS_sh hb3) rfl rfl ?_
        refine z_iconst (pc' := 46) (v := 1) dX8_refusal_45 rfl (by decide) ?_
        refine z_isub (pc' := 47) dX8_refusal_46 rfl ?_
        obtain ⟨d6, P6, hd6, hC6, h⟩ := h
        refine z_callS (pc' := 50) (M' := mX8_isWithin) (As := [.int x2, .int ((I1 (31 + 2 * j3) 2) - (1 : Int32))]) dX8_refusal_47 rfl ml_X8_75 me_X8_isWithin hC6 rfl hd6 (Nat.le_of_ble_eq_true rfl) ⟨Nat.le_refl _, Nat.le_refl _⟩ rfl ?_
        rintro _ _ ⟨y6, I6, L6, rfl, rfl, hP6⟩
        replace h := h y6 I6 L6 hP6
        refine z_if_eq (pc' := 53) (tgt := 57) dX8_refusal_50 rfl (by decide) (fun c7 => ?_) (fun c7 => ?_)
        · replace h := h.1 c7
          refine z_bipush (pc' := 59) (v := -13) dX8_refusal_57 rfl (by decide) ?_
          exact z_iret dX8_refusal_59 rfl rfl ⟨Nat.le_refl _, Nat.le_refl _⟩ ⟨_, _, _, rfl, rfl, h⟩
        · replace h := h.2 c7
          refine z_iconst (pc' := 54) (v := 0) dX8_refusal_53 rfl (by decide) ?_
          refine z_goto (pc' := 59) dX8_refusal_54 (by decide) ?_
          exact z_iret dX8_refusal_59 rfl rfl ⟨Nat.le_refl _, Nat.le_refl _⟩ ⟨_, _, _, rfl, rfl, h⟩
      · replace h := h.2 c5
        refine z_bipush (pc' := 39) (v := -12) dX8_refusal_37 rfl (by decide) ?_
        exact z_iret dX8_refusal_39 rfl rfl ⟨Nat.le_refl _, Nat.le_refl _⟩ ⟨_, _, _, rfl, rfl, h⟩
    · replace h := h.2 c4
      refine z_bipush (pc' := 28) (v := -11) dX8_refusal_26 rfl (by decide) ?_
      exact z_iret dX8_refusal_28 rfl rfl ⟨Nat.le_refl _, Nat.le_refl _⟩ ⟨_, _, _, rfl, rfl, h⟩
  · replace h := h.2 c2
    refine z_iconst (pc' := 9) (v := -1) dX8_refusal_8 rfl (by decide) ?_
    exact z_iret dX8_refusal_9 rfl rfl ⟨Nat.le_refl _, Nat.le_refl _⟩ ⟨_, _, _, rfl, rfl, h⟩
