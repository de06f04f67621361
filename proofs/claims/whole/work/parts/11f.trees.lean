/-! ===== trees (written by wip/whole/gen/emit.py) ===== -/
abbrev K_X9_common_6 (l : Launch) (G : zG) (d : Nat) (P : Int64 → zIM → zLM → Prop) (I : zIM) (L : zLM) (x4 : Int64) (x6 : Int64) : Prop := zWp (zXl2 l G d P) mX9_common (0, 0) 6 [none, none, none, none, some (.long x4), none, some (.long x6), none, none, none] [] (zs I L)
abbrev K_X9_begin_18 (l : Launch) (G : zG) (d : Nat) (P : Int32 → zIM → zLM → Prop) (I : zIM) (L : zLM) (x1 : Int32) (x2 : Int32) (x3 : Int32) : Prop := zWp (zXi l G d P) mX9_begin (0, 0) 18 [some (.ref 44), some (.int x1), some (.int x2), some (.int x3)] [] (zs I L)
abbrev K_X9_fair_21 (l : Launch) (G : zG) (d : Nat) (P : Int32 → zIM → zLM → Prop) (I : zIM) (L : zLM) (x1 : Int32) (x2 : Int64) (x4 : Int32) : Prop := zWp (zXi l G d P) mX9_fair (0, 0) 21 [some (.ref 44), some (.int x1), some (.long x2), none, some (.int x4), none, none, none, none, none, none, none] [] (zs I L)
abbrev K_X9_fair_50 (l : Launch) (G : zG) (d : Nat) (P : Int32 → zIM → zLM → Prop) (I : zIM) (L : zLM) (x1 : Int32) (x2 : Int64) (x4 : Int32) (x5 : Int64) (x7 : Int64) (x9 : Int32) : Prop := zWp (zXi l G d P) mX9_fair (0, 0) 50 [some (.ref 44), some (.int x1), some (.long x2), none, some (.int x4), some (.long x5), none, some (.long x7), none, some (.int x9), none, none] [] (zs I L)
abbrev K_X9_wouldOf_21 (l : Launch) (G : zG) (d : Nat) (P : Int32 → zIM → zLM → Prop) (I : zIM) (L : zLM) (x1 : Int32) (x2 : Int32) (x3 : Int64) (x5 : Int32) (x6 : Int32) : Prop := zWp (zXi l G d P) mX9_wouldOf (0, 0) 21 [some (.ref 44), some (.int x1), some (.int x2), some (.long x3), none, some (.int x5), some (.int x6), none, none] [] (zs I L)
abbrev K_X9_rest_2 (l : Launch) (G : zG) (d : Nat) (P : Int32 → zIM → zLM → Prop) (I : zIM) (L : zLM) (x1 : Int32) : Prop := zWp (zXi l G d P) mX9_rest (0, 0) 2 [some (.ref 44), some (.int x1)] [] (zs I L)
abbrev K_X9_settle_17 (l : Launch) (G : zG) (d : Nat) (P : Int32 → zIM → zLM → Prop) (I : zIM) (L : zLM) (x1 : Int32) (x2 : Int32) : Prop := zWp (zXi l G d P) mX9_settle (0, 0) 17 [some (.ref 44), some (.int x1), some (.int x2), none, none, none] [] (zs I L)
abbrev K_X9_settle_52 (l : Launch) (G : zG) (d : Nat) (P : Int32 → zIM → zLM → Prop) (I : zIM) (L : zLM) (x1 : Int32) (x2 : Int32) (x3 : Int32) : Prop := zWp (zXi l G d P) mX9_settle (0, 0) 52 [some (.ref 44), some (.int x1), some (.int x2), some (.int x3), none, none] [] (zs I L)
abbrev K_X9_settle_108 (l : Launch) (G : zG) (d : Nat) (P : Int32 → zIM → zLM → Prop) (I : zIM) (L : zLM) (x3 : Int32) (x4 : Int32) (x5 : Int32) : Prop := zWp (zXi l G d P) mX9_settle (0, 0) 108 [some (.ref 44), none, none, some (.int x3), some (.int x4), some (.int x5)] [] (zs I L)
abbrev K_X9_even_25 (l : Launch) (G : zG) (d : Nat) (P : Int32 → zIM → zLM → Prop) (I : zIM) (L : zLM) (x1 : Int32) (x2 : Int32) (x3 : Int32) (x4 : Int64) (x6 : Int32) : Prop := zWp (zXi l G d P) mX9_even (0, 0) 25 [some (.ref 44), some (.int x1), some (.int x2), some (.int x3), some (.long x4), none, some (.int x6), none, none, none] [] (zs I L)
abbrev K_X9_even_65 (l : Launch) (G : zG) (d : Nat) (P : Int32 → zIM → zLM → Prop) (I : zIM) (L : zLM) (x1 : Int32) (x2 : Int32) (x3 : Int32) (x4 : Int64) (x6 : Int32) (x7 : Int64) (x9 : Int32) : Prop := zWp (zXi l G d P) mX9_even (0, 0) 65 [some (.ref 44), some (.int x1), some (.int x2), some (.int x3), some (.long x4), none, some (.int x6), some (.long x7), none, some (.int x9)] [] (zs I L)
abbrev K_X9_points_14 (l : Launch) (G : zG) (d : Nat) (P : Int32 → zIM → zLM → Prop) (I : zIM) (L : zLM) (x1 : Int32) (x2 : Int32) (x3 : Int32) : Prop := zWp (zXi l G d P) mX9_points (0, 0) 14 [some (.ref 44), some (.int x1), some (.int x2), some (.int x3), none] [] (zs I L)
abbrev K_X9_mayThrow_19 (l : Launch) (G : zG) (d : Nat) (P : Int32 → zIM → zLM → Prop) (I : zIM) (L : zLM)  : Prop := zWp (zXi l G d P) mX9_mayThrow (0, 0) 19 [none, none, none, none, none, none, none, none, none] [] (zs I L)
abbrev K_X9_mayThrow_77 (l : Launch) (G : zG) (d : Nat) (P : Int32 → zIM → zLM → Prop) (I : zIM) (L : zLM)  : Prop := zWp (zXi l G d P) mX9_mayThrow (0, 0) 77 [none, none, none, none, none, none, none, none, none] [] (zs I L)
abbrev K_X9_mayThrow_126 (l : Launch) (G : zG) (d : Nat) (P : Int32 → zIM → zLM → Prop) (I : zIM) (L : zLM) (s0 : Int32) : Prop := zWp (zXi l G d P) mX9_mayThrow (0, 0) 126 [none, none, none, none, none, none, none, none, none] [.int s0] (zs I L)
abbrev K_X9_mayThrow_42 (l : Launch) (G : zG) (d : Nat) (P : Int32 → zIM → zLM → Prop) (I : zIM) (L : zLM) (s0 : Int32) : Prop := zWp (zXi l G d P) mX9_mayThrow (0, 0) 42 [none, none, none, none, none, none, none, none, none] [.int s0] (zs I L)
abbrev K_X9_looksAt_52 (l : Launch) (G : zG) (d : Nat) (P : zIM → zLM → Prop) (I : zIM) (L : zLM) (x1 : Int32) (x2 : Int32) (x3 : Int32) (x4 : Int32) : Prop := zWp (zXv l G d P) mX9_looksAt (0, 0) 52 [some (.ref 44), some (.int x1), some (.int x2), some (.int x3), some (.int x4), none, none, none, none, none, none] [] (zs I L)
abbrev K_X9_looksAt_298 (l : Launch) (G : zG) (d : Nat) (P : zIM → zLM → Prop) (I : zIM) (L : zLM) (x1 : Int32) (x2 : Int32) (x3 : Int32) (x4 : Int32) : Prop := zWp (zXv l G d P) mX9_looksAt (0, 0) 298 [some (.ref 44), some (.int x1), some (.int x2), some (.int x3), some (.int x4), none, none, none, none, none, none] [] (zs I L)
abbrev K_X9_looksAt_202 (l : Launch) (G : zG) (d : Nat) (P : zIM → zLM → Prop) (I : zIM) (L : zLM) (x1 : Int32) (x2 : Int32) (x3 : Int32) (x4 : Int32) (x5 : Int64) (x8 : Int64) (s1 : Int32) : Prop := zWp (zXv l G d P) mX9_looksAt (0, 0) 202 [some (.ref 44), some (.int x1), some (.int x2), some (.int x3), some (.int x4), some (.long x5), none, none, some (.long x8), none, none] [.int s1, .ref 44] (zs I L)
abbrev K_X9_looksAt_270 (l : Launch) (G : zG) (d : Nat) (P : zIM → zLM → Prop) (I : zIM) (L : zLM) (x1 : Int32) (x2 : Int32) (x3 : Int32) (x4 : Int32) (x5 : Int64) (x8 : Int64) : Prop := zWp (zXv l G d P) mX9_looksAt (0, 0) 270 [some (.ref 44), some (.int x1), some (.int x2), some (.int x3), some (.int x4), some (.long x5), none, none, some (.long x8), none, none] [] (zs I L)
abbrev K_X9_looksAt_254 (l : Launch) (G : zG) (d : Nat) (P : zIM → zLM → Prop) (I : zIM) (L : zLM) (x1 : Int32) (x2 : Int32) (x3 : Int32) (x4 : Int32) (x5 : Int64) (x8 : Int64) (s1 : Int64) (s2 : Int64) : Prop := zWp (zXv l G d P) mX9_looksAt (0, 0) 254 [some (.ref 44), some (.int x1), some (.int x2), some (.int x3), some (.int x4), some (.long x5), none, none, some (.long x8), none, none] [.long s2, .long s1, .ref 44] (zs I L)
abbrev K_X9_looksAt_290 (l : Launch) (G : zG) (d : Nat) (P : zIM → zLM → Prop) (I : zIM) (L : zLM) (x1 : Int32) (x3 : Int32) (x4 : Int32) (s0 : Int32) : Prop := zWp (zXv l G d P) mX9_looksAt (0, 0) 290 [some (.ref 44), some (.int x1), none, some (.int x3), some (.int x4), none, none, none, none, none, none] [.int s0] (zs I L)
abbrev K_X9_seen_35 (l : Launch) (G : zG) (d : Nat) (P : Int32 → zIM → zLM → Prop) (I : zIM) (L : zLM) (x1 : Int32) (x2 : Int32) (x3 : Int32) (x4 : Int64) (x6 : Int32) : Prop := zWp (zXi l G d P) mX9_seen (0, 0) 35 [none, some (.int x1), some (.int x2), some (.int x3), some (.long x4), none, some (.int x6), none, none, none] [] (zs I L)
abbrev K_X9_seen_48 (l : Launch) (G : zG) (d : Nat) (P : Int32 → zIM → zLM → Prop) (I : zIM) (L : zLM) (x1 : Int32) (x2 : Int32) (x3 : Int32) (x4 : Int64) (x6 : Int32) (x7 : Int64) (x9 : Int32) : Prop := zWp (zXi l G d P) mX9_seen (0, 0) 48 [none, some (.int x1), some (.int x2), some (.int x3), some (.long x4), none, some (.int x6), some (.long x7), none, some (.int x9)] [] (zs I L)
abbrev K_X9_drawn_35 (l : Launch) (G : zG) (d : Nat) (P : Int32 → zIM → zLM → Prop) (I : zIM) (L : zLM) (x2 : Int32) (x3 : Int32) (x4 : Int32) (x5 : Int32) (x6 : Int32) : Prop := zWp (zXi l G d P) mX9_drawn (0, 0) 35 [some (.ref 44), none, some (.int x2), some (.int x3), some (.int x4), some (.int x5), some (.int x6), none, none, none, none] [] (zs I L)
abbrev K_X9_drawn_58 (l : Launch) (G : zG) (d : Nat) (P : Int32 → zIM → zLM → Prop) (I : zIM) (L : zLM) (x2 : Int32) (x3 : Int32) (x4 : Int32) (x5 : Int32) (x6 : Int32) (x7 : Int32) (x8 : Int32) (x9 : Int32) : Prop := zWp (zXi l G d P) mX9_drawn (0, 0) 58 [some (.ref 44), none, some (.int x2), some (.int x3), some (.int x4), some (.int x5), some (.int x6), some (.int x7), some (.int x8), some (.int x9), none] [] (zs I L)
abbrev K_X9_row_57 (l : Launch) (G : zG) (d : Nat) (P : Int32 → zIM → zLM → Prop) (I : zIM) (L : zLM) (x1 : Int32) (x4 : Int32) : Prop := zWp (zXi l G d P) mX9_row (0, 0) 57 [some (.ref 44), some (.int x1), none, none, some (.int x4)] [] (zs I L)
abbrev K_X9_shift_14 (l : Launch) (G : zG) (d : Nat) (P : Int32 → zIM → zLM → Prop) (I : zIM) (L : zLM)  : Prop := zWp (zXi l G d P) mX9_shift (0, 0) 14 [none, none, none, none, none, none, none] [] (zs I L)
abbrev K_X9_shift_34 (l : Launch) (G : zG) (d : Nat) (P : Int32 → zIM → zLM → Prop) (I : zIM) (L : zLM)  : Prop := zWp (zXi l G d P) mX9_shift (0, 0) 34 [none, none, none, none, none, none, none] [] (zs I L)
abbrev K_X9_shift_63 (l : Launch) (G : zG) (d : Nat) (P : Int32 → zIM → zLM → Prop) (I : zIM) (L : zLM)  : Prop := zWp (zXi l G d P) mX9_shift (0, 0) 63 [none, none, none, none, none, none, none] [] (zs I L)
abbrev K_X9_shift_107 (l : Launch) (G : zG) (d : Nat) (P : Int32 → zIM → zLM → Prop) (I : zIM) (L : zLM)  : Prop := zWp (zXi l G d P) mX9_shift (0, 0) 107 [none, none, none, none, none, none, none] [] (zs I L)
abbrev K_X9_shift_113 (l : Launch) (G : zG) (d : Nat) (P : Int32 → zIM → zLM → Prop) (I : zIM) (L : zLM) (x1 : Int32) (x2 : Int32) (x3 : Int32) (x4 : Int32) (x5 : Int32) (x6 : Int32) : Prop := zWp (zXi l G d P) mX9_shift (0, 0) 113 [some (.ref 44), some (.int x1), some (.int x2), some (.int x3), some (.int x4), some (.int x5), some (.int x6)] [] (zs I L)
abbrev K_X9_shift_150 (l : Launch) (G : zG) (d : Nat) (P : Int32 → zIM → zLM → Prop) (I : zIM) (L : zLM) (x3 : Int32) (x4 : Int32) (x5 : Int32) (x6 : Int32) : Prop := zWp (zXi l G d P) mX9_shift (0, 0) 150 [some (.ref 44), none, none, some (.int x3), some (.int x4), some (.int x5), some (.int x6)] [] (zs I L)
abbrev K_X9_taken_58 (l : Launch) (G : zG) (d : Nat) (P : Int32 → zIM → zLM → Prop) (I : zIM) (L : zLM) (x1 : Int32) (x2 : Int32) (x3 : Int32) : Prop := zWp (zXi l G d P) mX9_taken (0, 0) 58 [some (.ref 44), some (.int x1), some (.int x2), some (.int x3)] [] (zs I L)
set_option maxHeartbeats 4000000 in
set_option maxRecDepth 100000 in
theorem t_X9_common {l : Launch} {G : zG} {d : Nat} {P : Int64 → zIM → zLM → Prop} {I : zIM} {L : zLM} {x0 : Int64} {x2 : Int64}  (h : K_X9_common_6 l G d P I L x0 x2) : zCl l G d mX9_common [.long x0, .long x2] I L P := by
  refine zCn.of (ls := [some (.long x0), none, some (.long x2), none, none, none, none, none, none, none]) (by decide) (Nat.le_of_ble_eq_true rfl) rfl ?_
  refine z_lload_n (pc' := 1) (x := x0) dX9_common_0 rfl rfl ?_
  refine z_lstore (pc' := 3) (ls' := [some (.long x0), none, some (.long x2), none, some (.long x0), none, none, none, none, none]) dX9_common_1 rfl (by decide) rfl ?_
  refine z_lload_n (pc' := 4) (x := x2) dX9_common_3 rfl rfl ?_
  refine z_lstore (pc' := 6) (ls' := [some (.long x0), none, some (.long x2), none, some (.long x0), none, some (.long x2), none, none, none]) dX9_common_4 rfl (by decide) rfl ?_
  refine z_sub (pc' := 0) [none, none, none, none, some (.long x0), none, some (.long x2), none, none, none] (zsub_n (zsub_n (zsub_n (zsub_n (zsub_s (zsub_n (zsub_s (zsub_n (zsub_n (zsub_n zsub_nil)))))))))) ?_
  exact h
set_option maxHeartbeats 4000000 in
set_option maxRecDepth 100000 in
theorem t_X9_common_6 {l : Launch} {G : zG} {d : Nat} {P : Int64 → zIM → zLM → Prop} {I : zIM} {L : zLM} {x4 : Int64} {x6 : Int64}   (h : ((x6 = (0 : Int64) → (P x4 I L)) ∧ (¬ x6 = (0 : Int64) → ((¬ x6 = 0) ∧ (K_X9_common_6 l G d P I L x6 (x4 % x6)))))) : K_X9_common_6 l G d P I L x4 x6  := by
  refine z_lload (pc' := 8) (x := x6) dX9_common_6 rfl rfl ?_
  refine z_lconst (pc' := 9) (v := 0) dX9_common_8 rfl (by decide) ?_
  refine z_lc_eq (pc' := 13) (tgt := 31) dX9_common_9 dX9_common_10 rfl (by decide) (fun c1 => ?_) (fun c1 => ?_)
  · replace h := h.1 c1
    refine z_lload (pc' := 33) (x := x4) dX9_common_31 rfl rfl ?_
    exact z_lret dX9_common_33 rfl ⟨Nat.le_refl _, Nat.le_refl _⟩ ⟨_, _, _, rfl, rfl, h⟩
  · replace h := h.2 c1
    refine z_lload (pc' := 15) (x := x4) dX9_common_13 rfl rfl ?_
    refine z_lload (pc' := 17) (x := x6) dX9_common_15 rfl rfl ?_
    obtain ⟨hz2, h⟩ := h
    refine z_lrem (pc' := 18) dX9_common_17 rfl hz2 ?_
    refine z_lstore (pc' := 20) (ls' := [none, none, none, none, some (.long x4), none, some (.long x6), none, some (.long (x4 % x6)), none]) dX9_common_18 rfl (by decide) rfl ?_
    refine z_lload (pc' := 22) (x := x6) dX9_common_20 rfl rfl ?_
    refine z_lstore (pc' := 24) (ls' := [none, none, none, none, some (.long x6), none, some (.long x6), none, some (.long (x4 % x6)), none]) dX9_common_22 rfl (by decide) rfl ?_
    refine z_lload (pc' := 26) (x := (x4 % x6)) dX9_common_24 rfl rfl ?_
    refine z_lstore (pc' := 28) (ls' := [none, none, none, none, some (.long x6), none, some (.long (x4 % x6)), none, some (.long (x4 % x6)), none]) dX9_common_26 rfl (by decide) rfl ?_
    refine z_goto (pc' := 6) dX9_common_28 (by decide) ?_
    refine z_sub (pc' := 0) [none, none, none, none, some (.long x6), none, some (.long (x4 % x6)), none, none, none] (zsub_n (zsub_n (zsub_n (zsub_n (zsub_s (zsub_n (zsub_s (zsub_n (zsub_n (zsub_n zsub_nil)))))))))) ?_
    exact h
set_option maxHeartbeats 4000000 in
set_option maxRecDepth 100000 in
theorem t_X9_partOf {l : Launch} {G : zG} {d : Nat} {P : Int64 → zIM → zLM → Prop} {I : zIM} {L : zLM} {x1 : Int64} {x3 : Int32}  (h : ((¬ x1 = (0 : Int64) → (∃ j2 : Nat, (I 44 9) = nI j2 ∧ j2 < 10 ∧ (∃ (d3 : Nat) (P3 : Int64 → zIM → zLM → Prop), d3 + 1 ≤ d ∧ zCl l G d3 mX9_common [.long x1, .long (L 56 j2)] I L P3 ∧ ∀ (y3 : Int64) (I3 : zIM) (L3 : zLM), P3 y3 I3 L3 → (((¬ x3 = 0 → (∃ j5 : Nat, (I3 44 9) = nI j5 ∧ j5 < 10 ∧ ((¬ y3 = 0) ∧ (P ((L3 56 j5) / y3) I3 L3)))) ∧ (x3 = 0 → ((¬ y3 = 0) ∧ (P (x1 / y3) I3 L3)))))))) ∧ (x1 = (0 : Int64) → (P (x3.toInt64) I L)))) : zCl l G d mX9_partOf [.ref 44, .long x1, .int x3] I L P := by
  refine zCn.of (ls := [some (.ref 44), some (.long x1), none, some (.int x3), none, none]) (by decide) (Nat.le_of_ble_eq_true rfl) rfl ?_
  refine z_lload_n (pc' := 1) (x := x1) dX9_partOf_0 rfl rfl ?_
  refine z_lconst (pc' := 2) (v := 0) dX9_partOf_1 rfl (by decide) ?_
  refine z_lc_ne (pc' := 6) (tgt := 9) dX9_partOf_2 dX9_partOf_3 rfl (by decide) (fun c1 => ?_) (fun c1 => ?_)
  · replace h := h.1 c1
    refine z_lload_n (pc' := 10) (x := x1) dX9_partOf_9 rfl rfl ?_
    refine z_aload_n (pc' := 11) (x := 44) dX9_partOf_10 rfl rfl ?_
    refine z_getr (pc' := 14) (x := 56) dX9_partOf_11 rfl fl_X9_43 rfl rfl rfl ?_
    refine z_aload_n (pc' := 15) (x := 44) dX9_partOf_14 rfl rfl ?_
    refine z_geti (pc' := 18) (x := (I 44 9)) dX9_partOf_15 rfl fl_X9_87 rfl rfl rfl ?_
    obtain ⟨j2, ha2, hb2, h⟩ := h
    refine z_lald (pc' := 19) (x := (L 56 j2)) (j := j2) dX9_partOf_18 rfl rfl (by decide) ha2 hb2 rfl ?_
    obtain ⟨d3, P3, hd3, hC3, h⟩ := h
    refine z_callS (pc' := 22) (M' := mX9_common) (As := [.long x1, .long (L 56 j2)]) dX9_partOf_19 rfl ml_X9_252 me_X9_common hC3 rfl hd3 (Nat.le_of_ble_eq_true rfl) ⟨Nat.le_refl _, Nat.le_refl _⟩ rfl ?_
    rintro _ _ ⟨y3, I3, L3, rfl, rfl, hP3⟩
    replace h := h y3 I3 L3 hP3
    refine z_lstore (pc' := 24) (ls' := [some (.ref 44), some (.long x1), none, some (.int x3), some (.long y3), none]) dX9_partOf_22 rfl (by decide) rfl ?_
    refine z_iload_n (pc' := 25) (x := x3) dX9_partOf_24 rfl rfl ?_
    refine z_if_ne (pc' := 28) (tgt := 35) dX9_partOf_25 rfl (by decide) (fun c4 => ?_) (fun c4 => ?_)
    · replace h := h.1 c4
      refine z_aload_n (pc' := 36) (x := 44) dX9_partOf_35 rfl rfl ?_
      refine z_getr (pc' := 39) (x := 56) dX9_partOf_36 rfl fl_X9_43 rfl rfl rfl ?_
      refine z_aload_n (pc' := 40) (x := 44) dX9_partOf_39 rfl rfl ?_
      refine z_geti (pc' := 43) (x := (I3 44 9)) dX9_partOf_40 rfl fl_X9_87 rfl rfl rfl ?_
      obtain ⟨j5, ha5, hb5, h⟩ := h
      refine z_lald (pc' := 44) (x := (L3 56 j5)) (j := j5) dX9_partOf_43 rfl rfl (by decide) ha5 hb5 rfl ?_
      refine z_lload (pc' := 46) (x := y3) dX9_partOf_44 rfl rfl ?_
      obtain ⟨hz6, h⟩ := h
      refine z_ldiv (pc' := 47) dX9_partOf_46 rfl hz6 ?_
      exact z_lret dX9_partOf_47 rfl ⟨Nat.le_refl _, Nat.le_refl _⟩ ⟨_, _, _, rfl, rfl, h⟩
    · replace h := h.2 c4
      refine z_lload_n (pc' := 29) (x := x1) dX9_partOf_28 rfl rfl ?_
      refine z_lload (pc' := 31) (x := y3) dX9_partOf_29 rfl rfl ?_
      obtain ⟨hz7, h⟩ := h
      refine z_ldiv (pc' := 32) dX9_partOf_31 rfl hz7 ?_
      refine z_goto (pc' := 47) dX9_partOf_32 (by decide) ?_
      exact z_lret dX9_partOf_47 rfl ⟨Nat.le_refl _, Nat.le_refl _⟩ ⟨_, _, _, rfl, rfl, h⟩
  · replace h := h.2 c1
    refine z_iload_n (pc' := 7) (x := x3) dX9_partOf_6 rfl rfl ?_
    refine z_i2l (pc' := 8) dX9_partOf_7 rfl ?_
    exact z_lret dX9_partOf_8 rfl ⟨Nat.le_refl _, Nat.le_refl _⟩ ⟨_, _, _, rfl, rfl, h⟩
set_option maxHeartbeats 4000000 in
set_option maxRecDepth 100000 in
theorem t_X9_worth {l : Launch} {G : zG} {d : Nat} {P : Int64 → zIM → zLM → Prop} {I : zIM} {L : zLM} {x1 : Int32} {x2 : Int32} {x3 : Int32}  (h : ∃ (d1 : Nat) (P1 : Int32 → zIM → zLM → Prop), d1 + 1 ≤ d ∧ zCi l G d1 mX9_isPlayer [.ref 44, .int x1] I L P1 ∧ ∀ (y1 : Int32) (I1 : zIM) (L1 : zLM), P1 y1 I1 L1 → (((y1 = 0 → (P (-9223372036854775808 : Int64) I1 L1)) ∧ (¬ y1 = 0 → (∃ (d3 : Nat) (P3 : Int32 → zIM → zLM → Prop), d3 + 1 ≤ d ∧ zCi l G d3 mX9_within [.long (x2.toInt64), .long (0 : Int64), .long (2 : Int64)] I1 L1 P3 ∧ ∀ (y3 : Int32) (I3 : zIM) (L3 : zLM), P3 y3 I3 L3 → (((y3 = 0 → (P (-9223372036854775808 : Int64) I3 L3)) ∧ (¬ y3 = 0 → (∃ (d5 : Nat) (P5 : Int32 → zIM → zLM → Prop), d5 + 1 ≤ d ∧ zCi l G d5 mX9_within [.long (x3.toInt64), .long (0 : Int64), .long (1 : Int64)] I3 L3 P5 ∧ ∀ (y5 : Int32) (I5 : zIM) (L5 : zLM), P5 y5 I5 L5 → (((¬ y5 = 0 → (((¬ x2 = 0 → (∃ (d8 : Nat) (P8 : Int64 → zIM → zLM → Prop), d8 + 1 ≤ d ∧ zCl l G d8 mX9_valueOf [.ref 44, .int (x2 - (1 : Int32)), .int x1] I5 L5 P8 ∧ ∀ (y8 : Int64) (I8 : zIM) (L8 : zLM), P8 y8 I8 L8 → (∃ (d9 : Nat) (P9 : Int64 → zIM → zLM → Prop), d9 + 1 ≤ d ∧ zCl l G d9 mX9_partOf [.ref 44, .long y8, .int x3] I8 L8 P9 ∧ ∀ (y9 : Int64) (I9 : zIM) (L9 : zLM), P9 y9 I9 L9 → (P y9 I9 L9)))) ∧ (x2 = 0 → (∃ (d10 : Nat) (P10 : Int64 → zIM → zLM → Prop), d10 + 1 ≤ d ∧ zCl l G d10 mX9_worthOf [.ref 44, .int x1] I5 L5 P10 ∧ ∀ (y10 : Int64) (I10 : zIM) (L10 : zLM), P10 y10 I10 L10 → (∃ (d11 : Nat) (P11 : Int64 → zIM → zLM → Prop), d11 + 1 ≤ d ∧ zCl l G d11 mX9_partOf [.ref 44, .long y10, .int x3] I10 L10 P11 ∧ ∀ (y11 : Int64) (I11 : zIM) (L11 : zLM), P11 y11 I11 L11 → (P y11 I11 L11))))))) ∧ (y5 = 0 → (P (-9223372036854775808 : Int64) I5 L5))))))))))))) : zCl l G d mX9_worth [.ref 44, .int x1, .int x2, .int x3] I L P := by
  refine zCn.of (ls := [some (.ref 44), some (.int x1), some (.int x2), some (.int x3)]) (by decide) (Nat.le_of_ble_eq_true rfl) rfl ?_
  refine z_aload_n (pc' := 1) (x := 44) dX9_worth_0 rfl rfl ?_
  refine z_iload_n (pc' := 2) (x := x1) dX9_worth_1 rfl rfl ?_
  obtain ⟨d1, P1, hd1, hC1, h⟩ := h
  refine z_callV (pc' := 5) (M' := mX9_isPlayer) (As := [.int x1]) dX9_worth_2 rfl ml_X9_124 me_X9_isPlayer hC1 rfl (by decide) rfl rfl hd1 (Nat.le_of_ble_eq_true rfl) ⟨Nat.le_refl _, Nat.le_refl _⟩ rfl ?_
  rintro _ _ ⟨y1, I1, L1, rfl, rfl, hP1⟩
  replace h := h y1 I1 L1 hP1
  refine z_if_eq (pc' := 8) (tgt := 30) dX9_worth_5 rfl (by decide) (fun c2 => ?_) (fun c2 => ?_)
  · replace h := h.1 c2
    refine z_ldc2 (pc' := 33) (v := -9223372036854775808) dX9_worth_30 rfl kl_X9_260 ?_
    exact z_lret dX9_worth_33 rfl ⟨Nat.le_refl _, Nat.le_refl _⟩ ⟨_, _, _, rfl, rfl, h⟩
  · replace h := h.2 c2
    refine z_iload_n (pc' := 9) (x := x2) dX9_worth_8 rfl rfl ?_
    refine z_i2l (pc' := 10) dX9_worth_9 rfl ?_
    refine z_lconst (pc' := 11) (v := 0) dX9_worth_10 rfl (by decide) ?_
    refine z_ldc2 (pc' := 14) (v := 2) dX9_worth_11 rfl kl_X9_256 ?_
    obtain ⟨d3, P3, hd3, hC3, h⟩ := h
    refine z_callS (pc' := 17) (M' := mX9_within) (As := [.long (x2.toInt64), .long (0 : Int64), .long (2 : Int64)]) dX9_worth_14 rfl ml_X9_99 me_X9_within hC3 rfl hd3 (Nat.le_of_ble_eq_true rfl) ⟨Nat.le_refl _, Nat.le_refl _⟩ rfl ?_
    rintro _ _ ⟨y3, I3, L3, rfl, rfl, hP3⟩
    replace h := h y3 I3 L3 hP3
    refine z_if_eq (pc' := 20) (tgt := 30) dX9_worth_17 rfl (by decide) (fun c4 => ?_) (fun c4 => ?_)
    · replace h := h.1 c4
      refine z_ldc2 (pc' := 33) (v := -9223372036854775808) dX9_worth_30 rfl kl_X9_260 ?_
      exact z_lret dX9_worth_33 rfl ⟨Nat.le_refl _, Nat.le_refl _⟩ ⟨_, _, _, rfl, rfl, h⟩
    · replace h := h.2 c4
      refine z_iload_n (pc' := 21) (x := x3) dX9_worth_20 rfl rfl ?_
      refine z_i2l (pc' := 22) dX9_worth_21 rfl ?_
      refine z_lconst (pc' := 23) (v := 0) dX9_worth_22 rfl (by decide) ?_
      refine z_lconst (pc' := 24) (v := 1) dX9_worth_23 rfl (by decide) ?_
      obtain ⟨d5, P5, hd5, hC5, h⟩ := h
      refine z_callS (pc' := 27) (M' := mX9_within) (As := [.long (x3.toInt64), .long (0 : Int64), .long (1 : Int64)]) dX9_worth_24 rfl ml_X9_99 me_X9_within hC5 rfl hd5 (Nat.le_of_ble_eq_true rfl) ⟨Nat.le_refl _, Nat.le_refl _⟩ rfl ?_
      rintro _ _ ⟨y5, I5, L5, rfl, rfl, hP5⟩
      replace h := h y5 I5 L5 hP5
      refine z_if_ne (pc' := 30) (tgt := 34) dX9_worth_27 rfl (by decide) (fun c6 => ?_) (fun c6 => ?_)
      · replace h := h.1 c6
        refine z_aload_n (pc' := 35) (x := 44) dX9_worth_34 rfl rfl ?_
        refine z_iload_n (pc' := 36) (x := x2) dX9_worth_35 rfl rfl ?_
        refine z_if_ne (pc' := 39) (tgt := 47) dX9_worth_36 rfl (by decide) (fun c7 => ?_) (fun c7 => ?_)
        · replace h := h.1 c7
          refine z_aload_n (pc' := 48) (x := 44) dX9_worth_47 rfl rfl ?_
          refine z_iload_n (pc' := 49) (x := x2) dX9_worth_48 rfl rfl ?_
          refine z_iconst (pc' := 50) (v := 1) dX9_worth_49 rfl (by decide) ?_
          refine z_isub (pc' := 51) dX9_worth_50 rfl ?_
          refine z_iload_n (pc' := 52) (x := x1) dX9_worth_51 rfl rfl ?_
          obtain ⟨d8, P8, hd8, hC8, h⟩ := h
          refine z_callV (pc' := 55) (M' := mX9_valueOf) (As := [.int (x2 - (1 : Int32)), .int x1]) dX9_worth_52 rfl ml_X9_266 me_X9_valueOf hC8 rfl (by decide) rfl rfl hd8 (Nat.le_of_ble_eq_true rfl) ⟨Nat.le_refl _, Nat.le_refl _⟩ rfl ?_
          rintro _ _ ⟨y8, I8, L8, rfl, rfl, hP8⟩
          replace h := h y8 I8 L8 hP8
          refine z_iload_n (pc' := 56) (x := x3) dX9_worth_55 rfl rfl ?_
          obtain ⟨d9, P9, hd9, hC9, h⟩ := h
          refine z_callV (pc' := 59) (M' := mX9_partOf) (As := [.long y8, .int x3]) dX9_worth_56 rfl ml_X9_270 me_X9_partOf hC9 rfl (by decide) rfl rfl hd9 (Nat.le_of_ble_eq_true rfl) ⟨Nat.le_refl _, Nat.le_refl _⟩ rfl ?_
          rintro _ _ ⟨y9, I9, L9, rfl, rfl, hP9⟩
          replace h := h y9 I9 L9 hP9
          exact z_lret dX9_worth_59 rfl ⟨Nat.le_refl _, Nat.le_refl _⟩ ⟨_, _, _, rfl, rfl, h⟩
        · replace h := h.2 c7
          refine z_aload_n (pc' := 40) (x := 44) dX9_worth_39 rfl rfl ?_
          refine z_iload_n (pc' := 41) (x := x1) dX9_worth_40 rfl rfl ?_
          obtain ⟨d10, P10, hd10, hC10, h⟩ := h
          refine z_callV (pc' := 44) (M' := mX9_worthOf) (As := [.int x1]) dX9_worth_41 rfl ml_X9_262 me_X9_worthOf hC10 rfl (by decide) rfl rfl hd10 (Nat.le_of_ble_eq_true rfl) ⟨Nat.le_refl _, Nat.le_refl _⟩ rfl ?_
          rintro _ _ ⟨y10, I10, L10, rfl, rfl, hP10⟩
          replace h := h y10 I10 L10 hP10
          refine z_goto (pc' := 55) dX9_worth_44 (by decide) ?_
          refine z_iload_n (pc' := 56) (x := x3) dX9_worth_55 rfl rfl ?_
          obtain ⟨d11, P11, hd11, hC11, h⟩ := h
          refine z_callV (pc' := 59) (M' := mX9_partOf) (As := [.long y10, .int x3]) dX9_worth_56 rfl ml_X9_270 me_X9_partOf hC11 rfl (by decide) rfl rfl hd11 (Nat.le_of_ble_eq_true rfl) ⟨Nat.le_refl _, Nat.le_refl _⟩ rfl ?_
          rintro _ _ ⟨y11, I11, L11, rfl, rfl, hP11⟩
          replace h := h y11 I11 L11 hP11
          exact z_lret dX9_worth_59 rfl ⟨Nat.le_refl _, Nat.le_refl _⟩ ⟨_, _, _, rfl, rfl, h⟩
      · replace h := h.2 c6
        refine z_ldc2 (pc' := 33) (v := -9223372036854775808) dX9_worth_30 rfl kl_X9_260 ?_
        exact z_lret dX9_worth_33 rfl ⟨Nat.le_refl _, Nat.le_refl _⟩ ⟨_, _, _, rfl, rfl, h⟩
set_option maxHeartbeats 4000000 in
set_option maxRecDepth 100000 in
theorem t_X9_just {l : Launch} {G : zG} {d : Nat} {P : Int64 → zIM → zLM → Prop} {I : zIM} {L : zLM} {x1 : Int32} {x2 : Int32}  (h : ∃ (d1 : Nat) (P1 : Int32 → zIM → zLM → Prop), d1 + 1 ≤ d ∧ zCi l G d1 mX9_all [.ref 44] I L P1 ∧ ∀ (y1 : Int32) (I1 : zIM) (L1 : zLM), P1 y1 I1 L1 → (∃ (d2 : Nat) (P2 : Int32 → zIM → zLM → Prop), d2 + 1 ≤ d ∧ zCi l G d2 mX9_within [.long (x1.toInt64), .long (-1 : Int64), .long (y1.toInt64)] I1 L1 P2 ∧ ∀ (y2 : Int32) (I2 : zIM) (L2 : zLM), P2 y2 I2 L2 → (((y2 = 0 → (P (-9223372036854775808 : Int64) I2 L2)) ∧ (¬ y2 = 0 → (∃ (d4 : Nat) (P4 : Int32 → zIM → zLM → Prop), d4 + 1 ≤ d ∧ zCi l G d4 mX9_within [.long (x2.toInt64), .long (0 : Int64), .long (1 : Int64)] I2 L2 P4 ∧ ∀ (y4 : Int32) (I4 : zIM) (L4 : zLM), P4 y4 I4 L4 → (((¬ y4 = 0 → (((¬ x1 = (-1 : Int32) → (∃ (d7 : Nat) (P7 : Int64 → zIM → zLM → Prop), d7 + 1 ≤ d ∧ zCl l G d7 mX9_valueOf [.ref 44, .int (2 : Int32), .int x1] I4 L4 P7 ∧ ∀ (y7 : Int64) (I7 : zIM) (L7 : zLM), P7 y7 I7 L7 → (∃ (d8 : Nat) (P8 : Int64 → zIM → zLM → Prop), d8 + 1 ≤ d ∧ zCl l G d8 mX9_partOf [.ref 44, .long y7, .int x2] I7 L7 P8 ∧ ∀ (y8 : Int64) (I8 : zIM) (L8 : zLM), P8 y8 I8 L8 → (P y8 I8 L8)))) ∧ (x1 = (-1 : Int32) → (∃ (d9 : Nat) (P9 : Int64 → zIM → zLM → Prop), d9 + 1 ≤ d ∧ zCl l G d9 mX9_valueOf [.ref 44, .int (3 : Int32), .int (0 : Int32)] I4 L4 P9 ∧ ∀ (y9 : Int64) (I9 : zIM) (L9 : zLM), P9 y9 I9 L9 → (∃ (d10 : Nat) (P10 : Int64 → zIM → zLM → Prop), d10 + 1 ≤ d ∧ zCl l G d10 mX9_partOf [.ref 44, .long y9, .int x2] I9 L9 P10 ∧ ∀ (y10 : Int64) (I10 : zIM) (L10 : zLM), P10 y10 I10 L10 → (P y10 I10 L10))))))) ∧ (y4 = 0 → (P (-9223372036854775808 : Int64) I4 L4)))))))))) : zCl l G d mX9_just [.ref 44, .int x1, .int x2] I L P := by
  refine zCn.of (ls := [some (.ref 44), some (.int x1), some (.int x2)]) (by decide) (Nat.le_of_ble_eq_true rfl) rfl ?_
  refine z_iload_n (pc' := 1) (x := x1) dX9_just_0 rfl rfl ?_
  refine z_i2l (pc' := 2) dX9_just_1 rfl ?_
  refine z_ldc2 (pc' := 5) (v := -1) dX9_just_2 rfl kl_X9_274 ?_
  refine z_aload_n (pc' := 6) (x := 44) dX9_just_5 rfl rfl ?_
  obtain ⟨d1, P1, hd1, hC1, h⟩ := h
  refine z_callV (pc' := 9) (M' := mX9_all) (As := []) dX9_just_6 rfl ml_X9_225 me_X9_all hC1 rfl (by decide) rfl rfl hd1 (Nat.le_of_ble_eq_true rfl) ⟨Nat.le_refl _, Nat.le_refl _⟩ rfl ?_
  rintro _ _ ⟨y1, I1, L1, rfl, rfl, hP1⟩
  replace h := h y1 I1 L1 hP1
  refine z_i2l (pc' := 10) dX9_just_9 rfl ?_
  obtain ⟨d2, P2, hd2, hC2, h⟩ := h
  refine z_callS (pc' := 13) (M' := mX9_within) (As := [.long (x1.toInt64), .long (-1 : Int64), .long (y1.toInt64)]) dX9_just_10 rfl ml_X9_99 me_X9_within hC2 rfl hd2 (Nat.le_of_ble_eq_true rfl) ⟨Nat.le_refl _, Nat.le_refl _⟩ rfl ?_
  rintro _ _ ⟨y2, I2, L2, rfl, rfl, hP2⟩
  replace h := h y2 I2 L2 hP2
  refine z_if_eq (pc' := 16) (tgt := 26) dX9_just_13 rfl (by decide) (fun c3 => ?_) (fun c3 => ?_)
  · replace h := h.1 c3
    refine z_ldc2 (pc' := 29) (v := -9223372036854775808) dX9_just_26 rfl kl_X9_260 ?_
    exact z_lret dX9_just_29 rfl ⟨Nat.le_refl _, Nat.le_refl _⟩ ⟨_, _, _, rfl, rfl, h⟩
  · replace h := h.2 c3
    refine z_iload_n (pc' := 17) (x := x2) dX9_just_16 rfl rfl ?_
    refine z_i2l (pc' := 18) dX9_just_17 rfl ?_
    refine z_lconst (pc' := 19) (v := 0) dX9_just_18 rfl (by decide) ?_
    refine z_lconst (pc' := 20) (v := 1) dX9_just_19 rfl (by decide) ?_
    obtain ⟨d4, P4, hd4, hC4, h⟩ := h
    refine z_callS (pc' := 23) (M' := mX9_within) (As := [.long (x2.toInt64), .long (0 : Int64), .long (1 : Int64)]) dX9_just_20 rfl ml_X9_99 me_X9_within hC4 rfl hd4 (Nat.le_of_ble_eq_true rfl) ⟨Nat.le_refl _, Nat.le_refl _⟩ rfl ?_
    rintro _ _ ⟨y4, I4, L4, rfl, rfl, hP4⟩
    replace h := h y4 I4 L4 hP4
    refine z_if_ne (pc' := 26) (tgt := 30) dX9_just_23 rfl (by decide) (fun c5 => ?_) (fun c5 => ?_)
    · replace h := h.1 c5
      refine z_aload_n (pc' := 31) (x := 44) dX9_just_30 rfl rfl ?_
      refine z_iload_n (pc' := 32) (x := x1) dX9_just_31 rfl rfl ?_
      refine z_iconst (pc' := 33) (v := -1) dX9_just_32 rfl (by decide) ?_
      refine z_icmp_ne (pc' := 36) (tgt := 45) dX9_just_33 rfl (by decide) (fun c6 => ?_) (fun c6 => ?_)
      · replace h := h.1 c6
        refine z_aload_n (pc' := 46) (x := 44) dX9_just_45 rfl rfl ?_
        refine z_iconst (pc' := 47) (v := 2) dX9_just_46 rfl (by decide) ?_
        refine z_iload_n (pc' := 48) (x := x1) dX9_just_47 rfl rfl ?_
        obtain ⟨d7, P7, hd7, hC7, h⟩ := h
        refine z_callV (pc' := 51) (M' := mX9_valueOf) (As := [.int (2 : Int32), .int x1]) dX9_just_48 rfl ml_X9_266 me_X9_valueOf hC7 rfl (by decide) rfl rfl hd7 (Nat.le_of_ble_eq_true rfl) ⟨Nat.le_refl _, Nat.le_refl _⟩ rfl ?_
        rintro _ _ ⟨y7, I7, L7, rfl, rfl, hP7⟩
        replace h := h y7 I7 L7 hP7
        refine z_iload_n (pc' := 52) (x := x2) dX9_just_51 rfl rfl ?_
        obtain ⟨d8, P8, hd8, hC8, h⟩ := h
        refine z_callV (pc' := 55) (M' := mX9_partOf) (As := [.long y7, .int x2]) dX9_just_52 rfl ml_X9_270 me_X9_partOf hC8 rfl (by decide) rfl rfl hd8 (Nat.le_of_ble_eq_true rfl) ⟨Nat.le_refl _, Nat.le_refl _⟩ rfl ?_
        rintro _ _ ⟨y8, I8, L8, rfl, rfl, hP8⟩
        replace h := h y8 I8 L8 hP8
        exact z_lret dX9_just_55 rfl ⟨Nat.le_refl _, Nat.le_refl _⟩ ⟨_, _, _, rfl, rfl, h⟩
      · replace h := h.2 c6
        refine z_aload_n (pc' := 37) (x := 44) dX9_just_36 rfl rfl ?_
        refine z_iconst (pc' := 38) (v := 3) dX9_just_37 rfl (by decide) ?_
        refine z_iconst (pc' := 39) (v := 0) dX9_just_38 rfl (by decide) ?_
        obtain ⟨d9, P9, hd9, hC9, h⟩ := h
        refine z_callV (pc' := 42) (M' := mX9_valueOf) (As := [.int (3 : Int32), .int (0 : Int32)]) dX9_just_39 rfl ml_X9_266 me_X9_valueOf hC9 rfl (by decide) rfl rfl hd9 (Nat.le_of_ble_eq_true rfl) ⟨Nat.le_refl _, Nat.le_refl _⟩ rfl ?_
        rintro _ _ ⟨y9, I9, L9, rfl, rfl, hP9⟩
        replace h := h y9 I9 L9 hP9
        refine z_goto (pc' := 51) dX9_just_42 (by decide) ?_
        refine z_iload_n (pc' := 52) (x := x2) dX9_just_51 rfl rfl ?_
        obtain ⟨d10, P10, hd10, hC10, h⟩ := h
        refine z_callV (pc' := 55) (M' := mX9_partOf) (As := [.long y9, .int x2]) dX9_just_52 rfl ml_X9_270 me_X9_partOf hC10 rfl (by decide) rfl rfl hd10 (Nat.le_of_ble_eq_true rfl) ⟨Nat.le_refl _, Nat.le_refl _⟩ rfl ?_
        rintro _ _ ⟨y10, I10, L10, rfl, rfl, hP10⟩
        replace h := h y10 I10 L10 hP10
        exact z_lret dX9_just_55 rfl ⟨Nat.le_refl _, Nat.le_refl _⟩ ⟨_, _, _, rfl, rfl, h⟩
    · replace h := h.2 c5
      refine z_ldc2 (pc' := 29) (v := -9223372036854775808) dX9_just_26 rfl kl_X9_260 ?_
      exact z_lret dX9_just_29 rfl ⟨Nat.le_refl _, Nat.le_refl _⟩ ⟨_, _, _, rfl, rfl, h⟩
set_option maxHeartbeats 4000000 in
set_option maxRecDepth 100000 in
theorem t_X9_aims {l : Launch} {G : zG} {d : Nat} {P : Int32 → zIM → zLM → Prop} {I : zIM} {L : zLM} {x1 : Int32} {x2 : Int32} {x3 : Int32}  (h : ∃ (d1 : Nat) (P1 : Int32 → zIM → zLM → Prop), d1 + 1 ≤ d ∧ zCi l G d1 mX9_isPlayer [.ref 44, .int x1] I L P1 ∧ ∀ (y1 : Int32) (I1 : zIM) (L1 : zLM), P1 y1 I1 L1 → (((y1 = 0 → (P (-1 : Int32) I1 L1)) ∧ (¬ y1 = 0 → (∃ (d3 : Nat) (P3 : Int32 → zIM → zLM → Prop), d3 + 1 ≤ d ∧ zCi l G d3 mX9_all [.ref 44] I1 L1 P3 ∧ ∀ (y3 : Int32) (I3 : zIM) (L3 : zLM), P3 y3 I3 L3 → (∃ (d4 : Nat) (P4 : Int32 → zIM → zLM → Prop), d4 + 1 ≤ d ∧ zCi l G d4 mX9_within [.long (x2.toInt64), .long (0 : Int64), .long (y3.toInt64)] I3 L3 P4 ∧ ∀ (y4 : Int32) (I4 : zIM) (L4 : zLM), P4 y4 I4 L4 → (((y4 = 0 → (P (-1 : Int32) I4 L4)) ∧ (¬ y4 = 0 → (∃ (d6 : Nat) (P6 : Int32 → zIM → zLM → Prop), d6 + 1 ≤ d ∧ zCi l G d6 mX9_isIn [.int x2, .int x1] I4 L4 P6 ∧ ∀ (y6 : Int32) (I6 : zIM) (L6 : zLM), P6 y6 I6 L6 → (((y6 = 0 → (P (-1 : Int32) I6 L6)) ∧ (¬ y6 = 0 → (∃ (d8 : Nat) (P8 : Int32 → zIM → zLM → Prop), d8 + 1 ≤ d ∧ zCi l G d8 mX9_within [.long (x3.toInt64), .long (0 : Int64), .long (((I6 44 9) - (1 : Int32)).toInt64)] I6 L6 P8 ∧ ∀ (y8 : Int32) (I8 : zIM) (L8 : zLM), P8 y8 I8 L8 → (((¬ y8 = 0 → (∃ (d10 : Nat) (P10 : zIM → zLM → Prop), d10 + 1 ≤ d ∧ zCv l G d10 mX9_solves [.ref 44] I8 L8 P10 ∧ ∀ (I10 : zIM) (L10 : zLM), P10 I10 L10 → (∃ (d11 : Nat) (P11 : Int32 → zIM → zLM → Prop), d11 + 1 ≤ d ∧ zCi l G d11 mX9_stateOf [.int x3, .int x2, .int x1] I10 L10 P11 ∧ ∀ (y11 : Int32) (I11 : zIM) (L11 : zLM), P11 y11 I11 L11 → (∃ j12 : Nat, y11 = nI j12 ∧ j12 < 640 ∧ (((¬ (I11 58 j12) = (9 : Int32) → (P (I11 58 j12) I11 L11)) ∧ ((I11 58 j12) = (9 : Int32) → (P (-2 : Int32) I11 L11)))))))) ∧ (y8 = 0 → (P (-1 : Int32) I8 L8)))))))))))))))))) : zCi l G d mX9_aims [.ref 44, .int x1, .int x2, .int x3] I L P := by
  refine zCn.of (ls := [some (.ref 44), some (.int x1), some (.int x2), some (.int x3), none]) (by decide) (Nat.le_of_ble_eq_true rfl) rfl ?_
  refine z_aload_n (pc' := 1) (x := 44) dX9_aims_0 rfl rfl ?_
  refine z_iload_n (pc' := 2) (x := x1) dX9_aims_1 rfl rfl ?_
  obtain ⟨d1, P1, hd1, hC1, h⟩ := h
  refine z_callV (pc' := 5) (M' := mX9_isPlayer) (As := [.int x1]) dX9_aims_2 rfl ml_X9_124 me_X9_isPlayer hC1 rfl (by decide) rfl rfl hd1 (Nat.le_of_ble_eq_true rfl) ⟨Nat.le_refl _, Nat.le_refl _⟩ rfl ?_
  rintro _ _ ⟨y1, I1, L1, rfl, rfl, hP1⟩
  replace h := h y1 I1 L1 hP1
  refine z_if_eq (pc' := 8) (tgt := 46) dX9_aims_5 rfl (by decide) (fun c2 => ?_) (fun c2 => ?_)
  · replace h := h.1 c2
    refine z_iconst (pc' := 47) (v := -1) dX9_aims_46 rfl (by decide) ?_
    exact z_iret dX9_aims_47 rfl rfl ⟨Nat.le_refl _, Nat.le_refl _⟩ ⟨_, _, _, rfl, rfl, h⟩
  · replace h := h.2 c2
    refine z_iload_n (pc' := 9) (x := x2) dX9_aims_8 rfl rfl ?_
    refine z_i2l (pc' := 10) dX9_aims_9 rfl ?_
    refine z_lconst (pc' := 11) (v := 0) dX9_aims_10 rfl (by decide) ?_
    refine z_aload_n (pc' := 12) (x := 44) dX9_aims_11 rfl rfl ?_
    obtain ⟨d3, P3, hd3, hC3, h⟩ := h
    refine z_callV (pc' := 15) (M' := mX9_all) (As := []) dX9_aims_12 rfl ml_X9_225 me_X9_all hC3 rfl (by decide) rfl rfl hd3 (Nat.le_of_ble_eq_true rfl) ⟨Nat.le_refl _, Nat.le_refl _⟩ rfl ?_
    rintro _ _ ⟨y3, I3, L3, rfl, rfl, hP3⟩
    replace h := h y3 I3 L3 hP3
    refine z_i2l (pc' := 16) dX9_aims_15 rfl ?_
    obtain ⟨d4, P4, hd4, hC4, h⟩ := h
    refine z_callS (pc' := 19) (M' := mX9_within) (As := [.long (x2.toInt64), .long (0 : Int64), .long (y3.toInt64)]) dX9_aims_16 rfl ml_X9_99 me_X9_within hC4 rfl hd4 (Nat.le_of_ble_eq_true rfl) ⟨Nat.le_refl _, Nat.le_refl _⟩ rfl ?_
    rintro _ _ ⟨y4, I4, L4, rfl, rfl, hP4⟩
    replace h := h y4 I4 L4 hP4
    refine z_if_eq (pc' := 22) (tgt := 46) dX9_aims_19 rfl (by decide) (fun c5 => ?_) (fun c5 => ?_)
    · replace h := h.1 c5
      refine z_iconst (pc' := 47) (v := -1) dX9_aims_46 rfl (by decide) ?_
      exact z_iret dX9_aims_47 rfl rfl ⟨Nat.le_refl _, Nat.le_refl _⟩ ⟨_, _, _, rfl, rfl, h⟩
    · replace h := h.2 c5
      refine z_iload_n (pc' := 23) (x := x2) dX9_aims_22 rfl rfl ?_
      refine z_iload_n (pc' := 24) (x := x1) dX9_aims_23 rfl rfl ?_
      obtain ⟨d6, P6, hd6, hC6, h⟩ := h
      refine z_callS (pc' := 27) (M' := mX9_isIn) (As := [.int x2, .int x1]) dX9_aims_24 rfl ml_X9_133 me_X9_isIn hC6 rfl hd6 (Nat.le_of_ble_eq_true rfl) ⟨Nat.le_refl _, Nat.le_refl _⟩ rfl ?_
      rintro _ _ ⟨y6, I6, L6, rfl, rfl, hP6⟩
      replace h := h y6 I6 L6 hP6
      refine z_if_eq (pc' := 30) (tgt := 46) dX9_aims_27 rfl (by decide) (fun c7 => ?_) (fun c7 => ?_)
      · replace h := h.1 c7
        refine z_iconst (pc' := 47) (v := -1) dX9_aims_46 rfl (by decide) ?_
        exact z_iret dX9_aims_47 rfl rfl ⟨Nat.le_refl _, Nat.le_refl _⟩ ⟨_, _, _, rfl, rfl, h⟩
      · replace h := h.2 c7
        refine z_iload_n (pc' := 31) (x := x3) dX9_aims_30 rfl rfl ?_
        refine z_i2l (pc' := 32) dX9_aims_31 rfl ?_
        refine z_lconst (pc' := 33) (v := 0) dX9_aims_32 rfl (by decide) ?_
        refine z_aload_n (pc' := 34) (x := 44) dX9_aims_33 rfl rfl ?_
        refine z_geti (pc' := 37) (x := (I6 44 9)) dX9_aims_34 rfl fl_X9_87 rfl rfl rfl ?_
        refine z_iconst (pc' := 38) (v := 1) dX9_aims_37 rfl (by decide) ?_
        refine z_isub (pc' := 39) dX9_aims_38 rfl ?_
        refine z_i2l (pc' := 40) dX9_aims_39 rfl ?_
        obtain ⟨d8, P8, hd8, hC8, h⟩ := h
        refine z_callS (pc' := 43) (M' := mX9_within) (As := [.long (x3.toInt64), .long (0 : Int64), .long (((I6 44 9) - (1 : Int32)).toInt64)]) dX9_aims_40 rfl ml_X9_99 me_X9_within hC8 rfl hd8 (Nat.le_of_ble_eq_true rfl) ⟨Nat.le_refl _, Nat.le_refl _⟩ rfl ?_
        rintro _ _ ⟨y8, I8, L8, rfl, rfl, hP8⟩
        replace h := h y8 I8 L8 hP8
        refine z_if_ne (pc' := 46) (tgt := 48) dX9_aims_43 rfl (by decide) (fun c9 => ?_) (fun c9 => ?_)
        · replace h := h.1 c9
          refine z_aload_n (pc' := 49) (x := 44) dX9_aims_48 rfl rfl ?_
          obtain ⟨d10, P10, hd10, hC10, h⟩ := h
          refine z_callV (pc' := 52) (M' := mX9_solves) (As := []) dX9_aims_49 rfl ml_X9_241 me_X9_solves hC10 rfl (by decide) rfl rfl hd10 (Nat.le_of_ble_eq_true rfl) ⟨Nat.le_refl _, Nat.le_refl _⟩ rfl ?_
          rintro _ _ ⟨I10, L10, rfl, rfl, hP10⟩
          replace h := h I10 L10 hP10
          refine z_aload_n (pc' := 53) (x := 44) dX9_aims_52 rfl rfl ?_
          refine z_getr (pc' := 56) (x := 58) dX9_aims_53 rfl fl_X9_50 rfl rfl rfl ?_
          refine z_iload_n (pc' := 57) (x := x3) dX9_aims_56 rfl rfl ?_
          refine z_iload_n (pc' := 58) (x := x2) dX9_aims_57 rfl rfl ?_
          refine z_iload_n (pc' := 59) (x := x1) dX9_aims_58 rfl rfl ?_
          obtain ⟨d11, P11, hd11, hC11, h⟩ := h
          refine z_callS (pc' := 62) (M' := mX9_stateOf) (As := [.int x3, .int x2, .int x1]) dX9_aims_59 rfl ml_X9_207 me_X9_stateOf hC11 rfl hd11 (Nat.le_of_ble_eq_true rfl) ⟨Nat.le_refl _, Nat.le_refl _⟩ rfl ?_
          rintro _ _ ⟨y11, I11, L11, rfl, rfl, hP11⟩
          replace h := h y11 I11 L11 hP11
          obtain ⟨j12, ha12, hb12, h⟩ := h
          refine z_iald (pc' := 63) (x := (I11 58 j12)) (j := j12) dX9_aims_62 rfl rfl (by decide) ha12 hb12 rfl ?_
          refine z_istore (pc' := 65) (ls' := [some (.ref 44), some (.int x1), some (.int x2), some (.int x3), some (.int (I11 58 j12))]) dX9_aims_63 rfl (by decide) rfl ?_
          refine z_iload (pc' := 67) (x := (I11 58 j12)) dX9_aims_65 rfl rfl ?_
          refine z_bipush (pc' := 69) (v := 9) dX9_aims_67 rfl (by decide) ?_
          refine z_icmp_ne (pc' := 72) (tgt := 77) dX9_aims_69 rfl (by decide) (fun c13 => ?_) (fun c13 => ?_)
          · replace h := h.1 c13
            refine z_iload (pc' := 79) (x := (I11 58 j12)) dX9_aims_77 rfl rfl ?_
            exact z_iret dX9_aims_79 rfl rfl ⟨Nat.le_refl _, Nat.le_refl _⟩ ⟨_, _, _, rfl, rfl, h⟩
          · replace h := h.2 c13
            refine z_bipush (pc' := 74) (v := -2) dX9_aims_72 rfl (by decide) ?_
            refine z_goto (pc' := 79) dX9_aims_74 (by decide) ?_
            exact z_iret dX9_aims_79 rfl rfl ⟨Nat.le_refl _, Nat.le_refl _⟩ ⟨_, _, _, rfl, rfl, h⟩
        · replace h := h.2 c9
          refine z_iconst (pc' := 47) (v := -1) dX9_aims_46 rfl (by decide) ?_
          exact z_iret dX9_aims_47 rfl rfl ⟨Nat.le_refl _, Nat.le_refl _⟩ ⟨_, _, _, rfl, rfl, h⟩
set_option maxHeartbeats 4000000 in
set_option maxRecDepth 100000 in
theorem t_X9_begin {l : Launch} {G : zG} {d : Nat} {P : Int32 → zIM → zLM → Prop} {I : zIM} {L : zLM} {x1 : Int32}  (h : ∃ (d1 : Nat) (P1 : Int32 → zIM → zLM → Prop), d1 + 1 ≤ d ∧ zCi l G d1 mX9_isPlayer [.ref 44, .int x1] I L P1 ∧ ∀ (y1 : Int32) (I1 : zIM) (L1 : zLM), P1 y1 I1 L1 → (((¬ y1 = 0 → (∃ (d3 : Nat) (P3 : zIM → zLM → Prop), d3 + 1 ≤ d ∧ zCv l G d3 mX9_solves [.ref 44] I1 L1 P3 ∧ ∀ (I3 : zIM) (L3 : zLM), P3 I3 L3 → (K_X9_begin_18 l G d P I3 L3 x1 (0 : Int32) (1 : Int32)))) ∧ (y1 = 0 → (P (-1 : Int32) I1 L1))))) : zCi l G d mX9_begin [.ref 44, .int x1] I L P := by
  refine zCn.of (ls := [some (.ref 44), some (.int x1), none, none]) (by decide) (Nat.le_of_ble_eq_true rfl) rfl ?_
  refine z_aload_n (pc' := 1) (x := 44) dX9_begin_0 rfl rfl ?_
  refine z_iload_n (pc' := 2) (x := x1) dX9_begin_1 rfl rfl ?_
  obtain ⟨d1, P1, hd1, hC1, h⟩ := h
  refine z_callV (pc' := 5) (M' := mX9_isPlayer) (As := [.int x1]) dX9_begin_2 rfl ml_X9_124 me_X9_isPlayer hC1 rfl (by decide) rfl rfl hd1 (Nat.le_of_ble_eq_true rfl) ⟨Nat.le_refl _, Nat.le_refl _⟩ rfl ?_
  rintro _ _ ⟨y1, I1, L1, rfl, rfl, hP1⟩
  replace h := h y1 I1 L1 hP1
  refine z_if_ne (pc' := 8) (tgt := 10) dX9_begin_5 rfl (by decide) (fun c2 => ?_) (fun c2 => ?_)
  · replace h := h.1 c2
    refine z_aload_n (pc' := 11) (x := 44) dX9_begin_10 rfl rfl ?_
    obtain ⟨d3, P3, hd3, hC3, h⟩ := h
    refine z_callV (pc' := 14) (M' := mX9_solves) (As := []) dX9_begin_11 rfl ml_X9_241 me_X9_solves hC3 rfl (by decide) rfl rfl hd3 (Nat.le_of_ble_eq_true rfl) ⟨Nat.le_refl _, Nat.le_refl _⟩ rfl ?_
    rintro _ _ ⟨I3, L3, rfl, rfl, hP3⟩
    replace h := h I3 L3 hP3
    refine z_iconst (pc' := 15) (v := 0) dX9_begin_14 rfl (by decide) ?_
    refine z_istore_n (pc' := 16) (ls' := [some (.ref 44), some (.int x1), some (.int (0 : Int32)), none]) dX9_begin_15 rfl (by decide) rfl ?_
    refine z_iconst (pc' := 17) (v := 1) dX9_begin_16 rfl (by decide) ?_
    refine z_istore_n (pc' := 18) (ls' := [some (.ref 44), some (.int x1), some (.int (0 : Int32)), some (.int (1 : Int32))]) dX9_begin_17 rfl (by decide) rfl ?_
    exact h
  · replace h := h.2 c2
    refine z_iconst (pc' := 9) (v := -1) dX9_begin_8 rfl (by decide) ?_
    exact z_iret dX9_begin_9 rfl rfl ⟨Nat.le_refl _, Nat.le_refl _⟩ ⟨_, _, _, rfl, rfl, h⟩
set_option maxHeartbeats 4000000 in
set_option maxRecDepth 100000 in
theorem t_X9_begin_18 {l : Launch} {G : zG} {d : Nat} {P : Int32 → zIM → zLM → Prop} {I : zIM} {L : zLM} {x1 : Int32} {x2 : Int32} {x3 : Int32}   (h : (((I 44 6) ≤ x3 → (P x2 I L)) ∧ (¬ (I 44 6) ≤ x3 → (∃ (d2 : Nat) (P2 : Int32 → zIM → zLM → Prop), d2 + 1 ≤ d ∧ zCi l G d2 mX9_all [.ref 44] I L P2 ∧ ∀ (y2 : Int32) (I2 : zIM) (L2 : zLM), P2 y2 I2 L2 → (∃ (d3 : Nat) (P3 : Int64 → zIM → zLM → Prop), d3 + 1 ≤ d ∧ zCl l G d3 mX9_worthFrom [.ref 44, .int y2, .int x3, .int x1] I2 L2 P3 ∧ ∀ (y3 : Int64) (I3 : zIM) (L3 : zLM), P3 y3 I3 L3 → (∃ (d4 : Nat) (P4 : Int32 → zIM → zLM → Prop), d4 + 1 ≤ d ∧ zCi l G d4 mX9_all [.ref 44] I3 L3 P4 ∧ ∀ (y4 : Int32) (I4 : zIM) (L4 : zLM), P4 y4 I4 L4 → (∃ (d5 : Nat) (P5 : Int64 → zIM → zLM → Prop), d5 + 1 ≤ d ∧ zCl l G d5 mX9_worthFrom [.ref 44, .int y4, .int x2, .int x1] I4 L4 P5 ∧ ∀ (y5 : Int64) (I5 : zIM) (L5 : zLM), P5 y5 I5 L5 → (((y3 ≤ y5 → (K_X9_begin_18 l G d P I5 L5 x1 x2 (x3 + (1 : Int32)))) ∧ (¬ y3 ≤ y5 → (K_X9_begin_18 l G d P I5 L5 x1 x3 (x3 + (1 : Int32))))))))))))) : K_X9_begin_18 l G d P I L x1 x2 x3  := by
  refine z_iload_n (pc' := 19) (x := x3) dX9_begin_18 rfl rfl ?_
  refine z_aload_n (pc' := 20) (x := 44) dX9_begin_19 rfl rfl ?_
  refine z_geti (pc' := 23) (x := (I 44 6)) dX9_begin_20 rfl fl_X9_96 rfl rfl rfl ?_
  refine z_icmp_ge (pc' := 26) (tgt := 62) dX9_begin_23 rfl (by decide) (fun c1 => ?_) (fun c1 => ?_)
  · replace h := h.1 c1
    refine z_iload_n (pc' := 63) (x := x2) dX9_begin_62 rfl rfl ?_
    exact z_iret dX9_begin_63 rfl rfl ⟨Nat.le_refl _, Nat.le_refl _⟩ ⟨_, _, _, rfl, rfl, h⟩
  · replace h := h.2 c1
    refine z_aload_n (pc' := 27) (x := 44) dX9_begin_26 rfl rfl ?_
    refine z_aload_n (pc' := 28) (x := 44) dX9_begin_27 rfl rfl ?_
    obtain ⟨d2, P2, hd2, hC2, h⟩ := h
    refine z_callV (pc' := 31) (M' := mX9_all) (As := []) dX9_begin_28 rfl ml_X9_225 me_X9_all hC2 rfl (by decide) rfl rfl hd2 (Nat.le_of_ble_eq_true rfl) ⟨Nat.le_refl _, Nat.le_refl _⟩ rfl ?_
    rintro _ _ ⟨y2, I2, L2, rfl, rfl, hP2⟩
    replace h := h y2 I2 L2 hP2
    refine z_iload_n (pc' := 32) (x := x3) dX9_begin_31 rfl rfl ?_
    refine z_iload_n (pc' := 33) (x := x1) dX9_begin_32 rfl rfl ?_
    obtain ⟨d3, P3, hd3, hC3, h⟩ := h
    refine z_callV (pc' := 36) (M' := mX9_worthFrom) (As := [.int y2, .int x3, .int x1]) dX9_begin_33 rfl ml_X9_244 me_X9_worthFrom hC3 rfl (by decide) rfl rfl hd3 (Nat.le_of_ble_eq_true rfl) ⟨Nat.le_refl _, Nat.le_refl _⟩ rfl ?_
    rintro _ _ ⟨y3, I3, L3, rfl, rfl, hP3⟩
    replace h := h y3 I3 L3 hP3
    refine z_aload_n (pc' := 37) (x := 44) dX9_begin_36 rfl rfl ?_
    refine z_aload_n (pc' := 38) (x := 44) dX9_begin_37 rfl rfl ?_
    obtain ⟨d4, P4, hd4, hC4, h⟩ := h
    refine z_callV (pc' := 41) (M' := mX9_all) (As := []) dX9_begin_38 rfl ml_X9_225 me_X9_all hC4 rfl (by decide) rfl rfl hd4 (Nat.le_of_ble_eq_true rfl) ⟨Nat.le_refl _, Nat.le_refl _⟩ rfl ?_
    rintro _ _ ⟨y4, I4, L4, rfl, rfl, hP4⟩
    replace h := h y4 I4 L4 hP4
    refine z_iload_n (pc' := 42) (x := x2) dX9_begin_41 rfl rfl ?_
    refine z_iload_n (pc' := 43) (x := x1) dX9_begin_42 rfl rfl ?_
    obtain ⟨d5, P5, hd5, hC5, h⟩ := h
    refine z_callV (pc' := 46) (M' := mX9_worthFrom) (As := [.int y4, .int x2, .int x1]) dX9_begin_43 rfl ml_X9_244 me_X9_worthFrom hC5 rfl (by decide) rfl rfl hd5 (Nat.le_of_ble_eq_true rfl) ⟨Nat.le_refl _, Nat.le_refl _⟩ rfl ?_
    rintro _ _ ⟨y5, I5, L5, rfl, rfl, hP5⟩
    replace h := h y5 I5 L5 hP5
    refine z_lc_le (pc' := 50) (tgt := 54) dX9_begin_46 dX9_begin_47 rfl (by decide) (fun c6 => ?_) (fun c6 => ?_)
    · replace h := h.1 c6
      refine z_iload_n (pc' := 55) (x := x2) dX9_begin_54 rfl rfl ?_
      refine z_istore_n (pc' := 56) (ls' := [some (.ref 44), some (.int x1), some (.int x2), some (.int x3)]) dX9_begin_55 rfl (by decide) rfl ?_
      refine z_iinc (pc' := 59) (x := x3) (v := (x3 + (1 : Int32))) (ls' := [some (.ref 44), some (.int x1), some (.int x2), some (.int (x3 + (1 : Int32)))]) dX9_begin_56 rfl rfl (by rfl) (by decide) rfl ?_
      refine z_goto (pc' := 18) dX9_begin_59 (by decide) ?_
      exact h
    · replace h := h.2 c6
      refine z_iload_n (pc' := 51) (x := x3) dX9_begin_50 rfl rfl ?_
      refine z_goto (pc' := 55) dX9_begin_51 (by decide) ?_
      refine z_istore_n (pc' := 56) (ls' := [some (.ref 44), some (.int x1), some (.int x3), some (.int x3)]) dX9_begin_55 rfl (by decide) rfl ?_
      refine z_iinc (pc' := 59) (x := x3) (v := (x3 + (1 : Int32))) (ls' := [some (.ref 44), some (.int x1), some (.int x3), some (.int (x3 + (1 : Int32)))]) dX9_begin_56 rfl rfl (by rfl) (by decide) rfl ?_
      refine z_goto (pc' := 18) dX9_begin_59 (by decide) ?_
      exact h
set_option maxHeartbeats 4000000 in
set_option maxRecDepth 100000 in
theorem t_X9_fair {l : Launch} {G : zG} {d : Nat} {P : Int32 → zIM → zLM → Prop} {I : zIM} {L : zLM}   (h : ((¬ (I 44 6) = 0 → (∃ (d2 : Nat) (P2 : zIM → zLM → Prop), d2 + 1 ≤ d ∧ zCv l G d2 mX9_solves [.ref 44] I L P2 ∧ ∀ (I2 : zIM) (L2 : zLM), P2 I2 L2 → (K_X9_fair_21 l G d P I2 L2 (-1 : Int32) (0 : Int64) (0 : Int32)))) ∧ ((I 44 6) = 0 → (P (-5 : Int32) I L)))) : zCi l G d mX9_fair [.ref 44] I L P := by
  refine zCn.of (ls := [some (.ref 44), none, none, none, none, none, none, none, none, none, none, none]) (by decide) (Nat.le_of_ble_eq_true rfl) rfl ?_
  refine z_aload_n (pc' := 1) (x := 44) dX9_fair_0 rfl rfl ?_
  refine z_geti (pc' := 4) (x := (I 44 6)) dX9_fair_1 rfl fl_X9_96 rfl rfl rfl ?_
  refine z_if_ne (pc' := 7) (tgt := 10) dX9_fair_4 rfl (by decide) (fun c1 => ?_) (fun c1 => ?_)
  · replace h := h.1 c1
    refine z_aload_n (pc' := 11) (x := 44) dX9_fair_10 rfl rfl ?_
    obtain ⟨d2, P2, hd2, hC2, h⟩ := h
    refine z_callV (pc' := 14) (M' := mX9_solves) (As := []) dX9_fair_11 rfl ml_X9_241 me_X9_solves hC2 rfl (by decide) rfl rfl hd2 (Nat.le_of_ble_eq_true rfl) ⟨Nat.le_refl _, Nat.le_refl _⟩ rfl ?_
    rintro _ _ ⟨I2, L2, rfl, rfl, hP2⟩
    replace h := h I2 L2 hP2
    refine z_iconst (pc' := 15) (v := -1) dX9_fair_14 rfl (by decide) ?_
    refine z_istore_n (pc' := 16) (ls' := [some (.ref 44), some (.int (-1 : Int32)), none, none, none, none, none, none, none, none, none, none]) dX9_fair_15 rfl (by decide) rfl ?_
    refine z_lconst (pc' := 17) (v := 0) dX9_fair_16 rfl (by decide) ?_
    refine z_lstore_n (pc' := 18) (ls' := [some (.ref 44), some (.int (-1 : Int32)), some (.long (0 : Int64)), none, none, none, none, none, none, none, none, none]) dX9_fair_17 rfl (by decide) rfl ?_
    refine z_iconst (pc' := 19) (v := 0) dX9_fair_18 rfl (by decide) ?_
    refine z_istore (pc' := 21) (ls' := [some (.ref 44), some (.int (-1 : Int32)), some (.long (0 : Int64)), none, some (.int (0 : Int32)), none, none, none, none, none, none, none]) dX9_fair_19 rfl (by decide) rfl ?_
    exact h
  · replace h := h.2 c1
    refine z_bipush (pc' := 9) (v := -5) dX9_fair_7 rfl (by decide) ?_
    exact z_iret dX9_fair_9 rfl rfl ⟨Nat.le_refl _, Nat.le_refl _⟩ ⟨_, _, _, rfl, rfl, h⟩
set_option maxHeartbeats 4000000 in
set_option maxRecDepth 100000 in
theorem t_X9_fair_21 {l : Launch} {G : zG} {d : Nat} {P : Int32 → zIM → zLM → Prop} {I : zIM} {L : zLM} {x1 : Int32} {x2 : Int64} {x4 : Int32}   (h : (((I 44 6) ≤ x4 → (P x1 I L)) ∧ (¬ (I 44 6) ≤ x4 → (∃ (d2 : Nat) (P2 : Int32 → zIM → zLM → Prop), d2 + 1 ≤ d ∧ zCi l G d2 mX9_all [.ref 44] I L P2 ∧ ∀ (y2 : Int32) (I2 : zIM) (L2 : zLM), P2 y2 I2 L2 → (∃ (d3 : Nat) (P3 : Int64 → zIM → zLM → Prop), d3 + 1 ≤ d ∧ zCl l G d3 mX9_worthFrom [.ref 44, .int y2, .int x4, .int (0 : Int32)] I2 L2 P3 ∧ ∀ (y3 : Int64) (I3 : zIM) (L3 : zLM), P3 y3 I3 L3 → (K_X9_fair_50 l G d P I3 L3 x1 x2 x4 y3 y3 (1 : Int32))))))) : K_X9_fair_21 l G d P I L x1 x2 x4  := by
  refine z_iload (pc' := 23) (x := x4) dX9_fair_21 rfl rfl ?_
  refine z_aload_n (pc' := 24) (x := 44) dX9_fair_23 rfl rfl ?_
  refine z_geti (pc' := 27) (x := (I 44 6)) dX9_fair_24 rfl fl_X9_96 rfl rfl rfl ?_
  refine z_icmp_ge (pc' := 30) (tgt := 142) dX9_fair_27 rfl (by decide) (fun c1 => ?_) (fun c1 => ?_)
  · replace h := h.1 c1
    refine z_iload_n (pc' := 143) (x := x1) dX9_fair_142 rfl rfl ?_
    exact z_iret dX9_fair_143 rfl rfl ⟨Nat.le_refl _, Nat.le_refl _⟩ ⟨_, _, _, rfl, rfl, h⟩
  · replace h := h.2 c1
    refine z_aload_n (pc' := 31) (x := 44) dX9_fair_30 rfl rfl ?_
    refine z_aload_n (pc' := 32) (x := 44) dX9_fair_31 rfl rfl ?_
    obtain ⟨d2, P2, hd2, hC2, h⟩ := h
    refine z_callV (pc' := 35) (M' := mX9_all) (As := []) dX9_fair_32 rfl ml_X9_225 me_X9_all hC2 rfl (by decide) rfl rfl hd2 (Nat.le_of_ble_eq_true rfl) ⟨Nat.le_refl _, Nat.le_refl _⟩ rfl ?_
    rintro _ _ ⟨y2, I2, L2, rfl, rfl, hP2⟩
    replace h := h y2 I2 L2 hP2
    refine z_iload (pc' := 37) (x := x4) dX9_fair_35 rfl rfl ?_
    refine z_iconst (pc' := 38) (v := 0) dX9_fair_37 rfl (by decide) ?_
    obtain ⟨d3, P3, hd3, hC3, h⟩ := h
    refine z_callV (pc' := 41) (M' := mX9_worthFrom) (As := [.int y2, .int x4, .int (0 : Int32)]) dX9_fair_38 rfl ml_X9_244 me_X9_worthFrom hC3 rfl (by decide) rfl rfl hd3 (Nat.le_of_ble_eq_true rfl) ⟨Nat.le_refl _, Nat.le_refl _⟩ rfl ?_
    rintro _ _ ⟨y3, I3, L3, rfl, rfl, hP3⟩
    replace h := h y3 I3 L3 hP3
    refine z_lstore (pc' := 43) (ls' := [some (.ref 44), some (.int x1), some (.long x2), none, some (.int x4), some (.long y3), none, none, none, none, none, none]) dX9_fair_41 rfl (by decide) rfl ?_
    refine z_lload (pc' := 45) (x := y3) dX9_fair_43 rfl rfl ?_
    refine z_lstore (pc' := 47) (ls' := [some (.ref 44), some (.int x1), some (.long x2), none, some (.int x4), some (.long y3), none, some (.long y3), none, none, none, none]) dX9_fair_45 rfl (by decide) rfl ?_
    refine z_iconst (pc' := 48) (v := 1) dX9_fair_47 rfl (by decide) ?_
    refine z_istore (pc' := 50) (ls' := [some (.ref 44), some (.int x1), some (.long x2), none, some (.int x4), some (.long y3), none, some (.long y3), none, some (.int (1 : Int32)), none, none]) dX9_fair_48 rfl (by decide) rfl ?_
    exact h
set_option maxHeartbeats 4000000 in
set_option maxRecDepth 100000 in
theorem t_X9_fair_50 {l : Launch} {G : zG} {d : Nat} {P : Int32 → zIM → zLM → Prop} {I : zIM} {L : zLM} {x1 : Int32} {x2 : Int64} {x4 : Int32} {x5 : Int64} {x7 : Int64} {x9 : Int32}   (h : (((I 44 6) ≤ x9 → (((x1 < 0 → (K_X9_fair_21 l G d P I L x4 (x7 - x5) (x4 + (1 : Int32)))) ∧ (¬ x1 < 0 → (((x2 ≤ (x7 - x5) → (K_X9_fair_21 l G d P I L x1 x2 (x4 + (1 : Int32)))) ∧ (¬ x2 ≤ (x7 - x5) → (K_X9_fair_21 l G d P I L x4 (x7 - x5) (x4 + (1 : Int32)))))))))) ∧ (¬ (I 44 6) ≤ x9 → (∃ (d4 : Nat) (P4 : Int32 → zIM → zLM → Prop), d4 + 1 ≤ d ∧ zCi l G d4 mX9_all [.ref 44] I L P4 ∧ ∀ (y4 : Int32) (I4 : zIM) (L4 : zLM), P4 y4 I4 L4 → (∃ (d5 : Nat) (P5 : Int64 → zIM → zLM → Prop), d5 + 1 ≤ d ∧ zCl l G d5 mX9_worthFrom [.ref 44, .int y4, .int x4, .int x9] I4 L4 P5 ∧ ∀ (y5 : Int64) (I5 : zIM) (L5 : zLM), P5 y5 I5 L5 → (((x5 ≤ y5 → (((y5 ≤ x7 → (K_X9_fair_50 l G d P I5 L5 x1 x2 x4 x5 x7 (x9 + (1 : Int32)))) ∧ (¬ y5 ≤ x7 → (K_X9_fair_50 l G d P I5 L5 x1 x2 x4 x5 y5 (x9 + (1 : Int32))))))) ∧ (¬ x5 ≤ y5 → (((y5 ≤ x7 → (K_X9_fair_50 l G d P I5 L5 x1 x2 x4 y5 x7 (x9 + (1 : Int32)))) ∧ (¬ y5 ≤ x7 → (K_X9_fair_50 l G d P I5 L5 x1 x2 x4 y5 y5 (x9 + (1 : Int32)))))))))))))) : K_X9_fair_50 l G d P I L x1 x2 x4 x5 x7 x9  := by
  refine z_iload (pc' := 52) (x := x9) dX9_fair_50 rfl rfl ?_
  refine z_aload_n (pc' := 53) (x := 44) dX9_fair_52 rfl rfl ?_
  refine z_geti (pc' := 56) (x := (I 44 6)) dX9_fair_53 rfl fl_X9_96 rfl rfl rfl ?_
  refine z_icmp_ge (pc' := 59) (tgt := 113) dX9_fair_56 rfl (by decide) (fun c1 => ?_) (fun c1 => ?_)
  · replace h := h.1 c1
    refine z_iload_n (pc' := 114) (x := x1) dX9_fair_113 rfl rfl ?_
    refine z_if_lt (pc' := 117) (tgt := 127) dX9_fair_114 rfl (by decide) (fun c2 => ?_) (fun c2 => ?_)
    · replace h := h.1 c2
      refine z_iload (pc' := 129) (x := x4) dX9_fair_127 rfl rfl ?_
      refine z_istore_n (pc' := 130) (ls' := [some (.ref 44), some (.int x4), some (.long x2), none, some (.int x4), some (.long x5), none, some (.long x7), none, some (.int x9), none, none]) dX9_fair_129 rfl (by decide) rfl ?_
      refine z_lload (pc' := 132) (x := x7) dX9_fair_130 rfl rfl ?_
      refine z_lload (pc' := 134) (x := x5) dX9_fair_132 rfl rfl ?_
      refine z_lsub (pc' := 135) dX9_fair_134 rfl ?_
      refine z_lstore_n (pc' := 136) (ls' := [some (.ref 44), some (.int x4), some (.long (x7 - x5)), none, some (.int x4), some (.long x5), none, some (.long x7), none, some (.int x9), none, none]) dX9_fair_135 rfl (by decide) rfl ?_
      refine z_iinc (pc' := 139) (x := x4) (v := (x4 + (1 : Int32))) (ls' := [some (.ref 44), some (.int x4), some (.long (x7 - x5)), none, some (.int (x4 + (1 : Int32))), some (.long x5), none, some (.long x7), none, some (.int x9), none, none]) dX9_fair_136 rfl rfl (by rfl) (by decide) rfl ?_
      refine z_goto (pc' := 21) dX9_fair_139 (by decide) ?_
      refine z_sub (pc' := 0) [some (.ref 44), some (.int x4), some (.long (x7 - x5)), none, some (.int (x4 + (1 : Int32))), none, none, none, none, none, none, none] (zsub_s (zsub_s (zsub_s (zsub_n (zsub_s (zsub_n (zsub_n (zsub_n (zsub_n (zsub_n (zsub_n (zsub_n zsub_nil)))))))))))) ?_
      exact h
    · replace h := h.2 c2
      refine z_lload (pc' := 119) (x := x7) dX9_fair_117 rfl rfl ?_
      refine z_lload (pc' := 121) (x := x5) dX9_fair_119 rfl rfl ?_
      refine z_lsub (pc' := 122) dX9_fair_121 rfl ?_
      refine z_lload_n (pc' := 123) (x := x2) dX9_fair_122 rfl rfl ?_
      refine z_lc_ge (pc' := 127) (tgt := 136) dX9_fair_123 dX9_fair_124 rfl (by decide) (fun c3 => ?_) (fun c3 => ?_)
      · replace h := h.1 c3
        refine z_iinc (pc' := 139) (x := x4) (v := (x4 + (1 : Int32))) (ls' := [some (.ref 44), some (.int x1), some (.long x2), none, some (.int (x4 + (1 : Int32))), some (.long x5), none, some (.long x7), none, some (.int x9), none, none]) dX9_fair_136 rfl rfl (by rfl) (by decide) rfl ?_
        refine z_goto (pc' := 21) dX9_fair_139 (by decide) ?_
        refine z_sub (pc' := 0) [some (.ref 44), some (.int x1), some (.long x2), none, some (.int (x4 + (1 : Int32))), none, none, none, none, none, none, none] (zsub_s (zsub_s (zsub_s (zsub_n (zsub_s (zsub_n (zsub_n (zsub_n (zsub_n (zsub_n (zsub_n (zsub_n zsub_nil)))))))))))) ?_
        exact h
      · replace h := h.2 c3
        refine z_iload (pc' := 129) (x := x4) dX9_fair_127 rfl rfl ?_
        refine z_istore_n (pc' := 130) (ls' := [some (.ref 44), some (.int x4), some (.long x2), none, some (.int x4), some (.long x5), none, some (.long x7), none, some (.int x9), none, none]) dX9_fair_129 rfl (by decide) rfl ?_
        refine z_lload (pc' := 132) (x := x7) dX9_fair_130 rfl rfl ?_
        refine z_lload (pc' := 134) (x := x5) dX9_fair_132 rfl rfl ?_
        refine z_lsub (pc' := 135) dX9_fair_134 rfl ?_
        refine z_lstore_n (pc' := 136) (ls' := [some (.ref 44), some (.int x4), some (.long (x7 - x5)), none, some (.int x4), some (.long x5), none, some (.long x7), none, some (.int x9), none, none]) dX9_fair_135 rfl (by decide) rfl ?_
        refine z_iinc (pc' := 139) (x := x4) (v := (x4 + (1 : Int32))) (ls' := [some (.ref 44), some (.int x4), some (.long (x7 - x5)), none, some (.int (x4 + (1 : Int32))), some (.long x5), none, some (.long x7), none, some (.int x9), none, none]) dX9_fair_136 rfl rfl (by rfl) (by decide) rfl ?_
        refine z_goto (pc' := 21) dX9_fair_139 (by decide) ?_
        refine z_sub (pc' := 0) [some (.ref 44), some (.int x4), some (.long (x7 - x5)), none, some (.int (x4 + (1 : Int32))), none, none, none, none, none, none, none] (zsub_s (zsub_s (zsub_s (zsub_n (zsub_s (zsub_n (zsub_n (zsub_n (zsub_n (zsub_n (zsub_n (zsub_n zsub_nil)))))))))))) ?_
        exact h
  · replace h := h.2 c1
    refine z_aload_n (pc' := 60) (x := 44) dX9_fair_59 rfl rfl ?_
    refine z_aload_n (pc' := 61) (x := 44) dX9_fair_60 rfl rfl ?_
    obtain ⟨d4, P4, hd4, hC4, h⟩ := h
    refine z_callV (pc' := 64) (M' := mX9_all) (As := []) dX9_fair_61 rfl ml_X9_225 me_X9_all hC4 rfl (by decide) rfl rfl hd4 (Nat.le_of_ble_eq_true rfl) ⟨Nat.le_refl _, Nat.le_refl _⟩ rfl ?_
    rintro _ _ ⟨y4, I4, L4, rfl, rfl, hP4⟩
    replace h := h y4 I4 L4 hP4
    refine z_iload (pc' := 66) (x := x4) dX9_fair_64 rfl rfl ?_
    refine z_iload (pc' := 68) (x := x9) dX9_fair_66 rfl rfl ?_
    obtain ⟨d5, P5, hd5, hC5, h⟩ := h
    refine z_callV (pc' := 71) (M' := mX9_worthFrom) (As := [.int y4, .int x4, .int x9]) dX9_fair_68 rfl ml_X9_244 me_X9_worthFrom hC5 rfl (by decide) rfl rfl hd5 (Nat.le_of_ble_eq_true rfl) ⟨Nat.le_refl _, Nat.le_refl _⟩ rfl ?_
    rintro _ _ ⟨y5, I5, L5, rfl, rfl, hP5⟩
    replace h := h y5 I5 L5 hP5
    refine z_lstore (pc' := 73) (ls' := [some (.ref 44), some (.int x1), some (.long x2), none, some (.int x4), some (.long x5), none, some (.long x7), none, some (.int x9), some (.long y5), none]) dX9_fair_71 rfl (by decide) rfl ?_
    refine z_lload (pc' := 75) (x := y5) dX9_fair_73 rfl rfl ?_
    refine z_lload (pc' := 77) (x := x5) dX9_fair_75 rfl rfl ?_
    refine z_lc_ge (pc' := 81) (tgt := 86) dX9_fair_77 dX9_fair_78 rfl (by decide) (fun c6 => ?_) (fun c6 => ?_)
    · replace h := h.1 c6
      refine z_lload (pc' := 88) (x := x5) dX9_fair_86 rfl rfl ?_
      refine z_lstore (pc' := 90) (ls' := [some (.ref 44), some (.int x1), some (.long x2), none, some (.int x4), some (.long x5), none, some (.long x7), none, some (.int x9), some (.long y5), none]) dX9_fair_88 rfl (by decide) rfl ?_
      refine z_lload (pc' := 92) (x := y5) dX9_fair_90 rfl rfl ?_
      refine z_lload (pc' := 94) (x := x7) dX9_fair_92 rfl rfl ?_
      refine z_lc_le (pc' := 98) (tgt := 103) dX9_fair_94 dX9_fair_95 rfl (by decide) (fun c7 => ?_) (fun c7 => ?_)
      · replace h := h.1 c7
        refine z_lload (pc' := 105) (x := x7) dX9_fair_103 rfl rfl ?_
        refine z_lstore (pc' := 107) (ls' := [some (.ref 44), some (.int x1), some (.long x2), none, some (.int x4), some (.long x5), none, some (.long x7), none, some (.int x9), some (.long y5), none]) dX9_fair_105 rfl (by decide) rfl ?_
        refine z_iinc (pc' := 110) (x := x9) (v := (x9 + (1 : Int32))) (ls' := [some (.ref 44), some (.int x1), some (.long x2), none, some (.int x4), some (.long x5), none, some (.long x7), none, some (.int (x9 + (1 : Int32))), some (.long y5), none]) dX9_fair_107 rfl rfl (by rfl) (by decide) rfl ?_
        refine z_goto (pc' := 50) dX9_fair_110 (by decide) ?_
        refine z_sub (pc' := 0) [some (.ref 44), some (.int x1), some (.long x2), none, some (.int x4), some (.long x5), none, some (.long x7), none, some (.int (x9 + (1 : Int32))), none, none] (zsub_s (zsub_s (zsub_s (zsub_n (zsub_s (zsub_s (zsub_n (zsub_s (zsub_n (zsub_s (zsub_n (zsub_n zsub_nil)))))))))))) ?_
        exact h
      · replace h := h.2 c7
        refine z_lload (pc' := 100) (x := y5) dX9_fair_98 rfl rfl ?_
        refine z_goto (pc' := 105) dX9_fair_100 (by decide) ?_
        refine z_lstore (pc' := 107) (ls' := [some (.ref 44), some (.int x1), some (.long x2), none, some (.int x4), some (.long x5), none, some (.long y5), none, some (.int x9), some (.long y5), none]) dX9_fair_105 rfl (by decide) rfl ?_
        refine z_iinc (pc' := 110) (x := x9) (v := (x9 + (1 : Int32))) (ls' := [some (.ref 44), some (.int x1), some (.long x2), none, some (.int x4), some (.long x5), none, some (.long y5), none, some (.int (x9 + (1 : Int32))), some (.long y5), none]) dX9_fair_107 rfl rfl (by rfl) (by decide) rfl ?_
        refine z_goto (pc' := 50) dX9_fair_110 (by decide) ?_
        refine z_sub (pc' := 0) [some (.ref 44), some (.int x1), some (.long x2), none, some (.int x4), some (.long x5), none, some (.long y5), none, some (.int (x9 + (1 : Int32))), none, none] (zsub_s (zsub_s (zsub_s (zsub_n (zsub_s (zsub_s (zsub_n (zsub_s (zsub_n (zsub_s (zsub_n (zsub_n zsub_nil)))))))))))) ?_
        exact h
    · replace h := h.2 c6
      refine z_lload (pc' := 83) (x := y5) dX9_fair_81 rfl rfl ?_
      refine z_goto (pc' := 88) dX9_fair_83 (by decide) ?_
      refine z_lstore (pc' := 90) (ls' := [some (.ref 44), some (.int x1), some (.long x2), none, some (.int x4), some (.long y5), none, some (.long x7), none, some (.int x9), some (.long y5), none]) dX9_fair_88 rfl (by decide) rfl ?_
      refine z_lload (pc' := 92) (x := y5) dX9_fair_90 rfl rfl ?_
      refine z_lload (pc' := 94) (x := x7) dX9_fair_92 rfl rfl ?_
      refine z_lc_le (pc' := 98) (tgt := 103) dX9_fair_94 dX9_fair_95 rfl (by decide) (fun c8 => ?_) (fun c8 => ?_)
      · replace h := h.1 c8
        refine z_lload (pc' := 105) (x := x7) dX9_fair_103 rfl rfl ?_
        refine z_lstore (pc' := 107) (ls' := [some (.ref 44), some (.int x1), some (.long x2), none, some (.int x4), some (.long y5), none, some (.long x7), none, some (.int x9), some (.long y5), none]) dX9_fair_105 rfl (by decide) rfl ?_
        refine z_iinc (pc' := 110) (x := x9) (v := (x9 + (1 : Int32))) (ls' := [some (.ref 44), some (.int x1), some (.long x2), none, some (.int x4), some (.long y5), none, some (.long x7), none, some (.int (x9 + (1 : Int32))), some (.long y5), none]) dX9_fair_107 rfl rfl (by rfl) (by decide) rfl ?_
        refine z_goto (pc' := 50) dX9_fair_110 (by decide) ?_
        refine z_sub (pc' := 0) [some (.ref 44), some (.int x1), some (.long x2), none, some (.int x4), some (.long y5), none, some (.long x7), none, some (.int (x9 + (1 : Int32))), none, none] (zsub_s (zsub_s (zsub_s (zsub_n (zsub_s (zsub_s (zsub_n (zsub_s (zsub_n (zsub_s (zsub_n (zsub_n zsub_nil)))))))))))) ?_
        exact h
      · replace h := h.2 c8
        refine z_lload (pc' := 100) (x := y5) dX9_fair_98 rfl rfl ?_
        refine z_goto (pc' := 105) dX9_fair_100 (by decide) ?_
        refine z_lstore (pc' := 107) (ls' := [some (.ref 44), some (.int x1), some (.long x2), none, some (.int x4), some (.long y5), none, some (.long y5), none, some (.int x9), some (.long y5), none]) dX9_fair_105 rfl (by decide) rfl ?_
        refine z_iinc (pc' := 110) (x := x9) (v := (x9 + (1 : Int32))) (ls' := [some (.ref 44), some (.int x1), some (.long x2), none, some (.int x4), some (.long y5), none, some (.long y5), none, some (.int (x9 + (1 : Int32))), some (.long y5), none]) dX9_fair_107 rfl rfl (by rfl) (by decide) rfl ?_
        refine z_goto (pc' := 50) dX9_fair_110 (by decide) ?_
        refine z_sub (pc' := 0) [some (.ref 44), some (.int x1), some (.long x2), none, some (.int x4), some (.long y5), none, some (.long y5), none, some (.int (x9 + (1 : Int32))), none, none] (zsub_s (zsub_s (zsub_s (zsub_n (zsub_s (zsub_s (zsub_n (zsub_s (zsub_n (zsub_s (zsub_n (zsub_n zsub_nil)))))))))))) ?_
        exact h
set_option maxHeartbeats 4000000 in
set_option maxRecDepth 100000 in
theorem t_X9_wouldOf {l : Launch} {G : zG} {d : Nat} {P : Int32 → zIM → zLM → Prop} {I : zIM} {L : zLM} {x1 : Int32}  (h : ∃ j1 : Nat, ((4 : Int32) + x1) = nI j1 ∧ j1 < 12 ∧ (∃ (d2 : Nat) (P2 : Int64 → zIM → zLM → Prop), d2 + 1 ≤ d ∧ zCl l G d2 mX9_worthOf [.ref 44, .int x1] I L P2 ∧ ∀ (y2 : Int64) (I2 : zIM) (L2 : zLM), P2 y2 I2 L2 → (K_X9_wouldOf_21 l G d P I2 L2 x1 (I 45 j1) y2 (I 45 j1) (0 : Int32)))) : zCi l G d mX9_wouldOf [.ref 44, .int x1] I L P := by
  refine zCn.of (ls := [some (.ref 44), some (.int x1), none, none, none, none, none, none, none]) (by decide) (Nat.le_of_ble_eq_true rfl) rfl ?_
  refine z_aload_n (pc' := 1) (x := 44) dX9_wouldOf_0 rfl rfl ?_
  refine z_getr (pc' := 4) (x := 45) dX9_wouldOf_1 rfl fl_X9_9 rfl rfl rfl ?_
  refine z_iconst (pc' := 5) (v := 4) dX9_wouldOf_4 rfl (by decide) ?_
  refine z_iload_n (pc' := 6) (x := x1) dX9_wouldOf_5 rfl rfl ?_
  refine z_iadd (pc' := 7) dX9_wouldOf_6 rfl ?_
  obtain ⟨j1, ha1, hb1, h⟩ := h
  refine z_iald (pc' := 8) (x := (I 45 j1)) (j := j1) dX9_wouldOf_7 rfl rfl (by decide) ha1 hb1 rfl ?_
  refine z_istore_n (pc' := 9) (ls' := [some (.ref 44), some (.int x1), some (.int (I 45 j1)), none, none, none, none, none, none]) dX9_wouldOf_8 rfl (by decide) rfl ?_
  refine z_aload_n (pc' := 10) (x := 44) dX9_wouldOf_9 rfl rfl ?_
  refine z_iload_n (pc' := 11) (x := x1) dX9_wouldOf_10 rfl rfl ?_
  obtain ⟨d2, P2, hd2, hC2, h⟩ := h
  refine z_callV (pc' := 14) (M' := mX9_worthOf) (As := [.int x1]) dX9_wouldOf_11 rfl ml_X9_262 me_X9_worthOf hC2 rfl (by decide) rfl rfl hd2 (Nat.le_of_ble_eq_true rfl) ⟨Nat.le_refl _, Nat.le_refl _⟩ rfl ?_
  rintro _ _ ⟨y2, I2, L2, rfl, rfl, hP2⟩
  replace h := h y2 I2 L2 hP2
  refine z_lstore_n (pc' := 15) (ls' := [some (.ref 44), some (.int x1), some (.int (I 45 j1)), some (.long y2), none, none, none, none, none]) dX9_wouldOf_14 rfl (by decide) rfl ?_
  refine z_iload_n (pc' := 16) (x := (I 45 j1)) dX9_wouldOf_15 rfl rfl ?_
  refine z_istore (pc' := 18) (ls' := [some (.ref 44), some (.int x1), some (.int (I 45 j1)), some (.long y2), none, some (.int (I 45 j1)), none, none, none]) dX9_wouldOf_16 rfl (by decide) rfl ?_
  refine z_iconst (pc' := 19) (v := 0) dX9_wouldOf_18 rfl (by decide) ?_
  refine z_istore (pc' := 21) (ls' := [some (.ref 44), some (.int x1), some (.int (I 45 j1)), some (.long y2), none, some (.int (I 45 j1)), some (.int (0 : Int32)), none, none]) dX9_wouldOf_19 rfl (by decide) rfl ?_
  exact h
set_option maxHeartbeats 4000000 in
set_option maxRecDepth 100000 in
theorem t_X9_wouldOf_21 {l : Launch} {G : zG} {d : Nat} {P : Int32 → zIM → zLM → Prop} {I : zIM} {L : zLM} {x1 : Int32} {x2 : Int32} {x3 : Int64} {x5 : Int32} {x6 : Int32}   (h : (((6 : Int32) ≤ x6 → (∃ j2 : Nat, ((4 : Int32) + x1) = nI j2 ∧ j2 < 12 ∧ (P x5 (xI I 45 j2 x2) L))) ∧ (¬ (6 : Int32) ≤ x6 → (∃ j3 : Nat, ((4 : Int32) + x1) = nI j3 ∧ j3 < 12 ∧ (∃ (d4 : Nat) (P4 : Int64 → zIM → zLM → Prop), d4 + 1 ≤ d ∧ zCl l G d4 mX9_worthOf [.ref 44, .int x1] (xI I 45 j3 x6) L P4 ∧ ∀ (y4 : Int64) (I4 : zIM) (L4 : zLM), P4 y4 I4 L4 → (((y4 ≤ x3 → (((y4 ≤ x3 → (K_X9_wouldOf_21 l G d P I4 L4 x1 x2 x3 x5 (x6 + (1 : Int32)))) ∧ (¬ y4 ≤ x3 → (K_X9_wouldOf_21 l G d P I4 L4 x1 x2 y4 x5 (x6 + (1 : Int32))))))) ∧ (¬ y4 ≤ x3 → (((y4 ≤ x3 → (K_X9_wouldOf_21 l G d P I4 L4 x1 x2 x3 x6 (x6 + (1 : Int32)))) ∧ (¬ y4 ≤ x3 → (K_X9_wouldOf_21 l G d P I4 L4 x1 x2 y4 x6 (x6 + (1 : Int32)))))))))))))) : K_X9_wouldOf_21 l G d P I L x1 x2 x3 x5 x6  := by
  refine z_iload (pc' := 23) (x := x6) dX9_wouldOf_21 rfl rfl ?_
  refine z_bipush (pc' := 25) (v := 6) dX9_wouldOf_23 rfl (by decide) ?_
  refine z_icmp_ge (pc' := 28) (tgt := 81) dX9_wouldOf_25 rfl (by decide) (fun c1 => ?_) (fun c1 => ?_)
  · replace h := h.1 c1
    refine z_aload_n (pc' := 82) (x := 44) dX9_wouldOf_81 rfl rfl ?_
    refine z_getr (pc' := 85) (x := 45) dX9_wouldOf_82 rfl fl_X9_9 rfl rfl rfl ?_
    refine z_iconst (pc' := 86) (v := 4) dX9_wouldOf_85 rfl (by decide) ?_
    refine z_iload_n (pc' := 87) (x := x1) dX9_wouldOf_86 rfl rfl ?_
    refine z_iadd (pc' := 88) dX9_wouldOf_87 rfl ?_
    refine z_iload_n (pc' := 89) (x := x2) dX9_wouldOf_88 rfl rfl ?_
    obtain ⟨j2, ha2, hb2, h⟩ := h
    refine z_iast (pc' := 90) (j := j2) (w' := zs (xI I 45 j2 x2) L) dX9_wouldOf_89 rfl rfl (by decide) ha2 hb2 rfl ?_
    refine z_iload (pc' := 92) (x := x5) dX9_wouldOf_90 rfl rfl ?_
    exact z_iret dX9_wouldOf_92 rfl rfl ⟨Nat.le_refl _, Nat.le_refl _⟩ ⟨_, _, _, rfl, rfl, h⟩
  · replace h := h.2 c1
    refine z_aload_n (pc' := 29) (x := 44) dX9_wouldOf_28 rfl rfl ?_
    refine z_getr (pc' := 32) (x := 45) dX9_wouldOf_29 rfl fl_X9_9 rfl rfl rfl ?_
    refine z_iconst (pc' := 33) (v := 4) dX9_wouldOf_32 rfl (by decide) ?_
    refine z_iload_n (pc' := 34) (x := x1) dX9_wouldOf_33 rfl rfl ?_
    refine z_iadd (pc' := 35) dX9_wouldOf_34 rfl ?_
    refine z_iload (pc' := 37) (x := x6) dX9_wouldOf_35 rfl rfl ?_
    obtain ⟨j3, ha3, hb3, h⟩ := h
    refine z_iast (pc' := 38) (j := j3) (w' := zs (xI I 45 j3 x6) L) dX9_wouldOf_37 rfl rfl (by decide) ha3 hb3 rfl ?_
    refine z_aload_n (pc' := 39) (x := 44) dX9_wouldOf_38 rfl rfl ?_
    refine z_iload_n (pc' := 40) (x := x1) dX9_wouldOf_39 rfl rfl ?_
    obtain ⟨d4, P4, hd4, hC4, h⟩ := h
    refine z_callV (pc' := 43) (M' := mX9_worthOf) (As := [.int x1]) dX9_wouldOf_40 rfl ml_X9_262 me_X9_worthOf hC4 rfl (by decide) rfl rfl hd4 (Nat.le_of_ble_eq_true rfl) ⟨Nat.le_refl _, Nat.le_refl _⟩ rfl ?_
    rintro _ _ ⟨y4, I4, L4, rfl, rfl, hP4⟩
    replace h := h y4 I4 L4 hP4
    refine z_lstore (pc' := 45) (ls' := [some (.ref 44), some (.int x1), some (.int x2), some (.long x3), none, some (.int x5), some (.int x6), some (.long y4), none]) dX9_wouldOf_43 rfl (by decide) rfl ?_
    refine z_lload (pc' := 47) (x := y4) dX9_wouldOf_45 rfl rfl ?_
    refine z_lload_n (pc' := 48) (x := x3) dX9_wouldOf_47 rfl rfl ?_
    refine z_lc_le (pc' := 52) (tgt := 57) dX9_wouldOf_48 dX9_wouldOf_49 rfl (by decide) (fun c5 => ?_) (fun c5 => ?_)
    · replace h := h.1 c5
      refine z_iload (pc' := 59) (x := x5) dX9_wouldOf_57 rfl rfl ?_
      refine z_istore (pc' := 61) (ls' := [some (.ref 44), some (.int x1), some (.int x2), some (.long x3), none, some (.int x5), some (.int x6), some (.long y4), none]) dX9_wouldOf_59 rfl (by decide) rfl ?_
      refine z_lload (pc' := 63) (x := y4) dX9_wouldOf_61 rfl rfl ?_
      refine z_lload_n (pc' := 64) (x := x3) dX9_wouldOf_63 rfl rfl ?_
      refine z_lc_le (pc' := 68) (tgt := 73) dX9_wouldOf_64 dX9_wouldOf_65 rfl (by decide) (fun c6 => ?_) (fun c6 => ?_)
      · replace h := h.1 c6
        refine z_lload_n (pc' := 74) (x := x3) dX9_wouldOf_73 rfl rfl ?_
        refine z_lstore_n (pc' := 75) (ls' := [some (.ref 44), some (.int x1), some (.int x2), some (.long x3), none, some (.int x5), some (.int x6), some (.long y4), none]) dX9_wouldOf_74 rfl (by decide) rfl ?_
        refine z_iinc (pc' := 78) (x := x6) (v := (x6 + (1 : Int32))) (ls' := [some (.ref 44), some (.int x1), some (.int x2), some (.long x3), none, some (.int x5), some (.int (x6 + (1 : Int32))), some (.long y4), none]) dX9_wouldOf_75 rfl rfl (by rfl) (by decide) rfl ?_
        refine z_goto (pc' := 21) dX9_wouldOf_78 (by decide) ?_
        refine z_sub (pc' := 0) [some (.ref 44), some (.int x1), some (.int x2), some (.long x3), none, some (.int x5), some (.int (x6 + (1 : Int32))), none, none] (zsub_s (zsub_s (zsub_s (zsub_s (zsub_n (zsub_s (zsub_s (zsub_n (zsub_n zsub_nil))))))))) ?_
        exact h
      · replace h := h.2 c6
        refine z_lload (pc' := 70) (x := y4) dX9_wouldOf_68 rfl rfl ?_
        refine z_goto (pc' := 74) dX9_wouldOf_70 (by decide) ?_
        refine z_lstore_n (pc' := 75) (ls' := [some (.ref 44), some (.int x1), some (.int x2), some (.long y4), none, some (.int x5), some (.int x6), some (.long y4), none]) dX9_wouldOf_74 rfl (by decide) rfl ?_
        refine z_iinc (pc' := 78) (x := x6) (v := (x6 + (1 : Int32))) (ls' := [some (.ref 44), some (.int x1), some (.int x2), some (.long y4), none, some (.int x5), some (.int (x6 + (1 : Int32))), some (.long y4), none]) dX9_wouldOf_75 rfl rfl (by rfl) (by decide) rfl ?_
        refine z_goto (pc' := 21) dX9_wouldOf_78 (by decide) ?_
        refine z_sub (pc' := 0) [some (.ref 44), some (.int x1), some (.int x2), some (.long y4), none, some (.int x5), some (.int (x6 + (1 : Int32))), none, none] (zsub_s (zsub_s (zsub_s (zsub_s (zsub_n (zsub_s (zsub_s (zsub_n (zsub_n zsub_nil))))))))) ?_
        exact h
    · replace h := h.2 c5
      refine z_iload (pc' := 54) (x := x6) dX9_wouldOf_52 rfl rfl ?_
      refine z_goto (pc' := 59) dX9_wouldOf_54 (by decide) ?_
      refine z_istore (pc' := 61) (ls' := [some (.ref 44), some (.int x1), some (.int x2), some (.long x3), none, some (.int x6), some (.int x6), some (.long y4), none]) dX9_wouldOf_59 rfl (by decide) rfl ?_
      refine z_lload (pc' := 63) (x := y4) dX9_wouldOf_61 rfl rfl ?_
      refine z_lload_n (pc' := 64) (x := x3) dX9_wouldOf_63 rfl rfl ?_
      refine z_lc_le (pc' := 68) (tgt := 73) dX9_wouldOf_64 dX9_wouldOf_65 rfl (by decide) (fun c7 => ?_) (fun c7 => ?_)
      · replace h := h.1 c7
        refine z_lload_n (pc' := 74) (x := x3) dX9_wouldOf_73 rfl rfl ?_
        refine z_lstore_n (pc' := 75) (ls' := [some (.ref 44), some (.int x1), some (.int x2), some (.long x3), none, some (.int x6), some (.int x6), some (.long y4), none]) dX9_wouldOf_74 rfl (by decide) rfl ?_
        refine z_iinc (pc' := 78) (x := x6) (v := (x6 + (1 : Int32))) (ls' := [some (.ref 44), some (.int x1), some (.int x2), some (.long x3), none, some (.int x6), some (.int (x6 + (1 : Int32))), some (.long y4), none]) dX9_wouldOf_75 rfl rfl (by rfl) (by decide) rfl ?_
        refine z_goto (pc' := 21) dX9_wouldOf_78 (by decide) ?_
        refine z_sub (pc' := 0) [some (.ref 44), some (.int x1), some (.int x2), some (.long x3), none, some (.int x6), some (.int (x6 + (1 : Int32))), none, none] (zsub_s (zsub_s (zsub_s (zsub_s (zsub_n (zsub_s (zsub_s (zsub_n (zsub_n zsub_nil))))))))) ?_
        exact h
      · replace h := h.2 c7
        refine z_lload (pc' := 70) (x := y4) dX9_wouldOf_68 rfl rfl ?_
        refine z_goto (pc' := 74) dX9_wouldOf_70 (by decide) ?_
        refine z_lstore_n (pc' := 75) (ls' := [some (.ref 44), some (.int x1), some (.int x2), some (.long y4), none, some (.int x6), some (.int x6), some (.long y4), none]) dX9_wouldOf_74 rfl (by decide) rfl ?_
        refine z_iinc (pc' := 78) (x := x6) (v := (x6 + (1 : Int32))) (ls' := [some (.ref 44), some (.int x1), some (.int x2), some (.long y4), none, some (.int x6), some (.int (x6 + (1 : Int32))), some (.long y4), none]) dX9_wouldOf_75 rfl rfl (by rfl) (by decide) rfl ?_
        refine z_goto (pc' := 21) dX9_wouldOf_78 (by decide) ?_
        refine z_sub (pc' := 0) [some (.ref 44), some (.int x1), some (.int x2), some (.long y4), none, some (.int x6), some (.int (x6 + (1 : Int32))), none, none] (zsub_s (zsub_s (zsub_s (zsub_s (zsub_n (zsub_s (zsub_s (zsub_n (zsub_n zsub_nil))))))))) ?_
        exact h
set_option maxHeartbeats 4000000 in
set_option maxRecDepth 100000 in
theorem t_X9_would {l : Launch} {G : zG} {d : Nat} {P : Int32 → zIM → zLM → Prop} {I : zIM} {L : zLM} {x1 : Int32}  (h : ∃ (d1 : Nat) (P1 : Int32 → zIM → zLM → Prop), d1 + 1 ≤ d ∧ zCi l G d1 mX9_isPlayer [.ref 44, .int x1] I L P1 ∧ ∀ (y1 : Int32) (I1 : zIM) (L1 : zLM), P1 y1 I1 L1 → (((y1 = 0 → (P (-1 : Int32) I1 L1)) ∧ (¬ y1 = 0 → (∃ (d3 : Nat) (P3 : Int32 → zIM → zLM → Prop), d3 + 1 ≤ d ∧ zCi l G d3 mX9_wouldOf [.ref 44, .int x1] I1 L1 P3 ∧ ∀ (y3 : Int32) (I3 : zIM) (L3 : zLM), P3 y3 I3 L3 → (P y3 I3 L3)))))) : zCi l G d mX9_would [.ref 44, .int x1] I L P := by
  refine zCn.of (ls := [some (.ref 44), some (.int x1)]) (by decide) (Nat.le_of_ble_eq_true rfl) rfl ?_
  refine z_aload_n (pc' := 1) (x := 44) dX9_would_0 rfl rfl ?_
  refine z_iload_n (pc' := 2) (x := x1) dX9_would_1 rfl rfl ?_
  obtain ⟨d1, P1, hd1, hC1, h⟩ := h
  refine z_callV (pc' := 5) (M' := mX9_isPlayer) (As := [.int x1]) dX9_would_2 rfl ml_X9_124 me_X9_isPlayer hC1 rfl (by decide) rfl rfl hd1 (Nat.le_of_ble_eq_true rfl) ⟨Nat.le_refl _, Nat.le_refl _⟩ rfl ?_
  rintro _ _ ⟨y1, I1, L1, rfl, rfl, hP1⟩
  replace h := h y1 I1 L1 hP1
  refine z_if_eq (pc' := 8) (tgt := 16) dX9_would_5 rfl (by decide) (fun c2 => ?_) (fun c2 => ?_)
  · replace h := h.1 c2
    refine z_iconst (pc' := 17) (v := -1) dX9_would_16 rfl (by decide) ?_
    exact z_iret dX9_would_17 rfl rfl ⟨Nat.le_refl _, Nat.le_refl _⟩ ⟨_, _, _, rfl, rfl, h⟩
  · replace h := h.2 c2
    refine z_aload_n (pc' := 9) (x := 44) dX9_would_8 rfl rfl ?_
    refine z_iload_n (pc' := 10) (x := x1) dX9_would_9 rfl rfl ?_
    obtain ⟨d3, P3, hd3, hC3, h⟩ := h
    refine z_callV (pc' := 13) (M' := mX9_wouldOf) (As := [.int x1]) dX9_would_10 rfl ml_X9_276 me_X9_wouldOf hC3 rfl (by decide) rfl rfl hd3 (Nat.le_of_ble_eq_true rfl) ⟨Nat.le_refl _, Nat.le_refl _⟩ rfl ?_
    rintro _ _ ⟨y3, I3, L3, rfl, rfl, hP3⟩
    replace h := h y3 I3 L3 hP3
    refine z_goto (pc' := 17) dX9_would_13 (by decide) ?_
    exact z_iret dX9_would_17 rfl rfl ⟨Nat.le_refl _, Nat.le_refl _⟩ ⟨_, _, _, rfl, rfl, h⟩
set_option maxHeartbeats 4000000 in
set_option maxRecDepth 100000 in
theorem t_X9_rest {l : Launch} {G : zG} {d : Nat} {P : Int32 → zIM → zLM → Prop} {I : zIM} {L : zLM}   (h : K_X9_rest_2 l G d P I L (0 : Int32)) : zCi l G d mX9_rest [.ref 44] I L P := by
  refine zCn.of (ls := [some (.ref 44), none]) (by decide) (Nat.le_of_ble_eq_true rfl) rfl ?_
  refine z_iconst (pc' := 1) (v := 0) dX9_rest_0 rfl (by decide) ?_
  refine z_istore_n (pc' := 2) (ls' := [some (.ref 44), some (.int (0 : Int32))]) dX9_rest_1 rfl (by decide) rfl ?_
  exact h
set_option maxHeartbeats 4000000 in
set_option maxRecDepth 100000 in
theorem t_X9_rest_2 {l : Launch} {G : zG} {d : Nat} {P : Int32 → zIM → zLM → Prop} {I : zIM} {L : zLM} {x1 : Int32}   (h : (((I 44 6) ≤ x1 → (P (-2 : Int32) I L)) ∧ (¬ (I 44 6) ≤ x1 → (∃ (d2 : Nat) (P2 : Int32 → zIM → zLM → Prop), d2 + 1 ≤ d ∧ zCi l G d2 mX9_wouldOf [.ref 44, .int x1] I L P2 ∧ ∀ (y2 : Int32) (I2 : zIM) (L2 : zLM), P2 y2 I2 L2 → (∃ j3 : Nat, ((4 : Int32) + x1) = nI j3 ∧ j3 < 12 ∧ (((y2 = (I2 45 j3) → (K_X9_rest_2 l G d P I2 L2 (x1 + (1 : Int32)))) ∧ (¬ y2 = (I2 45 j3) → (P x1 I2 L2))))))))) : K_X9_rest_2 l G d P I L x1  := by
  refine z_iload_n (pc' := 3) (x := x1) dX9_rest_2 rfl rfl ?_
  refine z_aload_n (pc' := 4) (x := 44) dX9_rest_3 rfl rfl ?_
  refine z_geti (pc' := 7) (x := (I 44 6)) dX9_rest_4 rfl fl_X9_96 rfl rfl rfl ?_
  refine z_icmp_ge (pc' := 10) (tgt := 34) dX9_rest_7 rfl (by decide) (fun c1 => ?_) (fun c1 => ?_)
  · replace h := h.1 c1
    refine z_bipush (pc' := 36) (v := -2) dX9_rest_34 rfl (by decide) ?_
    exact z_iret dX9_rest_36 rfl rfl ⟨Nat.le_refl _, Nat.le_refl _⟩ ⟨_, _, _, rfl, rfl, h⟩
  · replace h := h.2 c1
    refine z_aload_n (pc' := 11) (x := 44) dX9_rest_10 rfl rfl ?_
    refine z_iload_n (pc' := 12) (x := x1) dX9_rest_11 rfl rfl ?_
    obtain ⟨d2, P2, hd2, hC2, h⟩ := h
    refine z_callV (pc' := 15) (M' := mX9_wouldOf) (As := [.int x1]) dX9_rest_12 rfl ml_X9_276 me_X9_wouldOf hC2 rfl (by decide) rfl rfl hd2 (Nat.le_of_ble_eq_true rfl) ⟨Nat.le_refl _, Nat.le_refl _⟩ rfl ?_
    rintro _ _ ⟨y2, I2, L2, rfl, rfl, hP2⟩
    replace h := h y2 I2 L2 hP2
    refine z_aload_n (pc' := 16) (x := 44) dX9_rest_15 rfl rfl ?_
    refine z_getr (pc' := 19) (x := 45) dX9_rest_16 rfl fl_X9_9 rfl rfl rfl ?_
    refine z_iconst (pc' := 20) (v := 4) dX9_rest_19 rfl (by decide) ?_
    refine z_iload_n (pc' := 21) (x := x1) dX9_rest_20 rfl rfl ?_
    refine z_iadd (pc' := 22) dX9_rest_21 rfl ?_
    obtain ⟨j3, ha3, hb3, h⟩ := h
    refine z_iald (pc' := 23) (x := (I2 45 j3)) (j := j3) dX9_rest_22 rfl rfl (by decide) ha3 hb3 rfl ?_
    refine z_icmp_eq (pc' := 26) (tgt := 28) dX9_rest_23 rfl (by decide) (fun c4 => ?_) (fun c4 => ?_)
    · replace h := h.1 c4
      refine z_iinc (pc' := 31) (x := x1) (v := (x1 + (1 : Int32))) (ls' := [some (.ref 44), some (.int (x1 + (1 : Int32)))]) dX9_rest_28 rfl rfl (by rfl) (by decide) rfl ?_
      refine z_goto (pc' := 2) dX9_rest_31 (by decide) ?_
      exact h
    · replace h := h.2 c4
      refine z_iload_n (pc' := 27) (x := x1) dX9_rest_26 rfl rfl ?_
      exact z_iret dX9_rest_27 rfl rfl ⟨Nat.le_refl _, Nat.le_refl _⟩ ⟨_, _, _, rfl, rfl, h⟩
set_option maxHeartbeats 4000000 in
set_option maxRecDepth 100000 in
theorem t_X9_settle {l : Launch} {G : zG} {d : Nat} {P : Int32 → zIM → zLM → Prop} {I : zIM} {L : zLM} {x1 : Int32}  (h : ((x1 = (-1 : Int32) → (K_X9_settle_17 l G d P I L x1 (0 : Int32))) ∧ (¬ x1 = (-1 : Int32) → (∃ (d2 : Nat) (P2 : Int32 → zIM → zLM → Prop), d2 + 1 ≤ d ∧ zCi l G d2 mX9_isPlayer [.ref 44, .int x1] I L P2 ∧ ∀ (y2 : Int32) (I2 : zIM) (L2 : zLM), P2 y2 I2 L2 → (((¬ y2 = 0 → (K_X9_settle_17 l G d P I2 L2 x1 (0 : Int32))) ∧ (y2 = 0 → (P (-1 : Int32) I2 L2)))))))) : zCi l G d mX9_settle [.ref 44, .int x1] I L P := by
  refine zCn.of (ls := [some (.ref 44), some (.int x1), none, none, none, none]) (by decide) (Nat.le_of_ble_eq_true rfl) rfl ?_
  refine z_iload_n (pc' := 1) (x := x1) dX9_settle_0 rfl rfl ?_
  refine z_iconst (pc' := 2) (v := -1) dX9_settle_1 rfl (by decide) ?_
  refine z_icmp_eq (pc' := 5) (tgt := 15) dX9_settle_2 rfl (by decide) (fun c1 => ?_) (fun c1 => ?_)
  · replace h := h.1 c1
    refine z_iconst (pc' := 16) (v := 0) dX9_settle_15 rfl (by decide) ?_
    refine z_istore_n (pc' := 17) (ls' := [some (.ref 44), some (.int x1), some (.int (0 : Int32)), none, none, none]) dX9_settle_16 rfl (by decide) rfl ?_
    exact h
  · replace h := h.2 c1
    refine z_aload_n (pc' := 6) (x := 44) dX9_settle_5 rfl rfl ?_
    refine z_iload_n (pc' := 7) (x := x1) dX9_settle_6 rfl rfl ?_
    obtain ⟨d2, P2, hd2, hC2, h⟩ := h
    refine z_callV (pc' := 10) (M' := mX9_isPlayer) (As := [.int x1]) dX9_settle_7 rfl ml_X9_124 me_X9_isPlayer hC2 rfl (by decide) rfl rfl hd2 (Nat.le_of_ble_eq_true rfl) ⟨Nat.le_refl _, Nat.le_refl _⟩ rfl ?_
    rintro _ _ ⟨y2, I2, L2, rfl, rfl, hP2⟩
    replace h := h y2 I2 L2 hP2
    refine z_if_ne (pc' := 13) (tgt := 15) dX9_settle_10 rfl (by decide) (fun c3 => ?_) (fun c3 => ?_)
    · replace h := h.1 c3
      refine z_iconst (pc' := 16) (v := 0) dX9_settle_15 rfl (by decide) ?_
      refine z_istore_n (pc' := 17) (ls' := [some (.ref 44), some (.int x1), some (.int (0 : Int32)), none, none, none]) dX9_settle_16 rfl (by decide) rfl ?_
      exact h
    · replace h := h.2 c3
      refine z_iconst (pc' := 14) (v := -1) dX9_settle_13 rfl (by decide) ?_
      exact z_iret dX9_settle_14 rfl rfl ⟨Nat.le_refl _, Nat.le_refl _⟩ ⟨_, _, _, rfl, rfl, h⟩
set_option maxHeartbeats 4000000 in
set_option maxRecDepth 100000 in
theorem t_X9_settle_17 {l : Launch} {G : zG} {d : Nat} {P : Int32 → zIM → zLM → Prop} {I : zIM} {L : zLM} {x1 : Int32} {x2 : Int32}   (h : (((I 44 6) ≤ x2 → (∃ (d2 : Nat) (P2 : Int32 → zIM → zLM → Prop), d2 + 1 ≤ d ∧ zCi l G d2 mX9_rest [.ref 44] I L P2 ∧ ∀ (y2 : Int32) (I2 : zIM) (L2 : zLM), P2 y2 I2 L2 → (K_X9_settle_52 l G d P I2 L2 x1 (0 : Int32) y2))) ∧ (¬ (I 44 6) ≤ x2 → (∃ j3 : Nat, ((4 : Int32) + x2) = nI j3 ∧ j3 < 12 ∧ (∃ j4 : Nat, x2 = nI j4 ∧ j4 < 4 ∧ (K_X9_settle_17 l G d P (xI I 62 j4 (I 45 j3)) L x1 (x2 + (1 : Int32)))))))) : K_X9_settle_17 l G d P I L x1 x2  := by
  refine z_iload_n (pc' := 18) (x := x2) dX9_settle_17 rfl rfl ?_
  refine z_aload_n (pc' := 19) (x := 44) dX9_settle_18 rfl rfl ?_
  refine z_geti (pc' := 22) (x := (I 44 6)) dX9_settle_19 rfl fl_X9_96 rfl rfl rfl ?_
  refine z_icmp_ge (pc' := 25) (tgt := 45) dX9_settle_22 rfl (by decide) (fun c1 => ?_) (fun c1 => ?_)
  · replace h := h.1 c1
    refine z_iconst (pc' := 46) (v := 0) dX9_settle_45 rfl (by decide) ?_
    refine z_istore_n (pc' := 47) (ls' := [some (.ref 44), some (.int x1), some (.int (0 : Int32)), none, none, none]) dX9_settle_46 rfl (by decide) rfl ?_
    refine z_aload_n (pc' := 48) (x := 44) dX9_settle_47 rfl rfl ?_
    obtain ⟨d2, P2, hd2, hC2, h⟩ := h
    refine z_callV (pc' := 51) (M' := mX9_rest) (As := []) dX9_settle_48 rfl ml_X9_279 me_X9_rest hC2 rfl (by decide) rfl rfl hd2 (Nat.le_of_ble_eq_true rfl) ⟨Nat.le_refl _, Nat.le_refl _⟩ rfl ?_
    rintro _ _ ⟨y2, I2, L2, rfl, rfl, hP2⟩
    replace h := h y2 I2 L2 hP2
    refine z_istore_n (pc' := 52) (ls' := [some (.ref 44), some (.int x1), some (.int (0 : Int32)), some (.int y2), none, none]) dX9_settle_51 rfl (by decide) rfl ?_
    exact h
  · replace h := h.2 c1
    refine z_aload_n (pc' := 26) (x := 44) dX9_settle_25 rfl rfl ?_
    refine z_getr (pc' := 29) (x := 62) dX9_settle_26 rfl fl_X9_62 rfl rfl rfl ?_
    refine z_iload_n (pc' := 30) (x := x2) dX9_settle_29 rfl rfl ?_
    refine z_aload_n (pc' := 31) (x := 44) dX9_settle_30 rfl rfl ?_
    refine z_getr (pc' := 34) (x := 45) dX9_settle_31 rfl fl_X9_9 rfl rfl rfl ?_
    refine z_iconst (pc' := 35) (v := 4) dX9_settle_34 rfl (by decide) ?_
    refine z_iload_n (pc' := 36) (x := x2) dX9_settle_35 rfl rfl ?_
    refine z_iadd (pc' := 37) dX9_settle_36 rfl ?_
    obtain ⟨j3, ha3, hb3, h⟩ := h
    refine z_iald (pc' := 38) (x := (I 45 j3)) (j := j3) dX9_settle_37 rfl rfl (by decide) ha3 hb3 rfl ?_
    obtain ⟨j4, ha4, hb4, h⟩ := h
    refine z_iast (pc' := 39) (j := j4) (w' := zs (xI I 62 j4 (I 45 j3)) L) dX9_settle_38 rfl rfl (by decide) ha4 hb4 rfl ?_
    refine z_iinc (pc' := 42) (x := x2) (v := (x2 + (1 : Int32))) (ls' := [some (.ref 44), some (.int x1), some (.int (x2 + (1 : Int32))), none, none, none]) dX9_settle_39 rfl rfl (by rfl) (by decide) rfl ?_
    refine z_goto (pc' := 17) dX9_settle_42 (by decide) ?_
    exact h
set_option maxHeartbeats 4000000 in
set_option maxRecDepth 100000 in
theorem t_X9_settle_52 {l : Launch} {G : zG} {d : Nat} {P : Int32 → zIM → zLM → Prop} {I : zIM} {L : zLM} {x1 : Int32} {x2 : Int32} {x3 : Int32}   (h : ((x3 < 0 → (((¬ x1 = (-1 : Int32) → (∃ j3 : Nat, ((4 : Int32) + x1) = nI j3 ∧ j3 < 12 ∧ (K_X9_settle_108 l G d P I L x3 (I 45 j3) (0 : Int32)))) ∧ (x1 = (-1 : Int32) → (K_X9_settle_108 l G d P I L x3 x2 (0 : Int32)))))) ∧ (¬ x3 < 0 → ((((8 : Int32) ≤ x2 → (((¬ x1 = (-1 : Int32) → (∃ j6 : Nat, ((4 : Int32) + x1) = nI j6 ∧ j6 < 12 ∧ (K_X9_settle_108 l G d P I L x3 (I 45 j6) (0 : Int32)))) ∧ (x1 = (-1 : Int32) → (K_X9_settle_108 l G d P I L x3 x2 (0 : Int32)))))) ∧ (¬ (8 : Int32) ≤ x2 → (∃ (d7 : Nat) (P7 : Int32 → zIM → zLM → Prop), d7 + 1 ≤ d ∧ zCi l G d7 mX9_wouldOf [.ref 44, .int x3] I L P7 ∧ ∀ (y7 : Int32) (I7 : zIM) (L7 : zLM), P7 y7 I7 L7 → (∃ j8 : Nat, ((4 : Int32) + x3) = nI j8 ∧ j8 < 12 ∧ (∃ (d9 : Nat) (P9 : Int32 → zIM → zLM → Prop), d9 + 1 ≤ d ∧ zCi l G d9 mX9_rest [.ref 44] (xI I7 45 j8 y7) L7 P9 ∧ ∀ (y9 : Int32) (I9 : zIM) (L9 : zLM), P9 y9 I9 L9 → (K_X9_settle_52 l G d P I9 L9 x1 (x2 + (1 : Int32)) y9)))))))))) : K_X9_settle_52 l G d P I L x1 x2 x3  := by
  refine z_iload_n (pc' := 53) (x := x3) dX9_settle_52 rfl rfl ?_
  refine z_if_lt (pc' := 56) (tgt := 86) dX9_settle_53 rfl (by decide) (fun c1 => ?_) (fun c1 => ?_)
  · replace h := h.1 c1
    refine z_iload_n (pc' := 87) (x := x1) dX9_settle_86 rfl rfl ?_
    refine z_iconst (pc' := 88) (v := -1) dX9_settle_87 rfl (by decide) ?_
    refine z_icmp_ne (pc' := 91) (tgt := 95) dX9_settle_88 rfl (by decide) (fun c2 => ?_) (fun c2 => ?_)
    · replace h := h.1 c2
      refine z_aload_n (pc' := 96) (x := 44) dX9_settle_95 rfl rfl ?_
      refine z_getr (pc' := 99) (x := 45) dX9_settle_96 rfl fl_X9_9 rfl rfl rfl ?_
      refine z_iconst (pc' := 100) (v := 4) dX9_settle_99 rfl (by decide) ?_
      refine z_iload_n (pc' := 101) (x := x1) dX9_settle_100 rfl rfl ?_
      refine z_iadd (pc' := 102) dX9_settle_101 rfl ?_
      obtain ⟨j3, ha3, hb3, h⟩ := h
      refine z_iald (pc' := 103) (x := (I 45 j3)) (j := j3) dX9_settle_102 rfl rfl (by decide) ha3 hb3 rfl ?_
      refine z_istore (pc' := 105) (ls' := [some (.ref 44), some (.int x1), some (.int x2), some (.int x3), some (.int (I 45 j3)), none]) dX9_settle_103 rfl (by decide) rfl ?_
      refine z_iconst (pc' := 106) (v := 0) dX9_settle_105 rfl (by decide) ?_
      refine z_istore (pc' := 108) (ls' := [some (.ref 44), some (.int x1), some (.int x2), some (.int x3), some (.int (I 45 j3)), some (.int (0 : Int32))]) dX9_settle_106 rfl (by decide) rfl ?_
      refine z_sub (pc' := 0) [some (.ref 44), none, none, some (.int x3), some (.int (I 45 j3)), some (.int (0 : Int32))] (zsub_s (zsub_n (zsub_n (zsub_s (zsub_s (zsub_s zsub_nil)))))) ?_
      exact h
    · replace h := h.2 c2
      refine z_iload_n (pc' := 92) (x := x2) dX9_settle_91 rfl rfl ?_
      refine z_goto (pc' := 103) dX9_settle_92 (by decide) ?_
      refine z_istore (pc' := 105) (ls' := [some (.ref 44), some (.int x1), some (.int x2), some (.int x3), some (.int x2), none]) dX9_settle_103 rfl (by decide) rfl ?_
      refine z_iconst (pc' := 106) (v := 0) dX9_settle_105 rfl (by decide) ?_
      refine z_istore (pc' := 108) (ls' := [some (.ref 44), some (.int x1), some (.int x2), some (.int x3), some (.int x2), some (.int (0 : Int32))]) dX9_settle_106 rfl (by decide) rfl ?_
      refine z_sub (pc' := 0) [some (.ref 44), none, none, some (.int x3), some (.int x2), some (.int (0 : Int32))] (zsub_s (zsub_n (zsub_n (zsub_s (zsub_s (zsub_s zsub_nil)))))) ?_
      exact h
  · replace h := h.2 c1
    refine z_iload_n (pc' := 57) (x := x2) dX9_settle_56 rfl rfl ?_
    refine z_bipush (pc' := 59) (v := 8) dX9_settle_57 rfl (by decide) ?_
    refine z_icmp_ge (pc' := 62) (tgt := 86) dX9_settle_59 rfl (by decide) (fun c4 => ?_) (fun c4 => ?_)
    · replace h := h.1 c4
      refine z_iload_n (pc' := 87) (x := x1) dX9_settle_86 rfl rfl ?_
      refine z_iconst (pc' := 88) (v := -1) dX9_settle_87 rfl (by decide) ?_
      refine z_icmp_ne (pc' := 91) (tgt := 95) dX9_settle_88 rfl (by decide) (fun c5 => ?_) (fun c5 => ?_)
      · replace h := h.1 c5
        refine z_aload_n (pc' := 96) (x := 44) dX9_settle_95 rfl rfl ?_
        refine z_getr (pc' := 99) (x := 45) dX9_settle_96 rfl fl_X9_9 rfl rfl rfl ?_
        refine z_iconst (pc' := 100) (v := 4) dX9_settle_99 rfl (by decide) ?_
        refine z_iload_n (pc' := 101) (x := x1) dX9_settle_100 rfl rfl ?_
        refine z_iadd (pc' := 102) dX9_settle_101 rfl ?_
        obtain ⟨j6, ha6, hb6, h⟩ := h
        refine z_iald (pc' := 103) (x := (I 45 j6)) (j := j6) dX9_settle_102 rfl rfl (by decide) ha6 hb6 rfl ?_
        refine z_istore (pc' := 105) (ls' := [some (.ref 44), some (.int x1), some (.int x2), some (.int x3), some (.int (I 45 j6)), none]) dX9_settle_103 rfl (by decide) rfl ?_
        refine z_iconst (pc' := 106) (v := 0) dX9_settle_105 rfl (by decide) ?_
        refine z_istore (pc' := 108) (ls' := [some (.ref 44), some (.int x1), some (.int x2), some (.int x3), some (.int (I 45 j6)), some (.int (0 : Int32))]) dX9_settle_106 rfl (by decide) rfl ?_
        refine z_sub (pc' := 0) [some (.ref 44), none, none, some (.int x3), some (.int (I 45 j6)), some (.int (0 : Int32))] (zsub_s (zsub_n (zsub_n (zsub_s (zsub_s (zsub_s zsub_nil)))))) ?_
        exact h
      · replace h := h.2 c5
        refine z_iload_n (pc' := 92) (x := x2) dX9_settle_91 rfl rfl ?_
        refine z_goto (pc' := 103) dX9_settle_92 (by decide) ?_
        refine z_istore (pc' := 105) (ls' := [some (.ref 44), some (.int x1), some (.int x2), some (.int x3), some (.int x2), none]) dX9_settle_103 rfl (by decide) rfl ?_
        refine z_iconst (pc' := 106) (v := 0) dX9_settle_105 rfl (by decide) ?_
        refine z_istore (pc' := 108) (ls' := [some (.ref 44), some (.int x1), some (.int x2), some (.int x3), some (.int x2), some (.int (0 : Int32))]) dX9_settle_106 rfl (by decide) rfl ?_
        refine z_sub (pc' := 0) [some (.ref 44), none, none, some (.int x3), some (.int x2), some (.int (0 : Int32))] (zsub_s (zsub_n (zsub_n (zsub_s (zsub_s (zsub_s zsub_nil)))))) ?_
        exact h
    · replace h := h.2 c4
      refine z_aload_n (pc' := 63) (x := 44) dX9_settle_62 rfl rfl ?_
      refine z_getr (pc' := 66) (x := 45) dX9_settle_63 rfl fl_X9_9 rfl rfl rfl ?_
      refine z_iconst (pc' := 67) (v := 4) dX9_settle_66 rfl (by decide) ?_
      refine z_iload_n (pc' := 68) (x := x3) dX9_settle_67 rfl rfl ?_
      refine z_iadd (pc' := 69) dX9_settle_68 rfl ?_
      refine z_aload_n (pc' := 70) (x := 44) dX9_settle_69 rfl rfl ?_
      refine z_iload_n (pc' := 71) (x := x3) dX9_settle_70 rfl rfl ?_
      obtain ⟨d7, P7, hd7, hC7, h⟩ := h
      refine z_callV (pc' := 74) (M' := mX9_wouldOf) (As := [.int x3]) dX9_settle_71 rfl ml_X9_276 me_X9_wouldOf hC7 rfl (by decide) rfl rfl hd7 (Nat.le_of_ble_eq_true rfl) ⟨Nat.le_refl _, Nat.le_refl _⟩ rfl ?_
      rintro _ _ ⟨y7, I7, L7, rfl, rfl, hP7⟩
      replace h := h y7 I7 L7 hP7
      obtain ⟨j8, ha8, hb8, h⟩ := h
      refine z_iast (pc' := 75) (j := j8) (w' := zs (xI I7 45 j8 y7) L7) dX9_settle_74 rfl rfl (by decide) ha8 hb8 rfl ?_
      refine z_iinc (pc' := 78) (x := x2) (v := (x2 + (1 : Int32))) (ls' := [some (.ref 44), some (.int x1), some (.int (x2 + (1 : Int32))), some (.int x3), none, none]) dX9_settle_75 rfl rfl (by rfl) (by decide) rfl ?_
      refine z_aload_n (pc' := 79) (x := 44) dX9_settle_78 rfl rfl ?_
      obtain ⟨d9, P9, hd9, hC9, h⟩ := h
      refine z_callV (pc' := 82) (M' := mX9_rest) (As := []) dX9_settle_79 rfl ml_X9_279 me_X9_rest hC9 rfl (by decide) rfl rfl hd9 (Nat.le_of_ble_eq_true rfl) ⟨Nat.le_refl _, Nat.le_refl _⟩ rfl ?_
      rintro _ _ ⟨y9, I9, L9, rfl, rfl, hP9⟩
      replace h := h y9 I9 L9 hP9
      refine z_istore_n (pc' := 83) (ls' := [some (.ref 44), some (.int x1), some (.int (x2 + (1 : Int32))), some (.int y9), none, none]) dX9_settle_82 rfl (by decide) rfl ?_
      refine z_goto (pc' := 52) dX9_settle_83 (by decide) ?_
      exact h
set_option maxHeartbeats 4000000 in
set_option maxRecDepth 100000 in
theorem t_X9_settle_108 {l : Launch} {G : zG} {d : Nat} {P : Int32 → zIM → zLM → Prop} {I : zIM} {L : zLM} {x3 : Int32} {x4 : Int32} {x5 : Int32}   (h : (((I 44 6) ≤ x5 → (((x3 < 0 → (P x4 I L)) ∧ (¬ x3 < 0 → (P (-2 : Int32) I L))))) ∧ (¬ (I 44 6) ≤ x5 → (∃ j3 : Nat, x5 = nI j3 ∧ j3 < 4 ∧ (∃ j4 : Nat, ((4 : Int32) + x5) = nI j4 ∧ j4 < 12 ∧ (K_X9_settle_108 l G d P (xI I 45 j4 (I 62 j3)) L x3 x4 (x5 + (1 : Int32)))))))) : K_X9_settle_108 l G d P I L x3 x4 x5  := by
  refine z_iload (pc' := 110) (x := x5) dX9_settle_108 rfl rfl ?_
  refine z_aload_n (pc' := 111) (x := 44) dX9_settle_110 rfl rfl ?_
  refine z_geti (pc' := 114) (x := (I 44 6)) dX9_settle_111 rfl fl_X9_96 rfl rfl rfl ?_
  refine z_icmp_ge (pc' := 117) (tgt := 139) dX9_settle_114 rfl (by decide) (fun c1 => ?_) (fun c1 => ?_)
  · replace h := h.1 c1
    refine z_iload_n (pc' := 140) (x := x3) dX9_settle_139 rfl rfl ?_
    refine z_if_lt (pc' := 143) (tgt := 148) dX9_settle_140 rfl (by decide) (fun c2 => ?_) (fun c2 => ?_)
    · replace h := h.1 c2
      refine z_iload (pc' := 150) (x := x4) dX9_settle_148 rfl rfl ?_
      exact z_iret dX9_settle_150 rfl rfl ⟨Nat.le_refl _, Nat.le_refl _⟩ ⟨_, _, _, rfl, rfl, h⟩
    · replace h := h.2 c2
      refine z_bipush (pc' := 145) (v := -2) dX9_settle_143 rfl (by decide) ?_
      refine z_goto (pc' := 150) dX9_settle_145 (by decide) ?_
      exact z_iret dX9_settle_150 rfl rfl ⟨Nat.le_refl _, Nat.le_refl _⟩ ⟨_, _, _, rfl, rfl, h⟩
  · replace h := h.2 c1
    refine z_aload_n (pc' := 118) (x := 44) dX9_settle_117 rfl rfl ?_
    refine z_getr (pc' := 121) (x := 45) dX9_settle_118 rfl fl_X9_9 rfl rfl rfl ?_
    refine z_iconst (pc' := 122) (v := 4) dX9_settle_121 rfl (by decide) ?_
    refine z_iload (pc' := 124) (x := x5) dX9_settle_122 rfl rfl ?_
    refine z_iadd (pc' := 125) dX9_settle_124 rfl ?_
    refine z_aload_n (pc' := 126) (x := 44) dX9_settle_125 rfl rfl ?_
    refine z_getr (pc' := 129) (x := 62) dX9_settle_126 rfl fl_X9_62 rfl rfl rfl ?_
    refine z_iload (pc' := 131) (x := x5) dX9_settle_129 rfl rfl ?_
    obtain ⟨j3, ha3, hb3, h⟩ := h
    refine z_iald (pc' := 132) (x := (I 62 j3)) (j := j3) dX9_settle_131 rfl rfl (by decide) ha3 hb3 rfl ?_
    obtain ⟨j4, ha4, hb4, h⟩ := h
    refine z_iast (pc' := 133) (j := j4) (w' := zs (xI I 45 j4 (I 62 j3)) L) dX9_settle_132 rfl rfl (by decide) ha4 hb4 rfl ?_
    refine z_iinc (pc' := 136) (x := x5) (v := (x5 + (1 : Int32))) (ls' := [some (.ref 44), none, none, some (.int x3), some (.int x4), some (.int (x5 + (1 : Int32)))]) dX9_settle_133 rfl rfl (by rfl) (by decide) rfl ?_
    refine z_goto (pc' := 108) dX9_settle_136 (by decide) ?_
    exact h
set_option maxHeartbeats 4000000 in
set_option maxRecDepth 100000 in
theorem t_X9_even {l : Launch} {G : zG} {d : Nat} {P : Int32 → zIM → zLM → Prop} {I : zIM} {L : zLM} {x1 : Int32}  (h : ∃ (d1 : Nat) (P1 : Int32 → zIM → zLM → Prop), d1 + 1 ≤ d ∧ zCi l G d1 mX9_isPlayer [.ref 44, .int x1] I L P1 ∧ ∀ (y1 : Int32) (I1 : zIM) (L1 : zLM), P1 y1 I1 L1 → (((¬ y1 = 0 → (∃ j3 : Nat, x1 = nI j3 ∧ j3 < 12 ∧ (K_X9_even_25 l G d P I1 L1 x1 (I1 45 j3) (-1 : Int32) (0 : Int64) (0 : Int32)))) ∧ (y1 = 0 → (P (-1 : Int32) I1 L1))))) : zCi l G d mX9_even [.ref 44, .int x1] I L P := by
  refine zCn.of (ls := [some (.ref 44), some (.int x1), none, none, none, none, none, none, none, none]) (by decide) (Nat.le_of_ble_eq_true rfl) rfl ?_
  refine z_aload_n (pc' := 1) (x := 44) dX9_even_0 rfl rfl ?_
  refine z_iload_n (pc' := 2) (x := x1) dX9_even_1 rfl rfl ?_
  obtain ⟨d1, P1, hd1, hC1, h⟩ := h
  refine z_callV (pc' := 5) (M' := mX9_isPlayer) (As := [.int x1]) dX9_even_2 rfl ml_X9_124 me_X9_isPlayer hC1 rfl (by decide) rfl rfl hd1 (Nat.le_of_ble_eq_true rfl) ⟨Nat.le_refl _, Nat.le_refl _⟩ rfl ?_
  rintro _ _ ⟨y1, I1, L1, rfl, rfl, hP1⟩
  replace h := h y1 I1 L1 hP1
  refine z_if_ne (pc' := 8) (tgt := 10) dX9_even_5 rfl (by decide) (fun c2 => ?_) (fun c2 => ?_)
  · replace h := h.1 c2
    refine z_aload_n (pc' := 11) (x := 44) dX9_even_10 rfl rfl ?_
    refine z_getr (pc' := 14) (x := 45) dX9_even_11 rfl fl_X9_9 rfl rfl rfl ?_
    refine z_iload_n (pc' := 15) (x := x1) dX9_even_14 rfl rfl ?_
    obtain ⟨j3, ha3, hb3, h⟩ := h
    refine z_iald (pc' := 16) (x := (I1 45 j3)) (j := j3) dX9_even_15 rfl rfl (by decide) ha3 hb3 rfl ?_
    refine z_istore_n (pc' := 17) (ls' := [some (.ref 44), some (.int x1), some (.int (I1 45 j3)), none, none, none, none, none, none, none]) dX9_even_16 rfl (by decide) rfl ?_
    refine z_iconst (pc' := 18) (v := -1) dX9_even_17 rfl (by decide) ?_
    refine z_istore_n (pc' := 19) (ls' := [some (.ref 44), some (.int x1), some (.int (I1 45 j3)), some (.int (-1 : Int32)), none, none, none, none, none, none]) dX9_even_18 rfl (by decide) rfl ?_
    refine z_lconst (pc' := 20) (v := 0) dX9_even_19 rfl (by decide) ?_
    refine z_lstore (pc' := 22) (ls' := [some (.ref 44), some (.int x1), some (.int (I1 45 j3)), some (.int (-1 : Int32)), some (.long (0 : Int64)), none, none, none, none, none]) dX9_even_20 rfl (by decide) rfl ?_
    refine z_iconst (pc' := 23) (v := 0) dX9_even_22 rfl (by decide) ?_
    refine z_istore (pc' := 25) (ls' := [some (.ref 44), some (.int x1), some (.int (I1 45 j3)), some (.int (-1 : Int32)), some (.long (0 : Int64)), none, some (.int (0 : Int32)), none, none, none]) dX9_even_23 rfl (by decide) rfl ?_
    exact h
  · replace h := h.2 c2
    refine z_iconst (pc' := 9) (v := -1) dX9_even_8 rfl (by decide) ?_
    exact z_iret dX9_even_9 rfl rfl ⟨Nat.le_refl _, Nat.le_refl _⟩ ⟨_, _, _, rfl, rfl, h⟩
set_option maxHeartbeats 4000000 in
set_option maxRecDepth 100000 in
theorem t_X9_even_25 {l : Launch} {G : zG} {d : Nat} {P : Int32 → zIM → zLM → Prop} {I : zIM} {L : zLM} {x1 : Int32} {x2 : Int32} {x3 : Int32} {x4 : Int64} {x6 : Int32}   (h : (((12 : Int32) < x6 → (∃ j2 : Nat, x1 = nI j2 ∧ j2 < 12 ∧ (P x3 (xI I 45 j2 x2) L))) ∧ (¬ (12 : Int32) < x6 → (∃ j3 : Nat, x1 = nI j3 ∧ j3 < 12 ∧ (∃ (d4 : Nat) (P4 : zIM → zLM → Prop), d4 + 1 ≤ d ∧ zCv l G d4 mX9_solves [.ref 44] (xI I 45 j3 x6) L P4 ∧ ∀ (I4 : zIM) (L4 : zLM), P4 I4 L4 → (∃ (d5 : Nat) (P5 : Int32 → zIM → zLM → Prop), d5 + 1 ≤ d ∧ zCi l G d5 mX9_all [.ref 44] I4 L4 P5 ∧ ∀ (y5 : Int32) (I5 : zIM) (L5 : zLM), P5 y5 I5 L5 → (∃ (d6 : Nat) (P6 : Int64 → zIM → zLM → Prop), d6 + 1 ≤ d ∧ zCl l G d6 mX9_worthFrom [.ref 44, .int y5, .int (0 : Int32), .int x1] I5 L5 P6 ∧ ∀ (y6 : Int64) (I6 : zIM) (L6 : zLM), P6 y6 I6 L6 → (K_X9_even_65 l G d P I6 L6 x1 x2 x3 x4 x6 (((I4 44 6).toInt64) * y6) (0 : Int32))))))))) : K_X9_even_25 l G d P I L x1 x2 x3 x4 x6  := by
  refine z_iload (pc' := 27) (x := x6) dX9_even_25 rfl rfl ?_
  refine z_bipush (pc' := 29) (v := 12) dX9_even_27 rfl (by decide) ?_
  refine z_icmp_gt (pc' := 32) (tgt := 138) dX9_even_29 rfl (by decide) (fun c1 => ?_) (fun c1 => ?_)
  · replace h := h.1 c1
    refine z_aload_n (pc' := 139) (x := 44) dX9_even_138 rfl rfl ?_
    refine z_getr (pc' := 142) (x := 45) dX9_even_139 rfl fl_X9_9 rfl rfl rfl ?_
    refine z_iload_n (pc' := 143) (x := x1) dX9_even_142 rfl rfl ?_
    refine z_iload_n (pc' := 144) (x := x2) dX9_even_143 rfl rfl ?_
    obtain ⟨j2, ha2, hb2, h⟩ := h
    refine z_iast (pc' := 145) (j := j2) (w' := zs (xI I 45 j2 x2) L) dX9_even_144 rfl rfl (by decide) ha2 hb2 rfl ?_
    refine z_iload_n (pc' := 146) (x := x3) dX9_even_145 rfl rfl ?_
    exact z_iret dX9_even_146 rfl rfl ⟨Nat.le_refl _, Nat.le_refl _⟩ ⟨_, _, _, rfl, rfl, h⟩
  · replace h := h.2 c1
    refine z_aload_n (pc' := 33) (x := 44) dX9_even_32 rfl rfl ?_
    refine z_getr (pc' := 36) (x := 45) dX9_even_33 rfl fl_X9_9 rfl rfl rfl ?_
    refine z_iload_n (pc' := 37) (x := x1) dX9_even_36 rfl rfl ?_
    refine z_iload (pc' := 39) (x := x6) dX9_even_37 rfl rfl ?_
    obtain ⟨j3, ha3, hb3, h⟩ := h
    refine z_iast (pc' := 40) (j := j3) (w' := zs (xI I 45 j3 x6) L) dX9_even_39 rfl rfl (by decide) ha3 hb3 rfl ?_
    refine z_aload_n (pc' := 41) (x := 44) dX9_even_40 rfl rfl ?_
    obtain ⟨d4, P4, hd4, hC4, h⟩ := h
    refine z_callV (pc' := 44) (M' := mX9_solves) (As := []) dX9_even_41 rfl ml_X9_241 me_X9_solves hC4 rfl (by decide) rfl rfl hd4 (Nat.le_of_ble_eq_true rfl) ⟨Nat.le_refl _, Nat.le_refl _⟩ rfl ?_
    rintro _ _ ⟨I4, L4, rfl, rfl, hP4⟩
    replace h := h I4 L4 hP4
    refine z_aload_n (pc' := 45) (x := 44) dX9_even_44 rfl rfl ?_
    refine z_geti (pc' := 48) (x := (I4 44 6)) dX9_even_45 rfl fl_X9_96 rfl rfl rfl ?_
    refine z_i2l (pc' := 49) dX9_even_48 rfl ?_
    refine z_aload_n (pc' := 50) (x := 44) dX9_even_49 rfl rfl ?_
    refine z_aload_n (pc' := 51) (x := 44) dX9_even_50 rfl rfl ?_
    obtain ⟨d5, P5, hd5, hC5, h⟩ := h
    refine z_callV (pc' := 54) (M' := mX9_all) (As := []) dX9_even_51 rfl ml_X9_225 me_X9_all hC5 rfl (by decide) rfl rfl hd5 (Nat.le_of_ble_eq_true rfl) ⟨Nat.le_refl _, Nat.le_refl _⟩ rfl ?_
    rintro _ _ ⟨y5, I5, L5, rfl, rfl, hP5⟩
    replace h := h y5 I5 L5 hP5
    refine z_iconst (pc' := 55) (v := 0) dX9_even_54 rfl (by decide) ?_
    refine z_iload_n (pc' := 56) (x := x1) dX9_even_55 rfl rfl ?_
    obtain ⟨d6, P6, hd6, hC6, h⟩ := h
    refine z_callV (pc' := 59) (M' := mX9_worthFrom) (As := [.int y5, .int (0 : Int32), .int x1]) dX9_even_56 rfl ml_X9_244 me_X9_worthFrom hC6 rfl (by decide) rfl rfl hd6 (Nat.le_of_ble_eq_true rfl) ⟨Nat.le_refl _, Nat.le_refl _⟩ rfl ?_
    rintro _ _ ⟨y6, I6, L6, rfl, rfl, hP6⟩
    replace h := h y6 I6 L6 hP6
    refine z_lmul (pc' := 60) dX9_even_59 rfl ?_
    refine z_lstore (pc' := 62) (ls' := [some (.ref 44), some (.int x1), some (.int x2), some (.int x3), some (.long x4), none, some (.int x6), some (.long (((I4 44 6).toInt64) * y6)), none, none]) dX9_even_60 rfl (by decide) rfl ?_
    refine z_iconst (pc' := 63) (v := 0) dX9_even_62 rfl (by decide) ?_
    refine z_istore (pc' := 65) (ls' := [some (.ref 44), some (.int x1), some (.int x2), some (.int x3), some (.long x4), none, some (.int x6), some (.long (((I4 44 6).toInt64) * y6)), none, some (.int (0 : Int32))]) dX9_even_63 rfl (by decide) rfl ?_
    exact h
set_option maxHeartbeats 4000000 in
set_option maxRecDepth 100000 in
theorem t_X9_even_65 {l : Launch} {G : zG} {d : Nat} {P : Int32 → zIM → zLM → Prop} {I : zIM} {L : zLM} {x1 : Int32} {x2 : Int32} {x3 : Int32} {x4 : Int64} {x6 : Int32} {x7 : Int64} {x9 : Int32}   (h : (((I 44 6) ≤ x9 → ((((0 : Int64) ≤ x7 → (((x3 < 0 → (K_X9_even_25 l G d P I L x1 x2 x6 x7 (x6 + (1 : Int32)))) ∧ (¬ x3 < 0 → (((x4 ≤ x7 → (K_X9_even_25 l G d P I L x1 x2 x3 x4 (x6 + (1 : Int32)))) ∧ (¬ x4 ≤ x7 → (K_X9_even_25 l G d P I L x1 x2 x6 x7 (x6 + (1 : Int32)))))))))) ∧ (¬ (0 : Int64) ≤ x7 → (((x3 < 0 → (K_X9_even_25 l G d P I L x1 x2 x6 (-x7) (x6 + (1 : Int32)))) ∧ (¬ x3 < 0 → (((x4 ≤ (-x7) → (K_X9_even_25 l G d P I L x1 x2 x3 x4 (x6 + (1 : Int32)))) ∧ (¬ x4 ≤ (-x7) → (K_X9_even_25 l G d P I L x1 x2 x6 (-x7) (x6 + (1 : Int32))))))))))))) ∧ (¬ (I 44 6) ≤ x9 → (∃ (d7 : Nat) (P7 : Int32 → zIM → zLM → Prop), d7 + 1 ≤ d ∧ zCi l G d7 mX9_all [.ref 44] I L P7 ∧ ∀ (y7 : Int32) (I7 : zIM) (L7 : zLM), P7 y7 I7 L7 → (∃ (d8 : Nat) (P8 : Int64 → zIM → zLM → Prop), d8 + 1 ≤ d ∧ zCl l G d8 mX9_worthFrom [.ref 44, .int y7, .int (0 : Int32), .int x9] I7 L7 P8 ∧ ∀ (y8 : Int64) (I8 : zIM) (L8 : zLM), P8 y8 I8 L8 → (K_X9_even_65 l G d P I8 L8 x1 x2 x3 x4 x6 (x7 - y8) (x9 + (1 : Int32)))))))) : K_X9_even_65 l G d P I L x1 x2 x3 x4 x6 x7 x9  := by
  refine z_iload (pc' := 67) (x := x9) dX9_even_65 rfl rfl ?_
  refine z_aload_n (pc' := 68) (x := 44) dX9_even_67 rfl rfl ?_
  refine z_geti (pc' := 71) (x := (I 44 6)) dX9_even_68 rfl fl_X9_96 rfl rfl rfl ?_
  refine z_icmp_ge (pc' := 74) (tgt := 96) dX9_even_71 rfl (by decide) (fun c1 => ?_) (fun c1 => ?_)
  · replace h := h.1 c1
    refine z_lload (pc' := 98) (x := x7) dX9_even_96 rfl rfl ?_
    refine z_lconst (pc' := 99) (v := 0) dX9_even_98 rfl (by decide) ?_
    refine z_lc_ge (pc' := 103) (tgt := 109) dX9_even_99 dX9_even_100 rfl (by decide) (fun c2 => ?_) (fun c2 => ?_)
    · replace h := h.1 c2
      refine z_lload (pc' := 111) (x := x7) dX9_even_109 rfl rfl ?_
      refine z_lstore (pc' := 113) (ls' := [some (.ref 44), some (.int x1), some (.int x2), some (.int x3), some (.long x4), none, some (.int x6), some (.long x7), none, some (.int x9)]) dX9_even_111 rfl (by decide) rfl ?_
      refine z_iload_n (pc' := 114) (x := x3) dX9_even_113 rfl rfl ?_
      refine z_if_lt (pc' := 117) (tgt := 125) dX9_even_114 rfl (by decide) (fun c3 => ?_) (fun c3 => ?_)
      · replace h := h.1 c3
        refine z_iload (pc' := 127) (x := x6) dX9_even_125 rfl rfl ?_
        refine z_istore_n (pc' := 128) (ls' := [some (.ref 44), some (.int x1), some (.int x2), some (.int x6), some (.long x4), none, some (.int x6), some (.long x7), none, some (.int x9)]) dX9_even_127 rfl (by decide) rfl ?_
        refine z_lload (pc' := 130) (x := x7) dX9_even_128 rfl rfl ?_
        refine z_lstore (pc' := 132) (ls' := [some (.ref 44), some (.int x1), some (.int x2), some (.int x6), some (.long x7), none, some (.int x6), some (.long x7), none, some (.int x9)]) dX9_even_130 rfl (by decide) rfl ?_
        refine z_iinc (pc' := 135) (x := x6) (v := (x6 + (1 : Int32))) (ls' := [some (.ref 44), some (.int x1), some (.int x2), some (.int x6), some (.long x7), none, some (.int (x6 + (1 : Int32))), some (.long x7), none, some (.int x9)]) dX9_even_132 rfl rfl (by rfl) (by decide) rfl ?_
        refine z_goto (pc' := 25) dX9_even_135 (by decide) ?_
        refine z_sub (pc' := 0) [some (.ref 44), some (.int x1), some (.int x2), some (.int x6), some (.long x7), none, some (.int (x6 + (1 : Int32))), none, none, none] (zsub_s (zsub_s (zsub_s (zsub_s (zsub_s (zsub_n (zsub_s (zsub_n (zsub_n (zsub_n zsub_nil)))))))))) ?_
        exact h
      · replace h := h.2 c3
        refine z_lload (pc' := 119) (x := x7) dX9_even_117 rfl rfl ?_
        refine z_lload (pc' := 121) (x := x4) dX9_even_119 rfl rfl ?_
        refine z_lc_ge (pc' := 125) (tgt := 132) dX9_even_121 dX9_even_122 rfl (by decide) (fun c4 => ?_) (fun c4 => ?_)
        · replace h := h.1 c4
          refine z_iinc (pc' := 135) (x := x6) (v := (x6 + (1 : Int32))) (ls' := [some (.ref 44), some (.int x1), some (.int x2), some (.int x3), some (.long x4), none, some (.int (x6 + (1 : Int32))), some (.long x7), none, some (.int x9)]) dX9_even_132 rfl rfl (by rfl) (by decide) rfl ?_
          refine z_goto (pc' := 25) dX9_even_135 (by decide) ?_
          refine z_sub (pc' := 0) [some (.ref 44), some (.int x1), some (.int x2), some (.int x3), some (.long x4), none, some (.int (x6 + (1 : Int32))), none, none, none] (zsub_s (zsub_s (zsub_s (zsub_s (zsub_s (zsub_n (zsub_s (zsub_n (zsub_n (zsub_n zsub_nil)))))))))) ?_
          exact h
        · replace h := h.2 c4
          refine z_iload (pc' := 127) (x := x6) dX9_even_125 rfl rfl ?_
          refine z_istore_n (pc' := 128) (ls' := [some (.ref 44), some (.int x1), some (.int x2), some (.int x6), some (.long x4), none, some (.int x6), some (.long x7), none, some (.int x9)]) dX9_even_127 rfl (by decide) rfl ?_
          refine z_lload (pc' := 130) (x := x7) dX9_even_128 rfl rfl ?_
          refine z_lstore (pc' := 132) (ls' := [some (.ref 44), some (.int x1), some (.int x2), some (.int x6), some (.long x7), none, some (.int x6), some (.long x7), none, some (.int x9)]) dX9_even_130 rfl (by decide) rfl ?_
          refine z_iinc (pc' := 135) (x := x6) (v := (x6 + (1 : Int32))) (ls' := [some (.ref 44), some (.int x1), some (.int x2), some (.int x6), some (.long x7), none, some (.int (x6 + (1 : Int32))), some (.long x7), none, some (.int x9)]) dX9_even_132 rfl rfl (by rfl) (by decide) rfl ?_
          refine z_goto (pc' := 25) dX9_even_135 (by decide) ?_
          refine z_sub (pc' := 0) [some (.ref 44), some (.int x1), some (.int x2), some (.int x6), some (.long x7), none, some (.int (x6 + (1 : Int32))), none, none, none] (zsub_s (zsub_s (zsub_s (zsub_s (zsub_s (zsub_n (zsub_s (zsub_n (zsub_n (zsub_n zsub_nil)))))))))) ?_
          exact h
    · replace h := h.2 c2
      refine z_lload (pc' := 105) (x := x7) dX9_even_103 rfl rfl ?_
      refine z_lneg (pc' := 106) dX9_even_105 rfl ?_
      refine z_goto (pc' := 111) dX9_even_106 (by decide) ?_
      refine z_lstore (pc' := 113) (ls' := [some (.ref 44), some (.int x1), some (.int x2), some (.int x3), some (.long x4), none, some (.int x6), some (.long (-x7)), none, some (.int x9)]) dX9_even_111 rfl (by decide) rfl ?_
      refine z_iload_n (pc' := 114) (x := x3) dX9_even_113 rfl rfl ?_
      refine z_if_lt (pc' := 117) (tgt := 125) dX9_even_114 rfl (by decide) (fun c5 => ?_) (fun c5 => ?_)
      · replace h := h.1 c5
        refine z_iload (pc' := 127) (x := x6) dX9_even_125 rfl rfl ?_
        refine z_istore_n (pc' := 128) (ls' := [some (.ref 44), some (.int x1), some (.int x2), some (.int x6), some (.long x4), none, some (.int x6), some (.long (-x7)), none, some (.int x9)]) dX9_even_127 rfl (by decide) rfl ?_
        refine z_lload (pc' := 130) (x := (-x7)) dX9_even_128 rfl rfl ?_
        refine z_lstore (pc' := 132) (ls' := [some (.ref 44), some (.int x1), some (.int x2), some (.int x6), some (.long (-x7)), none, some (.int x6), some (.long (-x7)), none, some (.int x9)]) dX9_even_130 rfl (by decide) rfl ?_
        refine z_iinc (pc' := 135) (x := x6) (v := (x6 + (1 : Int32))) (ls' := [some (.ref 44), some (.int x1), some (.int x2), some (.int x6), some (.long (-x7)), none, some (.int (x6 + (1 : Int32))), some (.long (-x7)), none, some (.int x9)]) dX9_even_132 rfl rfl (by rfl) (by decide) rfl ?_
        refine z_goto (pc' := 25) dX9_even_135 (by decide) ?_
        refine z_sub (pc' := 0) [some (.ref 44), some (.int x1), some (.int x2), some (.int x6), some (.long (-x7)), none, some (.int (x6 + (1 : Int32))), none, none, none] (zsub_s (zsub_s (zsub_s (zsub_s (zsub_s (zsub_n (zsub_s (zsub_n (zsub_n (zsub_n zsub_nil)))))))))) ?_
        exact h
      · replace h := h.2 c5
        refine z_lload (pc' := 119) (x := (-x7)) dX9_even_117 rfl rfl ?_
        refine z_lload (pc' := 121) (x := x4) dX9_even_119 rfl rfl ?_
        refine z_lc_ge (pc' := 125) (tgt := 132) dX9_even_121 dX9_even_122 rfl (by decide) (fun c6 => ?_) (fun c6 => ?_)
        · replace h := h.1 c6
          refine z_iinc (pc' := 135) (x := x6) (v := (x6 + (1 : Int32))) (ls' := [some (.ref 44), some (.int x1), some (.int x2), some (.int x3), some (.long x4), none, some (.int (x6 + (1 : Int32))), some (.long (-x7)), none, some (.int x9)]) dX9_even_132 rfl rfl (by rfl) (by decide) rfl ?_
          refine z_goto (pc' := 25) dX9_even_135 (by decide) ?_
          refine z_sub (pc' := 0) [some (.ref 44), some (.int x1), some (.int x2), some (.int x3), some (.long x4), none, some (.int (x6 + (1 : Int32))), none, none, none] (zsub_s (zsub_s (zsub_s (zsub_s (zsub_s (zsub_n (zsub_s (zsub_n (zsub_n (zsub_n zsub_nil)))))))))) ?_
          exact h
        · replace h := h.2 c6
          refine z_iload (pc' := 127) (x := x6) dX9_even_125 rfl rfl ?_
          refine z_istore_n (pc' := 128) (ls' := [some (.ref 44), some (.int x1), some (.int x2), some (.int x6), some (.long x4), none, some (.int x6), some (.long (-x7)), none, some (.int x9)]) dX9_even_127 rfl (by decide) rfl ?_
          refine z_lload (pc' := 130) (x := (-x7)) dX9_even_128 rfl rfl ?_
          refine z_lstore (pc' := 132) (ls' := [some (.ref 44), some (.int x1), some (.int x2), some (.int x6), some (.long (-x7)), none, some (.int x6), some (.long (-x7)), none, some (.int x9)]) dX9_even_130 rfl (by decide) rfl ?_
          refine z_iinc (pc' := 135) (x := x6) (v := (x6 + (1 : Int32))) (ls' := [some (.ref 44), some (.int x1), some (.int x2), some (.int x6), some (.long (-x7)), none, some (.int (x6 + (1 : Int32))), some (.long (-x7)), none, some (.int x9)]) dX9_even_132 rfl rfl (by rfl) (by decide) rfl ?_
          refine z_goto (pc' := 25) dX9_even_135 (by decide) ?_
          refine z_sub (pc' := 0) [some (.ref 44), some (.int x1), some (.int x2), some (.int x6), some (.long (-x7)), none, some (.int (x6 + (1 : Int32))), none, none, none] (zsub_s (zsub_s (zsub_s (zsub_s (zsub_s (zsub_n (zsub_s (zsub_n (zsub_n (zsub_n zsub_nil)))))))))) ?_
          exact h
  · replace h := h.2 c1
    refine z_lload (pc' := 76) (x := x7) dX9_even_74 rfl rfl ?_
    refine z_aload_n (pc' := 77) (x := 44) dX9_even_76 rfl rfl ?_
    refine z_aload_n (pc' := 78) (x := 44) dX9_even_77 rfl rfl ?_
    obtain ⟨d7, P7, hd7, hC7, h⟩ := h
    refine z_callV (pc' := 81) (M' := mX9_all) (As := []) dX9_even_78 rfl ml_X9_225 me_X9_all hC7 rfl (by decide) rfl rfl hd7 (Nat.le_of_ble_eq_true rfl) ⟨Nat.le_refl _, Nat.le_refl _⟩ rfl ?_
    rintro _ _ ⟨y7, I7, L7, rfl, rfl, hP7⟩
    replace h := h y7 I7 L7 hP7
    refine z_iconst (pc' := 82) (v := 0) dX9_even_81 rfl (by decide) ?_
    refine z_iload (pc' := 84) (x := x9) dX9_even_82 rfl rfl ?_
    obtain ⟨d8, P8, hd8, hC8, h⟩ := h
    refine z_callV (pc' := 87) (M' := mX9_worthFrom) (As := [.int y7, .int (0 : Int32), .int x9]) dX9_even_84 rfl ml_X9_244 me_X9_worthFrom hC8 rfl (by decide) rfl rfl hd8 (Nat.le_of_ble_eq_true rfl) ⟨Nat.le_refl _, Nat.le_refl _⟩ rfl ?_
    rintro _ _ ⟨y8, I8, L8, rfl, rfl, hP8⟩
    replace h := h y8 I8 L8 hP8
    refine z_lsub (pc' := 88) dX9_even_87 rfl ?_
    refine z_lstore (pc' := 90) (ls' := [some (.ref 44), some (.int x1), some (.int x2), some (.int x3), some (.long x4), none, some (.int x6), some (.long (x7 - y8)), none, some (.int x9)]) dX9_even_88 rfl (by decide) rfl ?_
    refine z_iinc (pc' := 93) (x := x9) (v := (x9 + (1 : Int32))) (ls' := [some (.ref 44), some (.int x1), some (.int x2), some (.int x3), some (.long x4), none, some (.int x6), some (.long (x7 - y8)), none, some (.int (x9 + (1 : Int32)))]) dX9_even_90 rfl rfl (by rfl) (by decide) rfl ?_
    refine z_goto (pc' := 65) dX9_even_93 (by decide) ?_
    exact h
set_option maxHeartbeats 4000000 in
set_option maxRecDepth 100000 in
theorem t_X9_leagueOf {l : Launch} {G : zG} {d : Nat} {P : Int32 → zIM → zLM → Prop} {I : zIM} {L : zLM} {x1 : Int32} {x2 : Int32}  (h : ∃ (d1 : Nat) (P1 : zIM → zLM → Prop), d1 + 1 ≤ d ∧ zCv l G d1 mX9_solves [.ref 44] I L P1 ∧ ∀ (I1 : zIM) (L1 : zLM), P1 I1 L1 → (∃ (d2 : Nat) (P2 : Int64 → zIM → zLM → Prop), d2 + 1 ≤ d ∧ zCl l G d2 mX9_worthFrom [.ref 44, .int (((1 : Int32) <<< (x1 &&& 31)) ||| ((1 : Int32) <<< (x2 &&& 31))), .int (0 : Int32), .int x1] I1 L1 P2 ∧ ∀ (y2 : Int64) (I2 : zIM) (L2 : zLM), P2 y2 I2 L2 → (∃ (d3 : Nat) (P3 : Int64 → zIM → zLM → Prop), d3 + 1 ≤ d ∧ zCl l G d3 mX9_worthFrom [.ref 44, .int (((1 : Int32) <<< (x1 &&& 31)) ||| ((1 : Int32) <<< (x2 &&& 31))), .int (0 : Int32), .int x2] I2 L2 P3 ∧ ∀ (y3 : Int64) (I3 : zIM) (L3 : zLM), P3 y3 I3 L3 → (((y2 ≤ y3 → (((y3 ≤ y2 → (P (0 : Int32) I3 L3)) ∧ (¬ y3 ≤ y2 → (P (2 : Int32) I3 L3))))) ∧ (¬ y2 ≤ y3 → (P (1 : Int32) I3 L3))))))) : zCi l G d mX9_leagueOf [.ref 44, .int x1, .int x2] I L P := by
  refine zCn.of (ls := [some (.ref 44), some (.int x1), some (.int x2), none, none, none, none, none]) (by decide) (Nat.le_of_ble_eq_true rfl) rfl ?_
  refine z_aload_n (pc' := 1) (x := 44) dX9_leagueOf_0 rfl rfl ?_
  obtain ⟨d1, P1, hd1, hC1, h⟩ := h
  refine z_callV (pc' := 4) (M' := mX9_solves) (As := []) dX9_leagueOf_1 rfl ml_X9_241 me_X9_solves hC1 rfl (by decide) rfl rfl hd1 (Nat.le_of_ble_eq_true rfl) ⟨Nat.le_refl _, Nat.le_refl _⟩ rfl ?_
  rintro _ _ ⟨I1, L1, rfl, rfl, hP1⟩
  replace h := h I1 L1 hP1
  refine z_iconst (pc' := 5) (v := 1) dX9_leagueOf_4 rfl (by decide) ?_
  refine z_iload_n (pc' := 6) (x := x1) dX9_leagueOf_5 rfl rfl ?_
  refine z_ishl (pc' := 7) dX9_leagueOf_6 rfl ?_
  refine z_iconst (pc' := 8) (v := 1) dX9_leagueOf_7 rfl (by decide) ?_
  refine z_iload_n (pc' := 9) (x := x2) dX9_leagueOf_8 rfl rfl ?_
  refine z_ishl (pc' := 10) dX9_leagueOf_9 rfl ?_
  refine z_ior (pc' := 11) dX9_leagueOf_10 rfl ?_
  refine z_istore_n (pc' := 12) (ls' := [some (.ref 44), some (.int x1), some (.int x2), some (.int (((1 : Int32) <<< (x1 &&& 31)) ||| ((1 : Int32) <<< (x2 &&& 31)))), none, none, none, none]) dX9_leagueOf_11 rfl (by decide) rfl ?_
  refine z_aload_n (pc' := 13) (x := 44) dX9_leagueOf_12 rfl rfl ?_
  refine z_iload_n (pc' := 14) (x := (((1 : Int32) <<< (x1 &&& 31)) ||| ((1 : Int32) <<< (x2 &&& 31)))) dX9_leagueOf_13 rfl rfl ?_
  refine z_iconst (pc' := 15) (v := 0) dX9_leagueOf_14 rfl (by decide) ?_
  refine z_iload_n (pc' := 16) (x := x1) dX9_leagueOf_15 rfl rfl ?_
  obtain ⟨d2, P2, hd2, hC2, h⟩ := h
  refine z_callV (pc' := 19) (M' := mX9_worthFrom) (As := [.int (((1 : Int32) <<< (x1 &&& 31)) ||| ((1 : Int32) <<< (x2 &&& 31))), .int (0 : Int32), .int x1]) dX9_leagueOf_16 rfl ml_X9_244 me_X9_worthFrom hC2 rfl (by decide) rfl rfl hd2 (Nat.le_of_ble_eq_true rfl) ⟨Nat.le_refl _, Nat.le_refl _⟩ rfl ?_
  rintro _ _ ⟨y2, I2, L2, rfl, rfl, hP2⟩
  replace h := h y2 I2 L2 hP2
  refine z_lstore (pc' := 21) (ls' := [some (.ref 44), some (.int x1), some (.int x2), some (.int (((1 : Int32) <<< (x1 &&& 31)) ||| ((1 : Int32) <<< (x2 &&& 31)))), some (.long y2), none, none, none]) dX9_leagueOf_19 rfl (by decide) rfl ?_
  refine z_aload_n (pc' := 22) (x := 44) dX9_leagueOf_21 rfl rfl ?_
  refine z_iload_n (pc' := 23) (x := (((1 : Int32) <<< (x1 &&& 31)) ||| ((1 : Int32) <<< (x2 &&& 31)))) dX9_leagueOf_22 rfl rfl ?_
  refine z_iconst (pc' := 24) (v := 0) dX9_leagueOf_23 rfl (by decide) ?_
  refine z_iload_n (pc' := 25) (x := x2) dX9_leagueOf_24 rfl rfl ?_
  obtain ⟨d3, P3, hd3, hC3, h⟩ := h
  refine z_callV (pc' := 28) (M' := mX9_worthFrom) (As := [.int (((1 : Int32) <<< (x1 &&& 31)) ||| ((1 : Int32) <<< (x2 &&& 31))), .int (0 : Int32), .int x2]) dX9_leagueOf_25 rfl ml_X9_244 me_X9_worthFrom hC3 rfl (by decide) rfl rfl hd3 (Nat.le_of_ble_eq_true rfl) ⟨Nat.le_refl _, Nat.le_refl _⟩ rfl ?_
  rintro _ _ ⟨y3, I3, L3, rfl, rfl, hP3⟩
  replace h := h y3 I3 L3 hP3
  refine z_lstore (pc' := 30) (ls' := [some (.ref 44), some (.int x1), some (.int x2), some (.int (((1 : Int32) <<< (x1 &&& 31)) ||| ((1 : Int32) <<< (x2 &&& 31)))), some (.long y2), none, some (.long y3), none]) dX9_leagueOf_28 rfl (by decide) rfl ?_
  refine z_lload (pc' := 32) (x := y2) dX9_leagueOf_30 rfl rfl ?_
  refine z_lload (pc' := 34) (x := y3) dX9_leagueOf_32 rfl rfl ?_
  refine z_lc_le (pc' := 38) (tgt := 42) dX9_leagueOf_34 dX9_leagueOf_35 rfl (by decide) (fun c4 => ?_) (fun c4 => ?_)
  · replace h := h.1 c4
    refine z_lload (pc' := 44) (x := y2) dX9_leagueOf_42 rfl rfl ?_
    refine z_lload (pc' := 46) (x := y3) dX9_leagueOf_44 rfl rfl ?_
    refine z_lc_ge (pc' := 50) (tgt := 54) dX9_leagueOf_46 dX9_leagueOf_47 rfl (by decide) (fun c5 => ?_) (fun c5 => ?_)
    · replace h := h.1 c5
      refine z_iconst (pc' := 55) (v := 0) dX9_leagueOf_54 rfl (by decide) ?_
      exact z_iret dX9_leagueOf_55 rfl rfl ⟨Nat.le_refl _, Nat.le_refl _⟩ ⟨_, _, _, rfl, rfl, h⟩
    · replace h := h.2 c5
      refine z_iconst (pc' := 51) (v := 2) dX9_leagueOf_50 rfl (by decide) ?_
      refine z_goto (pc' := 55) dX9_leagueOf_51 (by decide) ?_
      exact z_iret dX9_leagueOf_55 rfl rfl ⟨Nat.le_refl _, Nat.le_refl _⟩ ⟨_, _, _, rfl, rfl, h⟩
  · replace h := h.2 c4
    refine z_iconst (pc' := 39) (v := 1) dX9_leagueOf_38 rfl (by decide) ?_
    refine z_goto (pc' := 55) dX9_leagueOf_39 (by decide) ?_
    exact z_iret dX9_leagueOf_55 rfl rfl ⟨Nat.le_refl _, Nat.le_refl _⟩ ⟨_, _, _, rfl, rfl, h⟩
set_option maxHeartbeats 4000000 in
set_option maxRecDepth 100000 in
theorem t_X9_league {l : Launch} {G : zG} {d : Nat} {P : Int32 → zIM → zLM → Prop} {I : zIM} {L : zLM} {x1 : Int32}  (h : ((x1 < 0 → (P (-1 : Int32) I L)) ∧ (¬ x1 < 0 → (∃ (d2 : Nat) (P2 : Int32 → zIM → zLM → Prop), d2 + 1 ≤ d ∧ zCi l G d2 mX9_isPlayer [.ref 44, .int (x1 / (10 : Int32))] I L P2 ∧ ∀ (y2 : Int32) (I2 : zIM) (L2 : zLM), P2 y2 I2 L2 → (((y2 = 0 → (P (-1 : Int32) I2 L2)) ∧ (¬ y2 = 0 → (∃ (d4 : Nat) (P4 : Int32 → zIM → zLM → Prop), d4 + 1 ≤ d ∧ zCi l G d4 mX9_isPlayer [.ref 44, .int (x1 % (10 : Int32))] I2 L2 P4 ∧ ∀ (y4 : Int32) (I4 : zIM) (L4 : zLM), P4 y4 I4 L4 → (((y4 = 0 → (P (-1 : Int32) I4 L4)) ∧ (¬ y4 = 0 → (((¬ (x1 / (10 : Int32)) = (x1 % (10 : Int32)) → (∃ (d7 : Nat) (P7 : Int32 → zIM → zLM → Prop), d7 + 1 ≤ d ∧ zCi l G d7 mX9_leagueOf [.ref 44, .int (x1 / (10 : Int32)), .int (x1 % (10 : Int32))] I4 L4 P7 ∧ ∀ (y7 : Int32) (I7 : zIM) (L7 : zLM), P7 y7 I7 L7 → (P y7 I7 L7))) ∧ ((x1 / (10 : Int32)) = (x1 % (10 : Int32)) → (P (-1 : Int32) I4 L4))))))))))))))) : zCi l G d mX9_league [.ref 44, .int x1] I L P := by
  refine zCn.of (ls := [some (.ref 44), some (.int x1)]) (by decide) (Nat.le_of_ble_eq_true rfl) rfl ?_
  refine z_iload_n (pc' := 1) (x := x1) dX9_league_0 rfl rfl ?_
  refine z_if_lt (pc' := 4) (tgt := 37) dX9_league_1 rfl (by decide) (fun c1 => ?_) (fun c1 => ?_)
  · replace h := h.1 c1
    refine z_iconst (pc' := 38) (v := -1) dX9_league_37 rfl (by decide) ?_
    exact z_iret dX9_league_38 rfl rfl ⟨Nat.le_refl _, Nat.le_refl _⟩ ⟨_, _, _, rfl, rfl, h⟩
  · replace h := h.2 c1
    refine z_aload_n (pc' := 5) (x := 44) dX9_league_4 rfl rfl ?_
    refine z_iload_n (pc' := 6) (x := x1) dX9_league_5 rfl rfl ?_
    refine z_bipush (pc' := 8) (v := 10) dX9_league_6 rfl (by decide) ?_
    refine z_idiv (pc' := 9) dX9_league_8 rfl (by decide) ?_
    obtain ⟨d2, P2, hd2, hC2, h⟩ := h
    refine z_callV (pc' := 12) (M' := mX9_isPlayer) (As := [.int (x1 / (10 : Int32))]) dX9_league_9 rfl ml_X9_124 me_X9_isPlayer hC2 rfl (by decide) rfl rfl hd2 (Nat.le_of_ble_eq_true rfl) ⟨Nat.le_refl _, Nat.le_refl _⟩ rfl ?_
    rintro _ _ ⟨y2, I2, L2, rfl, rfl, hP2⟩
    replace h := h y2 I2 L2 hP2
    refine z_if_eq (pc' := 15) (tgt := 37) dX9_league_12 rfl (by decide) (fun c3 => ?_) (fun c3 => ?_)
    · replace h := h.1 c3
      refine z_iconst (pc' := 38) (v := -1) dX9_league_37 rfl (by decide) ?_
      exact z_iret dX9_league_38 rfl rfl ⟨Nat.le_refl _, Nat.le_refl _⟩ ⟨_, _, _, rfl, rfl, h⟩
    · replace h := h.2 c3
      refine z_aload_n (pc' := 16) (x := 44) dX9_league_15 rfl rfl ?_
      refine z_iload_n (pc' := 17) (x := x1) dX9_league_16 rfl rfl ?_
      refine z_bipush (pc' := 19) (v := 10) dX9_league_17 rfl (by decide) ?_
      refine z_irem (pc' := 20) dX9_league_19 rfl (by decide) ?_
      obtain ⟨d4, P4, hd4, hC4, h⟩ := h
      refine z_callV (pc' := 23) (M' := mX9_isPlayer) (As := [.int (x1 % (10 : Int32))]) dX9_league_20 rfl ml_X9_124 me_X9_isPlayer hC4 rfl (by decide) rfl rfl hd4 (Nat.le_of_ble_eq_true rfl) ⟨Nat.le_refl _, Nat.le_refl _⟩ rfl ?_
      rintro _ _ ⟨y4, I4, L4, rfl, rfl, hP4⟩
      replace h := h y4 I4 L4 hP4
      refine z_if_eq (pc' := 26) (tgt := 37) dX9_league_23 rfl (by decide) (fun c5 => ?_) (fun c5 => ?_)
      · replace h := h.1 c5
        refine z_iconst (pc' := 38) (v := -1) dX9_league_37 rfl (by decide) ?_
        exact z_iret dX9_league_38 rfl rfl ⟨Nat.le_refl _, Nat.le_refl _⟩ ⟨_, _, _, rfl, rfl, h⟩
      · replace h := h.2 c5
        refine z_iload_n (pc' := 27) (x := x1) dX9_league_26 rfl rfl ?_
        refine z_bipush (pc' := 29) (v := 10) dX9_league_27 rfl (by decide) ?_
        refine z_idiv (pc' := 30) dX9_league_29 rfl (by decide) ?_
        refine z_iload_n (pc' := 31) (x := x1) dX9_league_30 rfl rfl ?_
        refine z_bipush (pc' := 33) (v := 10) dX9_league_31 rfl (by decide) ?_
        refine z_irem (pc' := 34) dX9_league_33 rfl (by decide) ?_
        refine z_icmp_ne (pc' := 37) (tgt := 39) dX9_league_34 rfl (by decide) (fun c6 => ?_) (fun c6 => ?_)
        · replace h := h.1 c6
          refine z_aload_n (pc' := 40) (x := 44) dX9_league_39 rfl rfl ?_
          refine z_iload_n (pc' := 41) (x := x1) dX9_league_40 rfl rfl ?_
          refine z_bipush (pc' := 43) (v := 10) dX9_league_41 rfl (by decide) ?_
          refine z_idiv (pc' := 44) dX9_league_43 rfl (by decide) ?_
          refine z_iload_n (pc' := 45) (x := x1) dX9_league_44 rfl rfl ?_
          refine z_bipush (pc' := 47) (v := 10) dX9_league_45 rfl (by decide) ?_
          refine z_irem (pc' := 48) dX9_league_47 rfl (by decide) ?_
          obtain ⟨d7, P7, hd7, hC7, h⟩ := h
          refine z_callV (pc' := 51) (M' := mX9_leagueOf) (As := [.int (x1 / (10 : Int32)), .int (x1 % (10 : Int32))]) dX9_league_48 rfl ml_X9_282 me_X9_leagueOf hC7 rfl (by decide) rfl rfl hd7 (Nat.le_of_ble_eq_true rfl) ⟨Nat.le_refl _, Nat.le_refl _⟩ rfl ?_
          rintro _ _ ⟨y7, I7, L7, rfl, rfl, hP7⟩
          replace h := h y7 I7 L7 hP7
          exact z_iret dX9_league_51 rfl rfl ⟨Nat.le_refl _, Nat.le_refl _⟩ ⟨_, _, _, rfl, rfl, h⟩
        · replace h := h.2 c6
          refine z_iconst (pc' := 38) (v := -1) dX9_league_37 rfl (by decide) ?_
          exact z_iret dX9_league_38 rfl rfl ⟨Nat.le_refl _, Nat.le_refl _⟩ ⟨_, _, _, rfl, rfl, h⟩
set_option maxHeartbeats 4000000 in
set_option maxRecDepth 100000 in
theorem t_X9_points {l : Launch} {G : zG} {d : Nat} {P : Int32 → zIM → zLM → Prop} {I : zIM} {L : zLM} {x1 : Int32}  (h : ∃ (d1 : Nat) (P1 : Int32 → zIM → zLM → Prop), d1 + 1 ≤ d ∧ zCi l G d1 mX9_isPlayer [.ref 44, .int x1] I L P1 ∧ ∀ (y1 : Int32) (I1 : zIM) (L1 : zLM), P1 y1 I1 L1 → (((¬ y1 = 0 → (K_X9_points_14 l G d P I1 L1 x1 (0 : Int32) (0 : Int32))) ∧ (y1 = 0 → (P (-1 : Int32) I1 L1))))) : zCi l G d mX9_points [.ref 44, .int x1] I L P := by
  refine zCn.of (ls := [some (.ref 44), some (.int x1), none, none, none]) (by decide) (Nat.le_of_ble_eq_true rfl) rfl ?_
  refine z_aload_n (pc' := 1) (x := 44) dX9_points_0 rfl rfl ?_
  refine z_iload_n (pc' := 2) (x := x1) dX9_points_1 rfl rfl ?_
  obtain ⟨d1, P1, hd1, hC1, h⟩ := h
  refine z_callV (pc' := 5) (M' := mX9_isPlayer) (As := [.int x1]) dX9_points_2 rfl ml_X9_124 me_X9_isPlayer hC1 rfl (by decide) rfl rfl hd1 (Nat.le_of_ble_eq_true rfl) ⟨Nat.le_refl _, Nat.le_refl _⟩ rfl ?_
  rintro _ _ ⟨y1, I1, L1, rfl, rfl, hP1⟩
  replace h := h y1 I1 L1 hP1
  refine z_if_ne (pc' := 8) (tgt := 10) dX9_points_5 rfl (by decide) (fun c2 => ?_) (fun c2 => ?_)
  · replace h := h.1 c2
    refine z_iconst (pc' := 11) (v := 0) dX9_points_10 rfl (by decide) ?_
    refine z_istore_n (pc' := 12) (ls' := [some (.ref 44), some (.int x1), some (.int (0 : Int32)), none, none]) dX9_points_11 rfl (by decide) rfl ?_
    refine z_iconst (pc' := 13) (v := 0) dX9_points_12 rfl (by decide) ?_
    refine z_istore_n (pc' := 14) (ls' := [some (.ref 44), some (.int x1), some (.int (0 : Int32)), some (.int (0 : Int32)), none]) dX9_points_13 rfl (by decide) rfl ?_
    exact h
  · replace h := h.2 c2
    refine z_iconst (pc' := 9) (v := -1) dX9_points_8 rfl (by decide) ?_
    exact z_iret dX9_points_9 rfl rfl ⟨Nat.le_refl _, Nat.le_refl _⟩ ⟨_, _, _, rfl, rfl, h⟩
set_option maxHeartbeats 4000000 in
set_option maxRecDepth 100000 in
theorem t_X9_points_14 {l : Launch} {G : zG} {d : Nat} {P : Int32 → zIM → zLM → Prop} {I : zIM} {L : zLM} {x1 : Int32} {x2 : Int32} {x3 : Int32}   (h : (((I 44 6) ≤ x3 → (P x2 I L)) ∧ (¬ (I 44 6) ≤ x3 → (((¬ x3 = x1 → (∃ (d3 : Nat) (P3 : Int32 → zIM → zLM → Prop), d3 + 1 ≤ d ∧ zCi l G d3 mX9_leagueOf [.ref 44, .int x1, .int x3] I L P3 ∧ ∀ (y3 : Int32) (I3 : zIM) (L3 : zLM), P3 y3 I3 L3 → (((¬ y3 = (1 : Int32) → (((¬ y3 = 0 → (K_X9_points_14 l G d P I3 L3 x1 (x2 + (0 : Int32)) (x3 + (1 : Int32)))) ∧ (y3 = 0 → (K_X9_points_14 l G d P I3 L3 x1 (x2 + (1 : Int32)) (x3 + (1 : Int32))))))) ∧ (y3 = (1 : Int32) → (K_X9_points_14 l G d P I3 L3 x1 (x2 + (2 : Int32)) (x3 + (1 : Int32)))))))) ∧ (x3 = x1 → (K_X9_points_14 l G d P I L x1 (x2 + (0 : Int32)) (x3 + (1 : Int32))))))))) : K_X9_points_14 l G d P I L x1 x2 x3  := by
  refine z_iload_n (pc' := 15) (x := x3) dX9_points_14 rfl rfl ?_
  refine z_aload_n (pc' := 16) (x := 44) dX9_points_15 rfl rfl ?_
  refine z_geti (pc' := 19) (x := (I 44 6)) dX9_points_16 rfl fl_X9_96 rfl rfl rfl ?_
  refine z_icmp_ge (pc' := 22) (tgt := 68) dX9_points_19 rfl (by decide) (fun c1 => ?_) (fun c1 => ?_)
  · replace h := h.1 c1
    refine z_iload_n (pc' := 69) (x := x2) dX9_points_68 rfl rfl ?_
    exact z_iret dX9_points_69 rfl rfl ⟨Nat.le_refl _, Nat.le_refl _⟩ ⟨_, _, _, rfl, rfl, h⟩
  · replace h := h.2 c1
    refine z_iload_n (pc' := 23) (x := x3) dX9_points_22 rfl rfl ?_
    refine z_iload_n (pc' := 24) (x := x1) dX9_points_23 rfl rfl ?_
    refine z_icmp_ne (pc' := 27) (tgt := 31) dX9_points_24 rfl (by decide) (fun c2 => ?_) (fun c2 => ?_)
    · replace h := h.1 c2
      refine z_aload_n (pc' := 32) (x := 44) dX9_points_31 rfl rfl ?_
      refine z_iload_n (pc' := 33) (x := x1) dX9_points_32 rfl rfl ?_
      refine z_iload_n (pc' := 34) (x := x3) dX9_points_33 rfl rfl ?_
      obtain ⟨d3, P3, hd3, hC3, h⟩ := h
      refine z_callV (pc' := 37) (M' := mX9_leagueOf) (As := [.int x1, .int x3]) dX9_points_34 rfl ml_X9_282 me_X9_leagueOf hC3 rfl (by decide) rfl rfl hd3 (Nat.le_of_ble_eq_true rfl) ⟨Nat.le_refl _, Nat.le_refl _⟩ rfl ?_
      rintro _ _ ⟨y3, I3, L3, rfl, rfl, hP3⟩
      replace h := h y3 I3 L3 hP3
      refine z_istore (pc' := 39) (ls' := [some (.ref 44), some (.int x1), some (.int x2), some (.int x3), some (.int y3)]) dX9_points_37 rfl (by decide) rfl ?_
      refine z_iload_n (pc' := 40) (x := x2) dX9_points_39 rfl rfl ?_
      refine z_iload (pc' := 42) (x := y3) dX9_points_40 rfl rfl ?_
      refine z_iconst (pc' := 43) (v := 1) dX9_points_42 rfl (by decide) ?_
      refine z_icmp_ne (pc' := 46) (tgt := 50) dX9_points_43 rfl (by decide) (fun c4 => ?_) (fun c4 => ?_)
      · replace h := h.1 c4
        refine z_iload (pc' := 52) (x := y3) dX9_points_50 rfl rfl ?_
        refine z_if_ne (pc' := 55) (tgt := 59) dX9_points_52 rfl (by decide) (fun c5 => ?_) (fun c5 => ?_)
        · replace h := h.1 c5
          refine z_iconst (pc' := 60) (v := 0) dX9_points_59 rfl (by decide) ?_
          refine z_iadd (pc' := 61) dX9_points_60 rfl ?_
          refine z_istore_n (pc' := 62) (ls' := [some (.ref 44), some (.int x1), some (.int (x2 + (0 : Int32))), some (.int x3), some (.int y3)]) dX9_points_61 rfl (by decide) rfl ?_
          refine z_iinc (pc' := 65) (x := x3) (v := (x3 + (1 : Int32))) (ls' := [some (.ref 44), some (.int x1), some (.int (x2 + (0 : Int32))), some (.int (x3 + (1 : Int32))), some (.int y3)]) dX9_points_62 rfl rfl (by rfl) (by decide) rfl ?_
          refine z_goto (pc' := 14) dX9_points_65 (by decide) ?_
          refine z_sub (pc' := 0) [some (.ref 44), some (.int x1), some (.int (x2 + (0 : Int32))), some (.int (x3 + (1 : Int32))), none] (zsub_s (zsub_s (zsub_s (zsub_s (zsub_n zsub_nil))))) ?_
          exact h
        · replace h := h.2 c5
          refine z_iconst (pc' := 56) (v := 1) dX9_points_55 rfl (by decide) ?_
          refine z_goto (pc' := 60) dX9_points_56 (by decide) ?_
          refine z_iadd (pc' := 61) dX9_points_60 rfl ?_
          refine z_istore_n (pc' := 62) (ls' := [some (.ref 44), some (.int x1), some (.int (x2 + (1 : Int32))), some (.int x3), some (.int y3)]) dX9_points_61 rfl (by decide) rfl ?_
          refine z_iinc (pc' := 65) (x := x3) (v := (x3 + (1 : Int32))) (ls' := [some (.ref 44), some (.int x1), some (.int (x2 + (1 : Int32))), some (.int (x3 + (1 : Int32))), some (.int y3)]) dX9_points_62 rfl rfl (by rfl) (by decide) rfl ?_
          refine z_goto (pc' := 14) dX9_points_65 (by decide) ?_
          refine z_sub (pc' := 0) [some (.ref 44), some (.int x1), some (.int (x2 + (1 : Int32))), some (.int (x3 + (1 : Int32))), none] (zsub_s (zsub_s (zsub_s (zsub_s (zsub_n zsub_nil))))) ?_
          exact h
      · replace h := h.2 c4
        refine z_iconst (pc' := 47) (v := 2) dX9_points_46 rfl (by decide) ?_
        refine z_goto (pc' := 60) dX9_points_47 (by decide) ?_
        refine z_iadd (pc' := 61) dX9_points_60 rfl ?_
        refine z_istore_n (pc' := 62) (ls' := [some (.ref 44), some (.int x1), some (.int (x2 + (2 : Int32))), some (.int x3), some (.int y3)]) dX9_points_61 rfl (by decide) rfl ?_
        refine z_iinc (pc' := 65) (x := x3) (v := (x3 + (1 : Int32))) (ls' := [some (.ref 44), some (.int x1), some (.int (x2 + (2 : Int32))), some (.int (x3 + (1 : Int32))), some (.int y3)]) dX9_points_62 rfl rfl (by rfl) (by decide) rfl ?_
        refine z_goto (pc' := 14) dX9_points_65 (by decide) ?_
        refine z_sub (pc' := 0) [some (.ref 44), some (.int x1), some (.int (x2 + (2 : Int32))), some (.int (x3 + (1 : Int32))), none] (zsub_s (zsub_s (zsub_s (zsub_s (zsub_n zsub_nil))))) ?_
        exact h
    · replace h := h.2 c2
      refine z_iconst (pc' := 28) (v := 2) dX9_points_27 rfl (by decide) ?_
      refine z_goto (pc' := 37) dX9_points_28 (by decide) ?_
      refine z_istore (pc' := 39) (ls' := [some (.ref 44), some (.int x1), some (.int x2), some (.int x3), some (.int (2 : Int32))]) dX9_points_37 rfl (by decide) rfl ?_
      refine z_iload_n (pc' := 40) (x := x2) dX9_points_39 rfl rfl ?_
      refine z_iload (pc' := 42) (x := (2 : Int32)) dX9_points_40 rfl rfl ?_
      refine z_iconst (pc' := 43) (v := 1) dX9_points_42 rfl (by decide) ?_
      refine z_icmp_ne (pc' := 46) (tgt := 50) dX9_points_43 rfl (by decide) (fun _ => ?_) (fun c => absurd c (by decide))
      refine z_iload (pc' := 52) (x := (2 : Int32)) dX9_points_50 rfl rfl ?_
      refine z_if_ne (pc' := 55) (tgt := 59) dX9_points_52 rfl (by decide) (fun _ => ?_) (fun c => absurd c (by decide))
      refine z_iconst (pc' := 60) (v := 0) dX9_points_59 rfl (by decide) ?_
      refine z_iadd (pc' := 61) dX9_points_60 rfl ?_
      refine z_istore_n (pc' := 62) (ls' := [some (.ref 44), some (.int x1), some (.int (x2 + (0 : Int32))), some (.int x3), some (.int (2 : Int32))]) dX9_points_61 rfl (by decide) rfl ?_
      refine z_iinc (pc' := 65) (x := x3) (v := (x3 + (1 : Int32))) (ls' := [some (.ref 44), some (.int x1), some (.int (x2 + (0 : Int32))), some (.int (x3 + (1 : Int32))), some (.int (2 : Int32))]) dX9_points_62 rfl rfl (by rfl) (by decide) rfl ?_
      refine z_goto (pc' := 14) dX9_points_65 (by decide) ?_
      refine z_sub (pc' := 0) [some (.ref 44), some (.int x1), some (.int (x2 + (0 : Int32))), some (.int (x3 + (1 : Int32))), none] (zsub_s (zsub_s (zsub_s (zsub_s (zsub_n zsub_nil))))) ?_
      exact h
set_option maxHeartbeats 4000000 in
set_option maxRecDepth 100000 in
theorem t_X9_mayThrow {l : Launch} {G : zG} {d : Nat} {P : Int32 → zIM → zLM → Prop} {I : zIM} {L : zLM} {x1 : Int32} {x2 : Int32} {x3 : Int32} {x4 : Int64} {x6 : Int64}  (h : ∃ (d1 : Nat) (P1 : Int32 → zIM → zLM → Prop), d1 + 1 ≤ d ∧ zCi l G d1 mX9_isOver [.ref 44, .int x1, .int x2] I L P1 ∧ ∀ (y1 : Int32) (I1 : zIM) (L1 : zLM), P1 y1 I1 L1 → (((¬ y1 = 0 → (K_X9_mayThrow_19 l G d P I1 L1)) ∧ (y1 = 0 → (∃ (d3 : Nat) (P3 : Int32 → zIM → zLM → Prop), d3 + 1 ≤ d ∧ zCi l G d3 mX9_within [.long x6, .long (0 : Int64), .long (1 : Int64)] I1 L1 P3 ∧ ∀ (y3 : Int32) (I3 : zIM) (L3 : zLM), P3 y3 I3 L3 → (((¬ y3 = 0 → (((¬ x4 = (9 : Int64) → (∃ (d6 : Nat) (P6 : Int32 → zIM → zLM → Prop), d6 + 1 ≤ d ∧ zCi l G d6 mX9_within [.long x4, .long (0 : Int64), .long (((I3 44 6) - (1 : Int32)).toInt64)] I3 L3 P6 ∧ ∀ (y6 : Int32) (I6 : zIM) (L6 : zLM), P6 y6 I6 L6 → (((y6 = 0 → (K_X9_mayThrow_77 l G d P I6 L6)) ∧ (¬ y6 = 0 → (((x4 = (x3.toInt64) → (K_X9_mayThrow_77 l G d P I6 L6)) ∧ (¬ x4 = (x3.toInt64) → (∃ (d9 : Nat) (P9 : Int32 → zIM → zLM → Prop), d9 + 1 ≤ d ∧ zCi l G d9 mX9_isIn [.int x2, .int (x4.toInt32)] I6 L6 P9 ∧ ∀ (y9 : Int32) (I9 : zIM) (L9 : zLM), P9 y9 I9 L9 → (((¬ y9 = 0 → (∃ (d11 : Nat) (P11 : Int32 → zIM → zLM → Prop), d11 + 1 ≤ d ∧ zCi l G d11 mX9_bitsOf [.int x2] I9 L9 P11 ∧ ∀ (y11 : Int32) (I11 : zIM) (L11 : zLM), P11 y11 I11 L11 → (∃ (d12 : Nat) (P12 : Int32 → zIM → zLM → Prop), d12 + 1 ≤ d ∧ zCi l G d12 mX9_hitsOf [.ref 44, .int x3, .int (x4.toInt32), .int y11, .int x1] I11 L11 P12 ∧ ∀ (y12 : Int32) (I12 : zIM) (L12 : zLM), P12 y12 I12 L12 → (((¬ x6 = (1 : Int64) → ((((12 : Int32) ≤ y12 → (K_X9_mayThrow_126 l G d P I12 L12  (0 : Int32))) ∧ (¬ (12 : Int32) ≤ y12 → (K_X9_mayThrow_126 l G d P I12 L12  (1 : Int32)))))) ∧ (x6 = (1 : Int64) → (((y12 ≤ 0 → (K_X9_mayThrow_126 l G d P I12 L12  (0 : Int32))) ∧ (¬ y12 ≤ 0 → (K_X9_mayThrow_126 l G d P I12 L12  (1 : Int32))))))))))) ∧ (y9 = 0 → (K_X9_mayThrow_77 l G d P I9 L9))))))))))))) ∧ (x4 = (9 : Int64) → (((¬ x6 = (0 : Int64) → (K_X9_mayThrow_42 l G d P I3 L3  (0 : Int32))) ∧ (x6 = (0 : Int64) → (K_X9_mayThrow_42 l G d P I3 L3  (1 : Int32))))))))) ∧ (y3 = 0 → (K_X9_mayThrow_19 l G d P I3 L3))))))))) : zCi l G d mX9_mayThrow [.ref 44, .int x1, .int x2, .int x3, .long x4, .long x6] I L P := by
  refine zCn.of (ls := [some (.ref 44), some (.int x1), some (.int x2), some (.int x3), some (.long x4), none, some (.long x6), none, none]) (by decide) (Nat.le_of_ble_eq_true rfl) rfl ?_
  refine z_aload_n (pc' := 1) (x := 44) dX9_mayThrow_0 rfl rfl ?_
  refine z_iload_n (pc' := 2) (x := x1) dX9_mayThrow_1 rfl rfl ?_
  refine z_iload_n (pc' := 3) (x := x2) dX9_mayThrow_2 rfl rfl ?_
  obtain ⟨d1, P1, hd1, hC1, h⟩ := h
  refine z_callV (pc' := 6) (M' := mX9_isOver) (As := [.int x1, .int x2]) dX9_mayThrow_3 rfl ml_X9_228 me_X9_isOver hC1 rfl (by decide) rfl rfl hd1 (Nat.le_of_ble_eq_true rfl) ⟨Nat.le_refl _, Nat.le_refl _⟩ rfl ?_
  rintro _ _ ⟨y1, I1, L1, rfl, rfl, hP1⟩
  replace h := h y1 I1 L1 hP1
  refine z_if_ne (pc' := 9) (tgt := 19) dX9_mayThrow_6 rfl (by decide) (fun c2 => ?_) (fun c2 => ?_)
  · replace h := h.1 c2
    refine z_sub (pc' := 0) [none, none, none, none, none, none, none, none, none] (zsub_n (zsub_n (zsub_n (zsub_n (zsub_n (zsub_n (zsub_n (zsub_n (zsub_n zsub_nil))))))))) ?_
    exact h
  · replace h := h.2 c2
    refine z_lload (pc' := 11) (x := x6) dX9_mayThrow_9 rfl rfl ?_
    refine z_lconst (pc' := 12) (v := 0) dX9_mayThrow_11 rfl (by decide) ?_
    refine z_lconst (pc' := 13) (v := 1) dX9_mayThrow_12 rfl (by decide) ?_
    obtain ⟨d3, P3, hd3, hC3, h⟩ := h
    refine z_callS (pc' := 16) (M' := mX9_within) (As := [.long x6, .long (0 : Int64), .long (1 : Int64)]) dX9_mayThrow_13 rfl ml_X9_99 me_X9_within hC3 rfl hd3 (Nat.le_of_ble_eq_true rfl) ⟨Nat.le_refl _, Nat.le_refl _⟩ rfl ?_
    rintro _ _ ⟨y3, I3, L3, rfl, rfl, hP3⟩
    replace h := h y3 I3 L3 hP3
    refine z_if_ne (pc' := 19) (tgt := 21) dX9_mayThrow_16 rfl (by decide) (fun c4 => ?_) (fun c4 => ?_)
    · replace h := h.1 c4
      refine z_lload (pc' := 23) (x := x4) dX9_mayThrow_21 rfl rfl ?_
      refine z_ldc2 (pc' := 26) (v := 9) dX9_mayThrow_23 rfl kl_X9_137 ?_
      refine z_lc_ne (pc' := 30) (tgt := 43) dX9_mayThrow_26 dX9_mayThrow_27 rfl (by decide) (fun c5 => ?_) (fun c5 => ?_)
      · replace h := h.1 c5
        refine z_lload (pc' := 45) (x := x4) dX9_mayThrow_43 rfl rfl ?_
        refine z_lconst (pc' := 46) (v := 0) dX9_mayThrow_45 rfl (by decide) ?_
        refine z_aload_n (pc' := 47) (x := 44) dX9_mayThrow_46 rfl rfl ?_
        refine z_geti (pc' := 50) (x := (I3 44 6)) dX9_mayThrow_47 rfl fl_X9_96 rfl rfl rfl ?_
        refine z_iconst (pc' := 51) (v := 1) dX9_mayThrow_50 rfl (by decide) ?_
        refine z_isub (pc' := 52) dX9_mayThrow_51 rfl ?_
        refine z_i2l (pc' := 53) dX9_mayThrow_52 rfl ?_
        obtain ⟨d6, P6, hd6, hC6, h⟩ := h
        refine z_callS (pc' := 56) (M' := mX9_within) (As := [.long x4, .long (0 : Int64), .long (((I3 44 6) - (1 : Int32)).toInt64)]) dX9_mayThrow_53 rfl ml_X9_99 me_X9_within hC6 rfl hd6 (Nat.le_of_ble_eq_true rfl) ⟨Nat.le_refl _, Nat.le_refl _⟩ rfl ?_
        rintro _ _ ⟨y6, I6, L6, rfl, rfl, hP6⟩
        replace h := h y6 I6 L6 hP6
        refine z_if_eq (pc' := 59) (tgt := 77) dX9_mayThrow_56 rfl (by decide) (fun c7 => ?_) (fun c7 => ?_)
        · replace h := h.1 c7
          refine z_sub (pc' := 0) [none, none, none, none, none, none, none, none, none] (zsub_n (zsub_n (zsub_n (zsub_n (zsub_n (zsub_n (zsub_n (zsub_n (zsub_n zsub_nil))))))))) ?_
          exact h
        · replace h := h.2 c7
          refine z_lload (pc' := 61) (x := x4) dX9_mayThrow_59 rfl rfl ?_
          refine z_iload_n (pc' := 62) (x := x3) dX9_mayThrow_61 rfl rfl ?_
          refine z_i2l (pc' := 63) dX9_mayThrow_62 rfl ?_
          refine z_lc_eq (pc' := 67) (tgt := 77) dX9_mayThrow_63 dX9_mayThrow_64 rfl (by decide) (fun c8 => ?_) (fun c8 => ?_)
          · replace h := h.1 c8
            refine z_sub (pc' := 0) [none, none, none, none, none, none, none, none, none] (zsub_n (zsub_n (zsub_n (zsub_n (zsub_n (zsub_n (zsub_n (zsub_n (zsub_n zsub_nil))))))))) ?_
            exact h
          · replace h := h.2 c8
            refine z_iload_n (pc' := 68) (x := x2) dX9_mayThrow_67 rfl rfl ?_
            refine z_lload (pc' := 70) (x := x4) dX9_mayThrow_68 rfl rfl ?_
            refine z_l2i (pc' := 71) dX9_mayThrow_70 rfl ?_
            obtain ⟨d9, P9, hd9, hC9, h⟩ := h
            refine z_callS (pc' := 74) (M' := mX9_isIn) (As := [.int x2, .int (x4.toInt32)]) dX9_mayThrow_71 rfl ml_X9_133 me_X9_isIn hC9 rfl hd9 (Nat.le_of_ble_eq_true rfl) ⟨Nat.le_refl _, Nat.le_refl _⟩ rfl ?_
            rintro _ _ ⟨y9, I9, L9, rfl, rfl, hP9⟩
            replace h := h y9 I9 L9 hP9
            refine z_if_ne (pc' := 77) (tgt := 79) dX9_mayThrow_74 rfl (by decide) (fun c10 => ?_) (fun c10 => ?_)
            · replace h := h.1 c10
              refine z_aload_n (pc' := 80) (x := 44) dX9_mayThrow_79 rfl rfl ?_
              refine z_iload_n (pc' := 81) (x := x3) dX9_mayThrow_80 rfl rfl ?_
              refine z_lload (pc' := 83) (x := x4) dX9_mayThrow_81 rfl rfl ?_
              refine z_l2i (pc' := 84) dX9_mayThrow_83 rfl ?_
              refine z_iload_n (pc' := 85) (x := x2) dX9_mayThrow_84 rfl rfl ?_
              obtain ⟨d11, P11, hd11, hC11, h⟩ := h
              refine z_callS (pc' := 88) (M' := mX9_bitsOf) (As := [.int x2]) dX9_mayThrow_85 rfl ml_X9_197 me_X9_bitsOf hC11 rfl hd11 (Nat.le_of_ble_eq_true rfl) ⟨Nat.le_refl _, Nat.le_refl _⟩ rfl ?_
              rintro _ _ ⟨y11, I11, L11, rfl, rfl, hP11⟩
              replace h := h y11 I11 L11 hP11
              refine z_iload_n (pc' := 89) (x := x1) dX9_mayThrow_88 rfl rfl ?_
              obtain ⟨d12, P12, hd12, hC12, h⟩ := h
              refine z_callV (pc' := 92) (M' := mX9_hitsOf) (As := [.int x3, .int (x4.toInt32), .int y11, .int x1]) dX9_mayThrow_89 rfl ml_X9_211 me_X9_hitsOf hC12 rfl (by decide) rfl rfl hd12 (Nat.le_of_ble_eq_true rfl) ⟨Nat.le_refl _, Nat.le_refl _⟩ rfl ?_
              rintro _ _ ⟨y12, I12, L12, rfl, rfl, hP12⟩
              replace h := h y12 I12 L12 hP12
              refine z_istore (pc' := 94) (ls' := [some (.ref 44), some (.int x1), some (.int x2), some (.int x3), some (.long x4), none, some (.long x6), none, some (.int y12)]) dX9_mayThrow_92 rfl (by decide) rfl ?_
              refine z_lload (pc' := 96) (x := x6) dX9_mayThrow_94 rfl rfl ?_
              refine z_lconst (pc' := 97) (v := 1) dX9_mayThrow_96 rfl (by decide) ?_
              refine z_lc_ne (pc' := 101) (tgt := 114) dX9_mayThrow_97 dX9_mayThrow_98 rfl (by decide) (fun c13 => ?_) (fun c13 => ?_)
              · replace h := h.1 c13
                refine z_iload (pc' := 116) (x := y12) dX9_mayThrow_114 rfl rfl ?_
                refine z_bipush (pc' := 118) (v := 12) dX9_mayThrow_116 rfl (by decide) ?_
                refine z_icmp_ge (pc' := 121) (tgt := 125) dX9_mayThrow_118 rfl (by decide) (fun c14 => ?_) (fun c14 => ?_)
                · replace h := h.1 c14
                  refine z_iconst (pc' := 126) (v := 0) dX9_mayThrow_125 rfl (by decide) ?_
                  refine z_sub (pc' := 0) [none, none, none, none, none, none, none, none, none] (zsub_n (zsub_n (zsub_n (zsub_n (zsub_n (zsub_n (zsub_n (zsub_n (zsub_n zsub_nil))))))))) ?_
                  exact h
                · replace h := h.2 c14
                  refine z_iconst (pc' := 122) (v := 1) dX9_mayThrow_121 rfl (by decide) ?_
                  refine z_goto (pc' := 126) dX9_mayThrow_122 (by decide) ?_
                  refine z_sub (pc' := 0) [none, none, none, none, none, none, none, none, none] (zsub_n (zsub_n (zsub_n (zsub_n (zsub_n (zsub_n (zsub_n (zsub_n (zsub_n zsub_nil))))))))) ?_
                  exact h
              · replace h := h.2 c13
                refine z_iload (pc' := 103) (x := y12) dX9_mayThrow_101 rfl rfl ?_
                refine z_if_le (pc' := 106) (tgt := 110) dX9_mayThrow_103 rfl (by decide) (fun c15 => ?_) (fun c15 => ?_)
                · replace h := h.1 c15
                  refine z_iconst (pc' := 111) (v := 0) dX9_mayThrow_110 rfl (by decide) ?_
                  refine z_goto (pc' := 126) dX9_mayThrow_111 (by decide) ?_
                  refine z_sub (pc' := 0) [none, none, none, none, none, none, none, none, none] (zsub_n (zsub_n (zsub_n (zsub_n (zsub_n (zsub_n (zsub_n (zsub_n (zsub_n zsub_nil))))))))) ?_
                  exact h
                · replace h := h.2 c15
                  refine z_iconst (pc' := 107) (v := 1) dX9_mayThrow_106 rfl (by decide) ?_
                  refine z_goto (pc' := 126) dX9_mayThrow_107 (by decide) ?_
                  refine z_sub (pc' := 0) [none, none, none, none, none, none, none, none, none] (zsub_n (zsub_n (zsub_n (zsub_n (zsub_n (zsub_n (zsub_n (zsub_n (zsub_n zsub_nil))))))))) ?_
                  exact h
            · replace h := h.2 c10
              refine z_sub (pc' := 0) [none, none, none, none, none, none, none, none, none] (zsub_n (zsub_n (zsub_n (zsub_n (zsub_n (zsub_n (zsub_n (zsub_n (zsub_n zsub_nil))))))))) ?_
              exact h
      · replace h := h.2 c5
        refine z_lload (pc' := 32) (x := x6) dX9_mayThrow_30 rfl rfl ?_
        refine z_lconst (pc' := 33) (v := 0) dX9_mayThrow_32 rfl (by decide) ?_
        refine z_lc_ne (pc' := 37) (tgt := 41) dX9_mayThrow_33 dX9_mayThrow_34 rfl (by decide) (fun c16 => ?_) (fun c16 => ?_)
        · replace h := h.1 c16
          refine z_iconst (pc' := 42) (v := 0) dX9_mayThrow_41 rfl (by decide) ?_
          refine z_sub (pc' := 0) [none, none, none, none, none, none, none, none, none] (zsub_n (zsub_n (zsub_n (zsub_n (zsub_n (zsub_n (zsub_n (zsub_n (zsub_n zsub_nil))))))))) ?_
          exact h
        · replace h := h.2 c16
          refine z_iconst (pc' := 38) (v := 1) dX9_mayThrow_37 rfl (by decide) ?_
          refine z_goto (pc' := 42) dX9_mayThrow_38 (by decide) ?_
          refine z_sub (pc' := 0) [none, none, none, none, none, none, none, none, none] (zsub_n (zsub_n (zsub_n (zsub_n (zsub_n (zsub_n (zsub_n (zsub_n (zsub_n zsub_nil))))))))) ?_
          exact h
    · replace h := h.2 c4
      refine z_sub (pc' := 0) [none, none, none, none, none, none, none, none, none] (zsub_n (zsub_n (zsub_n (zsub_n (zsub_n (zsub_n (zsub_n (zsub_n (zsub_n zsub_nil))))))))) ?_
      exact h
set_option maxHeartbeats 4000000 in
set_option maxRecDepth 100000 in
theorem t_X9_mayThrow_19 {l : Launch} {G : zG} {d : Nat} {P : Int32 → zIM → zLM → Prop} {I : zIM} {L : zLM}    (h : P (0 : Int32) I L) : K_X9_mayThrow_19 l G d P I L   := by
  refine z_iconst (pc' := 20) (v := 0) dX9_mayThrow_19 rfl (by decide) ?_
  exact z_iret dX9_mayThrow_20 rfl rfl ⟨Nat.le_refl _, Nat.le_refl _⟩ ⟨_, _, _, rfl, rfl, h⟩
set_option maxHeartbeats 4000000 in
set_option maxRecDepth 100000 in
theorem t_X9_mayThrow_77 {l : Launch} {G : zG} {d : Nat} {P : Int32 → zIM → zLM → Prop} {I : zIM} {L : zLM}    (h : P (0 : Int32) I L) : K_X9_mayThrow_77 l G d P I L   := by
  refine z_iconst (pc' := 78) (v := 0) dX9_mayThrow_77 rfl (by decide) ?_
  exact z_iret dX9_mayThrow_78 rfl rfl ⟨Nat.le_refl _, Nat.le_refl _⟩ ⟨_, _, _, rfl, rfl, h⟩
set_option maxHeartbeats 4000000 in
set_option maxRecDepth 100000 in
theorem t_X9_mayThrow_126 {l : Launch} {G : zG} {d : Nat} {P : Int32 → zIM → zLM → Prop} {I : zIM} {L : zLM} {s0 : Int32}   (h : (s0 = 0 ∨ s0 = 1) ∧ P s0 I L) : K_X9_mayThrow_126 l G d P I L s0  := by
  exact z_iret dX9_mayThrow_126 rfl (znb h.1) ⟨Nat.le_refl _, Nat.le_refl _⟩ ⟨_, _, _, rfl, rfl, h.2⟩
set_option maxHeartbeats 4000000 in
set_option maxRecDepth 100000 in
theorem t_X9_mayThrow_42 {l : Launch} {G : zG} {d : Nat} {P : Int32 → zIM → zLM → Prop} {I : zIM} {L : zLM} {s0 : Int32}   (h : (s0 = 0 ∨ s0 = 1) ∧ P s0 I L) : K_X9_mayThrow_42 l G d P I L s0  := by
  exact z_iret dX9_mayThrow_42 rfl (znb h.1) ⟨Nat.le_refl _, Nat.le_refl _⟩ ⟨_, _, _, rfl, rfl, h.2⟩
set_option maxHeartbeats 4000000 in
set_option maxRecDepth 100000 in
theorem t_X9_looksAt {l : Launch} {G : zG} {d : Nat} {P : zIM → zLM → Prop} {I : zIM} {L : zLM} {x1 : Int32}  (h : ∃ (d1 : Nat) (P1 : zIM → zLM → Prop), d1 + 1 ≤ d ∧ zCv l G d1 mX9_solves [.ref 44] I L P1 ∧ ∀ (I1 : zIM) (L1 : zLM), P1 I1 L1 → (∃ (d2 : Nat) (P2 : Int32 → zIM → zLM → Prop), d2 + 1 ≤ d ∧ zCi l G d2 mX9_all [.ref 44] (xI (xI I1 44 29 (-2 : Int32)) 44 30 (-2 : Int32)) (xL (xL L1 44 31 (1 : Int64)) 44 32 (1 : Int64)) P2 ∧ ∀ (y2 : Int32) (I2 : zIM) (L2 : zLM), P2 y2 I2 L2 → (((¬ (I2 44 6) = 0 → (K_X9_looksAt_52 l G d P I2 L2 x1 y2 (I2 49 0) (0 : Int32))) ∧ ((I2 44 6) = 0 → (K_X9_looksAt_52 l G d P I2 L2 x1 y2 (0 : Int32) (0 : Int32))))))) : zCv l G d mX9_looksAt [.ref 44, .int x1] I L P := by
  refine zCn.of (ls := [some (.ref 44), some (.int x1), none, none, none, none, none, none, none, none, none]) (by decide) (Nat.le_of_ble_eq_true rfl) rfl ?_
  refine z_aload_n (pc' := 1) (x := 44) dX9_looksAt_0 rfl rfl ?_
  obtain ⟨d1, P1, hd1, hC1, h⟩ := h
  refine z_callV (pc' := 4) (M' := mX9_solves) (As := []) dX9_looksAt_1 rfl ml_X9_241 me_X9_solves hC1 rfl (by decide) rfl rfl hd1 (Nat.le_of_ble_eq_true rfl) ⟨Nat.le_refl _, Nat.le_refl _⟩ rfl ?_
  rintro _ _ ⟨I1, L1, rfl, rfl, hP1⟩
  replace h := h I1 L1 hP1
  refine z_aload_n (pc' := 5) (x := 44) dX9_looksAt_4 rfl rfl ?_
  refine z_bipush (pc' := 7) (v := -2) dX9_looksAt_5 rfl (by decide) ?_
  refine z_puti (pc' := 10) (w' := zs (xI I1 44 29 (-2 : Int32)) L1) dX9_looksAt_7 rfl fl_X9_285 rfl rfl rfl rfl rfl rfl ?_
  refine z_aload_n (pc' := 11) (x := 44) dX9_looksAt_10 rfl rfl ?_
  refine z_bipush (pc' := 13) (v := -2) dX9_looksAt_11 rfl (by decide) ?_
  refine z_puti (pc' := 16) (w' := zs (xI (xI I1 44 29 (-2 : Int32)) 44 30 (-2 : Int32)) L1) dX9_looksAt_13 rfl fl_X9_288 rfl rfl rfl rfl rfl rfl ?_
  refine z_aload_n (pc' := 17) (x := 44) dX9_looksAt_16 rfl rfl ?_
  refine z_lconst (pc' := 18) (v := 1) dX9_looksAt_17 rfl (by decide) ?_
  refine z_putl (pc' := 21) (w' := zs (xI (xI I1 44 29 (-2 : Int32)) 44 30 (-2 : Int32)) (xL L1 44 31 (1 : Int64))) dX9_looksAt_18 rfl fl_X9_291 rfl rfl rfl rfl ?_
  refine z_aload_n (pc' := 22) (x := 44) dX9_looksAt_21 rfl rfl ?_
  refine z_lconst (pc' := 23) (v := 1) dX9_looksAt_22 rfl (by decide) ?_
  refine z_putl (pc' := 26) (w' := zs (xI (xI I1 44 29 (-2 : Int32)) 44 30 (-2 : Int32)) (xL (xL L1 44 31 (1 : Int64)) 44 32 (1 : Int64))) dX9_looksAt_23 rfl fl_X9_295 rfl rfl rfl rfl ?_
  refine z_aload_n (pc' := 27) (x := 44) dX9_looksAt_26 rfl rfl ?_
  obtain ⟨d2, P2, hd2, hC2, h⟩ := h
  refine z_callV (pc' := 30) (M' := mX9_all) (As := []) dX9_looksAt_27 rfl ml_X9_225 me_X9_all hC2 rfl (by decide) rfl rfl hd2 (Nat.le_of_ble_eq_true rfl) ⟨Nat.le_refl _, Nat.le_refl _⟩ rfl ?_
  rintro _ _ ⟨y2, I2, L2, rfl, rfl, hP2⟩
  replace h := h y2 I2 L2 hP2
  refine z_istore_n (pc' := 31) (ls' := [some (.ref 44), some (.int x1), some (.int y2), none, none, none, none, none, none, none, none]) dX9_looksAt_30 rfl (by decide) rfl ?_
  refine z_aload_n (pc' := 32) (x := 44) dX9_looksAt_31 rfl rfl ?_
  refine z_geti (pc' := 35) (x := (I2 44 6)) dX9_looksAt_32 rfl fl_X9_96 rfl rfl rfl ?_
  refine z_if_ne (pc' := 38) (tgt := 42) dX9_looksAt_35 rfl (by decide) (fun c3 => ?_) (fun c3 => ?_)
  · replace h := h.1 c3
    refine z_aload_n (pc' := 43) (x := 44) dX9_looksAt_42 rfl rfl ?_
    refine z_getr (pc' := 46) (x := 49) dX9_looksAt_43 rfl fl_X9_22 rfl rfl rfl ?_
    refine z_iconst (pc' := 47) (v := 0) dX9_looksAt_46 rfl (by decide) ?_
    refine z_iald (pc' := 48) (x := (I2 49 0)) (j := 0) dX9_looksAt_47 rfl rfl (by decide) rfl (by decide) rfl ?_
    refine z_istore_n (pc' := 49) (ls' := [some (.ref 44), some (.int x1), some (.int y2), some (.int (I2 49 0)), none, none, none, none, none, none, none]) dX9_looksAt_48 rfl (by decide) rfl ?_
    refine z_iconst (pc' := 50) (v := 0) dX9_looksAt_49 rfl (by decide) ?_
    refine z_istore (pc' := 52) (ls' := [some (.ref 44), some (.int x1), some (.int y2), some (.int (I2 49 0)), some (.int (0 : Int32)), none, none, none, none, none, none]) dX9_looksAt_50 rfl (by decide) rfl ?_
    exact h
  · replace h := h.2 c3
    refine z_iconst (pc' := 39) (v := 0) dX9_looksAt_38 rfl (by decide) ?_
    refine z_goto (pc' := 48) dX9_looksAt_39 (by decide) ?_
    refine z_istore_n (pc' := 49) (ls' := [some (.ref 44), some (.int x1), some (.int y2), some (.int (0 : Int32)), none, none, none, none, none, none, none]) dX9_looksAt_48 rfl (by decide) rfl ?_
    refine z_iconst (pc' := 50) (v := 0) dX9_looksAt_49 rfl (by decide) ?_
    refine z_istore (pc' := 52) (ls' := [some (.ref 44), some (.int x1), some (.int y2), some (.int (0 : Int32)), some (.int (0 : Int32)), none, none, none, none, none, none]) dX9_looksAt_50 rfl (by decide) rfl ?_
    exact h
set_option maxHeartbeats 4000000 in
set_option maxRecDepth 100000 in
theorem t_X9_looksAt_52 {l : Launch} {G : zG} {d : Nat} {P : zIM → zLM → Prop} {I : zIM} {L : zLM} {x1 : Int32} {x2 : Int32} {x3 : Int32} {x4 : Int32}   (h : ∃ j1 : Nat, x1 = nI j1 ∧ j1 < 6 ∧ ((((I 66 j1) ≤ ((2 : Int32) * x4) → (P I L)) ∧ (¬ (I 66 j1) ≤ ((2 : Int32) * x4) → (((0 ≤ (I 44 29) → (P I L)) ∧ (¬ 0 ≤ (I 44 29) → (∃ j4 : Nat, (((60 : Int32) * x1) + ((2 : Int32) * x4)) = nI j4 ∧ j4 < 360 ∧ ((((I 66 j1) ≤ (((2 : Int32) * x4) + (1 : Int32)) → (K_X9_looksAt_298 l G d P (xI I 44 29 x4) L x1 x2 x3 x4)) ∧ (¬ (I 66 j1) ≤ (((2 : Int32) * x4) + (1 : Int32)) → (∃ j6 : Nat, ((((60 : Int32) * x1) + ((2 : Int32) * x4)) + (1 : Int32)) = nI j6 ∧ j6 < 360 ∧ (∃ (d7 : Nat) (P7 : Int32 → zIM → zLM → Prop), d7 + 1 ≤ d ∧ zCi l G d7 mX9_mayThrow [.ref 44, .int x4, .int x2, .int x3, .long (L 67 j4), .long (L 67 j6)] I L P7 ∧ ∀ (y7 : Int32) (I7 : zIM) (L7 : zLM), P7 y7 I7 L7 → (((¬ y7 = 0 → (((0 ≤ (I7 44 30) → (K_X9_looksAt_202 l G d P I7 L7 x1 x2 x3 x4 (L 67 j4) (L 67 j6) (I7 44 30))) ∧ (¬ 0 ≤ (I7 44 30) → (∃ (d10 : Nat) (P10 : Int32 → zIM → zLM → Prop), d10 + 1 ≤ d ∧ zCi l G d10 mX9_stateOf [.int x4, .int x2, .int x3] I7 L7 P10 ∧ ∀ (y10 : Int32) (I10 : zIM) (L10 : zLM), P10 y10 I10 L10 → (∃ j11 : Nat, y10 = nI j11 ∧ j11 < 640 ∧ (((((I10 58 j11).toInt64) = (L 67 j4) → (K_X9_looksAt_202 l G d P I10 L10 x1 x2 x3 x4 (L 67 j4) (L 67 j6) (I10 44 30))) ∧ (¬ ((I10 58 j11).toInt64) = (L 67 j4) → (K_X9_looksAt_202 l G d P I10 L10 x1 x2 x3 x4 (L 67 j4) (L 67 j6) x4)))))))))) ∧ (y7 = 0 → (K_X9_looksAt_298 l G d P (xI I7 44 29 x4) L7 x1 x2 x3 x4))))))))))))))))) : K_X9_looksAt_52 l G d P I L x1 x2 x3 x4  := by
  refine z_iconst (pc' := 53) (v := 2) dX9_looksAt_52 rfl (by decide) ?_
  refine z_iload (pc' := 55) (x := x4) dX9_looksAt_53 rfl rfl ?_
  refine z_imul (pc' := 56) dX9_looksAt_55 rfl ?_
  refine z_aload_n (pc' := 57) (x := 44) dX9_looksAt_56 rfl rfl ?_
  refine z_getr (pc' := 60) (x := 66) dX9_looksAt_57 rfl fl_X9_74 rfl rfl rfl ?_
  refine z_iload_n (pc' := 61) (x := x1) dX9_looksAt_60 rfl rfl ?_
  obtain ⟨j1, ha1, hb1, h⟩ := h
  refine z_iald (pc' := 62) (x := (I 66 j1)) (j := j1) dX9_looksAt_61 rfl rfl (by decide) ha1 hb1 rfl ?_
  refine z_icmp_ge (pc' := 65) (tgt := 304) dX9_looksAt_62 rfl (by decide) (fun c2 => ?_) (fun c2 => ?_)
  · replace h := h.1 c2
    exact z_vret dX9_looksAt_304 rfl ⟨Nat.le_refl _, Nat.le_refl _⟩ ⟨_, _, rfl, rfl, h⟩
  · replace h := h.2 c2
    refine z_aload_n (pc' := 66) (x := 44) dX9_looksAt_65 rfl rfl ?_
    refine z_geti (pc' := 69) (x := (I 44 29)) dX9_looksAt_66 rfl fl_X9_285 rfl rfl rfl ?_
    refine z_if_ge (pc' := 72) (tgt := 304) dX9_looksAt_69 rfl (by decide) (fun c3 => ?_) (fun c3 => ?_)
    · replace h := h.1 c3
      exact z_vret dX9_looksAt_304 rfl ⟨Nat.le_refl _, Nat.le_refl _⟩ ⟨_, _, rfl, rfl, h⟩
    · replace h := h.2 c3
      refine z_aload_n (pc' := 73) (x := 44) dX9_looksAt_72 rfl rfl ?_
      refine z_getr (pc' := 76) (x := 67) dX9_looksAt_73 rfl fl_X9_77 rfl rfl rfl ?_
      refine z_bipush (pc' := 78) (v := 60) dX9_looksAt_76 rfl (by decide) ?_
      refine z_iload_n (pc' := 79) (x := x1) dX9_looksAt_78 rfl rfl ?_
      refine z_imul (pc' := 80) dX9_looksAt_79 rfl ?_
      refine z_iconst (pc' := 81) (v := 2) dX9_looksAt_80 rfl (by decide) ?_
      refine z_iload (pc' := 83) (x := x4) dX9_looksAt_81 rfl rfl ?_
      refine z_imul (pc' := 84) dX9_looksAt_83 rfl ?_
      refine z_iadd (pc' := 85) dX9_looksAt_84 rfl ?_
      obtain ⟨j4, ha4, hb4, h⟩ := h
      refine z_lald (pc' := 86) (x := (L 67 j4)) (j := j4) dX9_looksAt_85 rfl rfl (by decide) ha4 hb4 rfl ?_
      refine z_lstore (pc' := 88) (ls' := [some (.ref 44), some (.int x1), some (.int x2), some (.int x3), some (.int x4), some (.long (L 67 j4)), none, none, none, none, none]) dX9_looksAt_86 rfl (by decide) rfl ?_
      refine z_iconst (pc' := 89) (v := 2) dX9_looksAt_88 rfl (by decide) ?_
      refine z_iload (pc' := 91) (x := x4) dX9_looksAt_89 rfl rfl ?_
      refine z_imul (pc' := 92) dX9_looksAt_91 rfl ?_
      refine z_iconst (pc' := 93) (v := 1) dX9_looksAt_92 rfl (by decide) ?_
      refine z_iadd (pc' := 94) dX9_looksAt_93 rfl ?_
      refine z_aload_n (pc' := 95) (x := 44) dX9_looksAt_94 rfl rfl ?_
      refine z_getr (pc' := 98) (x := 66) dX9_looksAt_95 rfl fl_X9_74 rfl rfl rfl ?_
      refine z_iload_n (pc' := 99) (x := x1) dX9_looksAt_98 rfl rfl ?_
      refine z_iald (pc' := 100) (x := (I 66 j1)) (j := j1) dX9_looksAt_99 rfl rfl (by decide) ha1 hb1 rfl ?_
      refine z_icmp_ge (pc' := 103) (tgt := 107) dX9_looksAt_100 rfl (by decide) (fun c5 => ?_) (fun c5 => ?_)
      · replace h := h.1 c5
        refine z_iconst (pc' := 108) (v := 0) dX9_looksAt_107 rfl (by decide) ?_
        refine z_istore (pc' := 110) (ls' := [some (.ref 44), some (.int x1), some (.int x2), some (.int x3), some (.int x4), some (.long (L 67 j4)), none, some (.int (0 : Int32)), none, none, none]) dX9_looksAt_108 rfl (by decide) rfl ?_
        refine z_iload (pc' := 112) (x := (0 : Int32)) dX9_looksAt_110 rfl rfl ?_
        refine z_if_eq (pc' := 115) (tgt := 134) dX9_looksAt_112 rfl (by decide) (fun _ => ?_) (fun c => absurd c (by decide))
        refine z_lconst (pc' := 135) (v := 0) dX9_looksAt_134 rfl (by decide) ?_
        refine z_lstore (pc' := 137) (ls' := [some (.ref 44), some (.int x1), some (.int x2), some (.int x3), some (.int x4), some (.long (L 67 j4)), none, some (.int (0 : Int32)), some (.long (0 : Int64)), none, none]) dX9_looksAt_135 rfl (by decide) rfl ?_
        refine z_iload (pc' := 139) (x := (0 : Int32)) dX9_looksAt_137 rfl rfl ?_
        refine z_if_eq (pc' := 142) (tgt := 157) dX9_looksAt_139 rfl (by decide) (fun _ => ?_) (fun c => absurd c (by decide))
        refine z_aload_n (pc' := 158) (x := 44) dX9_looksAt_157 rfl rfl ?_
        refine z_iload (pc' := 160) (x := x4) dX9_looksAt_158 rfl rfl ?_
        refine z_puti (pc' := 163) (w' := zs (xI I 44 29 x4) L) dX9_looksAt_160 rfl fl_X9_285 rfl rfl rfl rfl rfl rfl ?_
        refine z_goto (pc' := 298) dX9_looksAt_163 (by decide) ?_
        refine z_sub (pc' := 0) [some (.ref 44), some (.int x1), some (.int x2), some (.int x3), some (.int x4), none, none, none, none, none, none] (zsub_s (zsub_s (zsub_s (zsub_s (zsub_s (zsub_n (zsub_n (zsub_n (zsub_n (zsub_n (zsub_n zsub_nil))))))))))) ?_
        exact h
      · replace h := h.2 c5
        refine z_iconst (pc' := 104) (v := 1) dX9_looksAt_103 rfl (by decide) ?_
        refine z_goto (pc' := 108) dX9_looksAt_104 (by decide) ?_
        refine z_istore (pc' := 110) (ls' := [some (.ref 44), some (.int x1), some (.int x2), some (.int x3), some (.int x4), some (.long (L 67 j4)), none, some (.int (1 : Int32)), none, none, none]) dX9_looksAt_108 rfl (by decide) rfl ?_
        refine z_iload (pc' := 112) (x := (1 : Int32)) dX9_looksAt_110 rfl rfl ?_
        refine z_if_eq (pc' := 115) (tgt := 134) dX9_looksAt_112 rfl (by decide) (fun c => absurd c (by decide)) (fun _ => ?_)
        refine z_aload_n (pc' := 116) (x := 44) dX9_looksAt_115 rfl rfl ?_
        refine z_getr (pc' := 119) (x := 67) dX9_looksAt_116 rfl fl_X9_77 rfl rfl rfl ?_
        refine z_bipush (pc' := 121) (v := 60) dX9_looksAt_119 rfl (by decide) ?_
        refine z_iload_n (pc' := 122) (x := x1) dX9_looksAt_121 rfl rfl ?_
        refine z_imul (pc' := 123) dX9_looksAt_122 rfl ?_
        refine z_iconst (pc' := 124) (v := 2) dX9_looksAt_123 rfl (by decide) ?_
        refine z_iload (pc' := 126) (x := x4) dX9_looksAt_124 rfl rfl ?_
        refine z_imul (pc' := 127) dX9_looksAt_126 rfl ?_
        refine z_iadd (pc' := 128) dX9_looksAt_127 rfl ?_
        refine z_iconst (pc' := 129) (v := 1) dX9_looksAt_128 rfl (by decide) ?_
        refine z_iadd (pc' := 130) dX9_looksAt_129 rfl ?_
        obtain ⟨j6, ha6, hb6, h⟩ := h
        refine z_lald (pc' := 131) (x := (L 67 j6)) (j := j6) dX9_looksAt_130 rfl rfl (by decide) ha6 hb6 rfl ?_
        refine z_goto (pc' := 135) dX9_looksAt_131 (by decide) ?_
        refine z_lstore (pc' := 137) (ls' := [some (.ref 44), some (.int x1), some (.int x2), some (.int x3), some (.int x4), some (.long (L 67 j4)), none, some (.int (1 : Int32)), some (.long (L 67 j6)), none, none]) dX9_looksAt_135 rfl (by decide) rfl ?_
        refine z_iload (pc' := 139) (x := (1 : Int32)) dX9_looksAt_137 rfl rfl ?_
        refine z_if_eq (pc' := 142) (tgt := 157) dX9_looksAt_139 rfl (by decide) (fun c => absurd c (by decide)) (fun _ => ?_)
        refine z_aload_n (pc' := 143) (x := 44) dX9_looksAt_142 rfl rfl ?_
        refine z_iload (pc' := 145) (x := x4) dX9_looksAt_143 rfl rfl ?_
        refine z_iload_n (pc' := 146) (x := x2) dX9_looksAt_145 rfl rfl ?_
        refine z_iload_n (pc' := 147) (x := x3) dX9_looksAt_146 rfl rfl ?_
        refine z_lload (pc' := 149) (x := (L 67 j4)) dX9_looksAt_147 rfl rfl ?_
        refine z_lload (pc' := 151) (x := (L 67 j6)) dX9_looksAt_149 rfl rfl ?_
        obtain ⟨d7, P7, hd7, hC7, h⟩ := h
        refine z_callV (pc' := 154) (M' := mX9_mayThrow) (As := [.int x4, .int x2, .int x3, .long (L 67 j4), .long (L 67 j6)]) dX9_looksAt_151 rfl ml_X9_298 me_X9_mayThrow hC7 rfl (by decide) rfl rfl hd7 (Nat.le_of_ble_eq_true rfl) ⟨Nat.le_refl _, Nat.le_refl _⟩ rfl ?_
        rintro _ _ ⟨y7, I7, L7, rfl, rfl, hP7⟩
        replace h := h y7 I7 L7 hP7
        refine z_if_ne (pc' := 157) (tgt := 166) dX9_looksAt_154 rfl (by decide) (fun c8 => ?_) (fun c8 => ?_)
        · replace h := h.1 c8
          refine z_aload_n (pc' := 167) (x := 44) dX9_looksAt_166 rfl rfl ?_
          refine z_aload_n (pc' := 168) (x := 44) dX9_looksAt_167 rfl rfl ?_
          refine z_geti (pc' := 171) (x := (I7 44 30)) dX9_looksAt_168 rfl fl_X9_288 rfl rfl rfl ?_
          refine z_if_ge (pc' := 174) (tgt := 198) dX9_looksAt_171 rfl (by decide) (fun c9 => ?_) (fun c9 => ?_)
          · replace h := h.1 c9
            refine z_aload_n (pc' := 199) (x := 44) dX9_looksAt_198 rfl rfl ?_
            refine z_geti (pc' := 202) (x := (I7 44 30)) dX9_looksAt_199 rfl fl_X9_288 rfl rfl rfl ?_
            refine z_sub (pc' := 0) [some (.ref 44), some (.int x1), some (.int x2), some (.int x3), some (.int x4), some (.long (L 67 j4)), none, none, some (.long (L 67 j6)), none, none] (zsub_s (zsub_s (zsub_s (zsub_s (zsub_s (zsub_s (zsub_n (zsub_n (zsub_s (zsub_n (zsub_n zsub_nil))))))))))) ?_
            exact h
          · replace h := h.2 c9
            refine z_aload_n (pc' := 175) (x := 44) dX9_looksAt_174 rfl rfl ?_
            refine z_getr (pc' := 178) (x := 58) dX9_looksAt_175 rfl fl_X9_50 rfl rfl rfl ?_
            refine z_iload (pc' := 180) (x := x4) dX9_looksAt_178 rfl rfl ?_
            refine z_iload_n (pc' := 181) (x := x2) dX9_looksAt_180 rfl rfl ?_
            refine z_iload_n (pc' := 182) (x := x3) dX9_looksAt_181 rfl rfl ?_
            obtain ⟨d10, P10, hd10, hC10, h⟩ := h
            refine z_callS (pc' := 185) (M' := mX9_stateOf) (As := [.int x4, .int x2, .int x3]) dX9_looksAt_182 rfl ml_X9_207 me_X9_stateOf hC10 rfl hd10 (Nat.le_of_ble_eq_true rfl) ⟨Nat.le_refl _, Nat.le_refl _⟩ rfl ?_
            rintro _ _ ⟨y10, I10, L10, rfl, rfl, hP10⟩
            replace h := h y10 I10 L10 hP10
            obtain ⟨j11, ha11, hb11, h⟩ := h
            refine z_iald (pc' := 186) (x := (I10 58 j11)) (j := j11) dX9_looksAt_185 rfl rfl (by decide) ha11 hb11 rfl ?_
            refine z_i2l (pc' := 187) dX9_looksAt_186 rfl ?_
            refine z_lload (pc' := 189) (x := (L 67 j4)) dX9_looksAt_187 rfl rfl ?_
            refine z_lc_eq (pc' := 193) (tgt := 198) dX9_looksAt_189 dX9_looksAt_190 rfl (by decide) (fun c12 => ?_) (fun c12 => ?_)
            · replace h := h.1 c12
              refine z_aload_n (pc' := 199) (x := 44) dX9_looksAt_198 rfl rfl ?_
              refine z_geti (pc' := 202) (x := (I10 44 30)) dX9_looksAt_199 rfl fl_X9_288 rfl rfl rfl ?_
              refine z_sub (pc' := 0) [some (.ref 44), some (.int x1), some (.int x2), some (.int x3), some (.int x4), some (.long (L 67 j4)), none, none, some (.long (L 67 j6)), none, none] (zsub_s (zsub_s (zsub_s (zsub_s (zsub_s (zsub_s (zsub_n (zsub_n (zsub_s (zsub_n (zsub_n zsub_nil))))))))))) ?_
              exact h
            · replace h := h.2 c12
              refine z_iload (pc' := 195) (x := x4) dX9_looksAt_193 rfl rfl ?_
              refine z_goto (pc' := 202) dX9_looksAt_195 (by decide) ?_
              refine z_sub (pc' := 0) [some (.ref 44), some (.int x1), some (.int x2), some (.int x3), some (.int x4), some (.long (L 67 j4)), none, none, some (.long (L 67 j6)), none, none] (zsub_s (zsub_s (zsub_s (zsub_s (zsub_s (zsub_s (zsub_n (zsub_n (zsub_s (zsub_n (zsub_n zsub_nil))))))))))) ?_
              exact h
        · replace h := h.2 c8
          refine z_aload_n (pc' := 158) (x := 44) dX9_looksAt_157 rfl rfl ?_
          refine z_iload (pc' := 160) (x := x4) dX9_looksAt_158 rfl rfl ?_
          refine z_puti (pc' := 163) (w' := zs (xI I7 44 29 x4) L7) dX9_looksAt_160 rfl fl_X9_285 rfl rfl rfl rfl rfl rfl ?_
          refine z_goto (pc' := 298) dX9_looksAt_163 (by decide) ?_
          refine z_sub (pc' := 0) [some (.ref 44), some (.int x1), some (.int x2), some (.int x3), some (.int x4), none, none, none, none, none, none] (zsub_s (zsub_s (zsub_s (zsub_s (zsub_s (zsub_n (zsub_n (zsub_n (zsub_n (zsub_n (zsub_n zsub_nil))))))))))) ?_
          exact h
set_option maxHeartbeats 4000000 in
set_option maxRecDepth 100000 in
theorem t_X9_looksAt_298 {l : Launch} {G : zG} {d : Nat} {P : zIM → zLM → Prop} {I : zIM} {L : zLM} {x1 : Int32} {x2 : Int32} {x3 : Int32} {x4 : Int32}   (h : K_X9_looksAt_52 l G d P I L x1 x2 x3 (x4 + (1 : Int32))) : K_X9_looksAt_298 l G d P I L x1 x2 x3 x4  := by
  refine z_iinc (pc' := 301) (x := x4) (v := (x4 + (1 : Int32))) (ls' := [some (.ref 44), some (.int x1), some (.int x2), some (.int x3), some (.int (x4 + (1 : Int32))), none, none, none, none, none, none]) dX9_looksAt_298 rfl rfl (by rfl) (by decide) rfl ?_
  refine z_goto (pc' := 52) dX9_looksAt_301 (by decide) ?_
  exact h
set_option maxHeartbeats 4000000 in
set_option maxRecDepth 100000 in
theorem t_X9_looksAt_202 {l : Launch} {G : zG} {d : Nat} {P : zIM → zLM → Prop} {I : zIM} {L : zLM} {x1 : Int32} {x2 : Int32} {x3 : Int32} {x4 : Int32} {x5 : Int64} {x8 : Int64} {s1 : Int32}   (h : ((x5 = (9 : Int64) → (K_X9_looksAt_270 l G d P (xI I 44 30 s1) L x1 x2 x3 x4 x5 x8)) ∧ (¬ x5 = (9 : Int64) → (∃ (d2 : Nat) (P2 : Int32 → zIM → zLM → Prop), d2 + 1 ≤ d ∧ zCi l G d2 mX9_bitsOf [.int x2] (xI I 44 30 s1) L P2 ∧ ∀ (y2 : Int32) (I2 : zIM) (L2 : zLM), P2 y2 I2 L2 → (∃ (d3 : Nat) (P3 : Int32 → zIM → zLM → Prop), d3 + 1 ≤ d ∧ zCi l G d3 mX9_hitsOf [.ref 44, .int x3, .int (x5.toInt32), .int y2, .int x4] I2 L2 P3 ∧ ∀ (y3 : Int32) (I3 : zIM) (L3 : zLM), P3 y3 I3 L3 → (((¬ x8 = (1 : Int64) → (K_X9_looksAt_254 l G d P I3 L3 x1 x2 x3 x4 x5 x8 (L3 44 31) (((12 : Int32) - y3).toInt64))) ∧ (x8 = (1 : Int64) → (K_X9_looksAt_254 l G d P I3 L3 x1 x2 x3 x4 x5 x8 (L3 44 31) (y3.toInt64)))))))))) : K_X9_looksAt_202 l G d P I L x1 x2 x3 x4 x5 x8 s1  := by
  refine z_puti (pc' := 205) (w' := zs (xI I 44 30 s1) L) dX9_looksAt_202 rfl fl_X9_288 rfl rfl rfl rfl rfl rfl ?_
  refine z_lload (pc' := 207) (x := x5) dX9_looksAt_205 rfl rfl ?_
  refine z_ldc2 (pc' := 210) (v := 9) dX9_looksAt_207 rfl kl_X9_137 ?_
  refine z_lc_eq (pc' := 214) (tgt := 270) dX9_looksAt_210 dX9_looksAt_211 rfl (by decide) (fun c1 => ?_) (fun c1 => ?_)
  · replace h := h.1 c1
    exact h
  · replace h := h.2 c1
    refine z_aload_n (pc' := 215) (x := 44) dX9_looksAt_214 rfl rfl ?_
    refine z_iload_n (pc' := 216) (x := x3) dX9_looksAt_215 rfl rfl ?_
    refine z_lload (pc' := 218) (x := x5) dX9_looksAt_216 rfl rfl ?_
    refine z_l2i (pc' := 219) dX9_looksAt_218 rfl ?_
    refine z_iload_n (pc' := 220) (x := x2) dX9_looksAt_219 rfl rfl ?_
    obtain ⟨d2, P2, hd2, hC2, h⟩ := h
    refine z_callS (pc' := 223) (M' := mX9_bitsOf) (As := [.int x2]) dX9_looksAt_220 rfl ml_X9_197 me_X9_bitsOf hC2 rfl hd2 (Nat.le_of_ble_eq_true rfl) ⟨Nat.le_refl _, Nat.le_refl _⟩ rfl ?_
    rintro _ _ ⟨y2, I2, L2, rfl, rfl, hP2⟩
    replace h := h y2 I2 L2 hP2
    refine z_iload (pc' := 225) (x := x4) dX9_looksAt_223 rfl rfl ?_
    obtain ⟨d3, P3, hd3, hC3, h⟩ := h
    refine z_callV (pc' := 228) (M' := mX9_hitsOf) (As := [.int x3, .int (x5.toInt32), .int y2, .int x4]) dX9_looksAt_225 rfl ml_X9_211 me_X9_hitsOf hC3 rfl (by decide) rfl rfl hd3 (Nat.le_of_ble_eq_true rfl) ⟨Nat.le_refl _, Nat.le_refl _⟩ rfl ?_
    rintro _ _ ⟨y3, I3, L3, rfl, rfl, hP3⟩
    replace h := h y3 I3 L3 hP3
    refine z_istore (pc' := 230) (ls' := [some (.ref 44), some (.int x1), some (.int x2), some (.int x3), some (.int x4), some (.long x5), none, none, some (.long x8), none, some (.int y3)]) dX9_looksAt_228 rfl (by decide) rfl ?_
    refine z_aload_n (pc' := 231) (x := 44) dX9_looksAt_230 rfl rfl ?_
    refine z_dup (pc' := 232) dX9_looksAt_231 rfl rfl ?_
    refine z_getl (pc' := 235) (x := (L3 44 31)) dX9_looksAt_232 rfl fl_X9_291 rfl rfl rfl ?_
    refine z_lload (pc' := 237) (x := x8) dX9_looksAt_235 rfl rfl ?_
    refine z_lconst (pc' := 238) (v := 1) dX9_looksAt_237 rfl (by decide) ?_
    refine z_lc_ne (pc' := 242) (tgt := 248) dX9_looksAt_238 dX9_looksAt_239 rfl (by decide) (fun c4 => ?_) (fun c4 => ?_)
    · replace h := h.1 c4
      refine z_bipush (pc' := 250) (v := 12) dX9_looksAt_248 rfl (by decide) ?_
      refine z_iload (pc' := 252) (x := y3) dX9_looksAt_250 rfl rfl ?_
      refine z_isub (pc' := 253) dX9_looksAt_252 rfl ?_
      refine z_i2l (pc' := 254) dX9_looksAt_253 rfl ?_
      refine z_sub (pc' := 0) [some (.ref 44), some (.int x1), some (.int x2), some (.int x3), some (.int x4), some (.long x5), none, none, some (.long x8), none, none] (zsub_s (zsub_s (zsub_s (zsub_s (zsub_s (zsub_s (zsub_n (zsub_n (zsub_s (zsub_n (zsub_n zsub_nil))))))))))) ?_
      exact h
    · replace h := h.2 c4
      refine z_iload (pc' := 244) (x := y3) dX9_looksAt_242 rfl rfl ?_
      refine z_i2l (pc' := 245) dX9_looksAt_244 rfl ?_
      refine z_goto (pc' := 254) dX9_looksAt_245 (by decide) ?_
      refine z_sub (pc' := 0) [some (.ref 44), some (.int x1), some (.int x2), some (.int x3), some (.int x4), some (.long x5), none, none, some (.long x8), none, none] (zsub_s (zsub_s (zsub_s (zsub_s (zsub_s (zsub_s (zsub_n (zsub_n (zsub_s (zsub_n (zsub_n zsub_nil))))))))))) ?_
      exact h
set_option maxHeartbeats 4000000 in
set_option maxRecDepth 100000 in
theorem t_X9_looksAt_270 {l : Launch} {G : zG} {d : Nat} {P : zIM → zLM → Prop} {I : zIM} {L : zLM} {x1 : Int32} {x2 : Int32} {x3 : Int32} {x4 : Int32} {x5 : Int64} {x8 : Int64}   (h : ((¬ x8 = (1 : Int64) → (K_X9_looksAt_290 l G d P I L x1 x3 x4 x2)) ∧ (x8 = (1 : Int64) → (K_X9_looksAt_290 l G d P I L x1 x3 x4 (x2 &&& (((1 : Int32) <<< ((x5.toInt32) &&& 31)) ^^^ (-1 : Int32))))))) : K_X9_looksAt_270 l G d P I L x1 x2 x3 x4 x5 x8  := by
  refine z_lload (pc' := 272) (x := x8) dX9_looksAt_270 rfl rfl ?_
  refine z_lconst (pc' := 273) (v := 1) dX9_looksAt_272 rfl (by decide) ?_
  refine z_lc_ne (pc' := 277) (tgt := 289) dX9_looksAt_273 dX9_looksAt_274 rfl (by decide) (fun c1 => ?_) (fun c1 => ?_)
  · replace h := h.1 c1
    refine z_iload_n (pc' := 290) (x := x2) dX9_looksAt_289 rfl rfl ?_
    refine z_sub (pc' := 0) [some (.ref 44), some (.int x1), none, some (.int x3), some (.int x4), none, none, none, none, none, none] (zsub_s (zsub_s (zsub_n (zsub_s (zsub_s (zsub_n (zsub_n (zsub_n (zsub_n (zsub_n (zsub_n zsub_nil))))))))))) ?_
    exact h
  · replace h := h.2 c1
    refine z_iload_n (pc' := 278) (x := x2) dX9_looksAt_277 rfl rfl ?_
    refine z_iconst (pc' := 279) (v := 1) dX9_looksAt_278 rfl (by decide) ?_
    refine z_lload (pc' := 281) (x := x5) dX9_looksAt_279 rfl rfl ?_
    refine z_l2i (pc' := 282) dX9_looksAt_281 rfl ?_
    refine z_ishl (pc' := 283) dX9_looksAt_282 rfl ?_
    refine z_iconst (pc' := 284) (v := -1) dX9_looksAt_283 rfl (by decide) ?_
    refine z_ixor (pc' := 285) dX9_looksAt_284 rfl ?_
    refine z_iand (pc' := 286) dX9_looksAt_285 rfl ?_
    refine z_goto (pc' := 290) dX9_looksAt_286 (by decide) ?_
    refine z_sub (pc' := 0) [some (.ref 44), some (.int x1), none, some (.int x3), some (.int x4), none, none, none, none, none, none] (zsub_s (zsub_s (zsub_n (zsub_s (zsub_s (zsub_n (zsub_n (zsub_n (zsub_n (zsub_n (zsub_n zsub_nil))))))))))) ?_
    exact h
set_option maxHeartbeats 4000000 in
set_option maxRecDepth 100000 in
theorem t_X9_looksAt_254 {l : Launch} {G : zG} {d : Nat} {P : zIM → zLM → Prop} {I : zIM} {L : zLM} {x1 : Int32} {x2 : Int32} {x3 : Int32} {x4 : Int32} {x5 : Int64} {x8 : Int64} {s1 : Int64} {s2 : Int64}   (h : K_X9_looksAt_270 l G d P I (xL (xL L 44 31 (s1 * s2)) 44 32 ((L 44 32) * (12 : Int64))) x1 x2 x3 x4 x5 x8) : K_X9_looksAt_254 l G d P I L x1 x2 x3 x4 x5 x8 s1 s2  := by
  refine z_lmul (pc' := 255) dX9_looksAt_254 rfl ?_
  refine z_putl (pc' := 258) (w' := zs I (xL L 44 31 (s1 * s2))) dX9_looksAt_255 rfl fl_X9_291 rfl rfl rfl rfl ?_
  refine z_aload_n (pc' := 259) (x := 44) dX9_looksAt_258 rfl rfl ?_
  refine z_dup (pc' := 260) dX9_looksAt_259 rfl rfl ?_
  refine z_getl (pc' := 263) (x := (L 44 32)) dX9_looksAt_260 rfl fl_X9_295 rfl rfl rfl ?_
  refine z_ldc2 (pc' := 266) (v := 12) dX9_looksAt_263 rfl kl_X9_103 ?_
  refine z_lmul (pc' := 267) dX9_looksAt_266 rfl ?_
  refine z_putl (pc' := 270) (w' := zs I (xL (xL L 44 31 (s1 * s2)) 44 32 ((L 44 32) * (12 : Int64)))) dX9_looksAt_267 rfl fl_X9_295 rfl rfl rfl rfl ?_
  exact h
set_option maxHeartbeats 4000000 in
set_option maxRecDepth 100000 in
theorem t_X9_looksAt_290 {l : Launch} {G : zG} {d : Nat} {P : zIM → zLM → Prop} {I : zIM} {L : zLM} {x1 : Int32} {x3 : Int32} {x4 : Int32} {s0 : Int32}   (h : ∃ (d1 : Nat) (P1 : Int32 → zIM → zLM → Prop), d1 + 1 ≤ d ∧ zCi l G d1 mX9_nextOf [.ref 44, .int x3, .int s0] I L P1 ∧ ∀ (y1 : Int32) (I1 : zIM) (L1 : zLM), P1 y1 I1 L1 → (K_X9_looksAt_298 l G d P I1 L1 x1 s0 y1 x4)) : K_X9_looksAt_290 l G d P I L x1 x3 x4 s0  := by
  refine z_istore_n (pc' := 291) (ls' := [some (.ref 44), some (.int x1), some (.int s0), some (.int x3), some (.int x4), none, none, none, none, none, none]) dX9_looksAt_290 rfl (by decide) rfl ?_
  refine z_aload_n (pc' := 292) (x := 44) dX9_looksAt_291 rfl rfl ?_
  refine z_iload_n (pc' := 293) (x := x3) dX9_looksAt_292 rfl rfl ?_
  refine z_iload_n (pc' := 294) (x := s0) dX9_looksAt_293 rfl rfl ?_
  obtain ⟨d1, P1, hd1, hC1, h⟩ := h
  refine z_callV (pc' := 297) (M' := mX9_nextOf) (As := [.int x3, .int s0]) dX9_looksAt_294 rfl ml_X9_204 me_X9_nextOf hC1 rfl (by decide) rfl rfl hd1 (Nat.le_of_ble_eq_true rfl) ⟨Nat.le_refl _, Nat.le_refl _⟩ rfl ?_
  rintro _ _ ⟨y1, I1, L1, rfl, rfl, hP1⟩
  replace h := h y1 I1 L1 hP1
  refine z_istore_n (pc' := 298) (ls' := [some (.ref 44), some (.int x1), some (.int s0), some (.int y1), some (.int x4), none, none, none, none, none, none]) dX9_looksAt_297 rfl (by decide) rfl ?_
  exact h
set_option maxHeartbeats 4000000 in
set_option maxRecDepth 100000 in
theorem t_X9_judge {l : Launch} {G : zG} {d : Nat} {P : Int32 → zIM → zLM → Prop} {I : zIM} {L : zLM} {x1 : Int32} {x2 : Int32}  (h : ∃ (d1 : Nat) (P1 : Int32 → zIM → zLM → Prop), d1 + 1 ≤ d ∧ zCi l G d1 mX9_isShelf [.int x1] I L P1 ∧ ∀ (y1 : Int32) (I1 : zIM) (L1 : zLM), P1 y1 I1 L1 → (((y1 = 0 → (P (-1 : Int32) I1 L1)) ∧ (¬ y1 = 0 → (∃ (d3 : Nat) (P3 : Int32 → zIM → zLM → Prop), d3 + 1 ≤ d ∧ zCi l G d3 mX9_within [.long (x2.toInt64), .long (0 : Int64), .long (1 : Int64)] I1 L1 P3 ∧ ∀ (y3 : Int32) (I3 : zIM) (L3 : zLM), P3 y3 I3 L3 → (((¬ y3 = 0 → (∃ j5 : Nat, x1 = nI j5 ∧ j5 < 6 ∧ (((0 ≤ (I3 65 j5) → ((((I3 65 j5) = (50 : Int32) → (∃ (d8 : Nat) (P8 : zIM → zLM → Prop), d8 + 1 ≤ d ∧ zCv l G d8 mX9_looksAt [.ref 44, .int x1] I3 L3 P8 ∧ ∀ (I8 : zIM) (L8 : zLM), P8 I8 L8 → (((¬ x2 = 0 → ((((I8 44 29) < 0 → (P (I8 44 30) I8 L8)) ∧ (¬ (I8 44 29) < 0 → (P (-2 : Int32) I8 L8))))) ∧ (x2 = 0 → (P (I8 44 29) I8 L8)))))) ∧ (¬ (I3 65 j5) = (50 : Int32) → (P (-12 : Int32) I3 L3))))) ∧ (¬ 0 ≤ (I3 65 j5) → (P (-11 : Int32) I3 L3)))))) ∧ (y3 = 0 → (P (-1 : Int32) I3 L3))))))))) : zCi l G d mX9_judge [.ref 44, .int x1, .int x2] I L P := by
  refine zCn.of (ls := [some (.ref 44), some (.int x1), some (.int x2)]) (by decide) (Nat.le_of_ble_eq_true rfl) rfl ?_
  refine z_iload_n (pc' := 1) (x := x1) dX9_judge_0 rfl rfl ?_
  obtain ⟨d1, P1, hd1, hC1, h⟩ := h
  refine z_callS (pc' := 4) (M' := mX9_isShelf) (As := [.int x1]) dX9_judge_1 rfl ml_X9_118 me_X9_isShelf hC1 rfl hd1 (Nat.le_of_ble_eq_true rfl) ⟨Nat.le_refl _, Nat.le_refl _⟩ rfl ?_
  rintro _ _ ⟨y1, I1, L1, rfl, rfl, hP1⟩
  replace h := h y1 I1 L1 hP1
  refine z_if_eq (pc' := 7) (tgt := 17) dX9_judge_4 rfl (by decide) (fun c2 => ?_) (fun c2 => ?_)
  · replace h := h.1 c2
    refine z_iconst (pc' := 18) (v := -1) dX9_judge_17 rfl (by decide) ?_
    exact z_iret dX9_judge_18 rfl rfl ⟨Nat.le_refl _, Nat.le_refl _⟩ ⟨_, _, _, rfl, rfl, h⟩
  · replace h := h.2 c2
    refine z_iload_n (pc' := 8) (x := x2) dX9_judge_7 rfl rfl ?_
    refine z_i2l (pc' := 9) dX9_judge_8 rfl ?_
    refine z_lconst (pc' := 10) (v := 0) dX9_judge_9 rfl (by decide) ?_
    refine z_lconst (pc' := 11) (v := 1) dX9_judge_10 rfl (by decide) ?_
    obtain ⟨d3, P3, hd3, hC3, h⟩ := h
    refine z_callS (pc' := 14) (M' := mX9_within) (As := [.long (x2.toInt64), .long (0 : Int64), .long (1 : Int64)]) dX9_judge_11 rfl ml_X9_99 me_X9_within hC3 rfl hd3 (Nat.le_of_ble_eq_true rfl) ⟨Nat.le_refl _, Nat.le_refl _⟩ rfl ?_
    rintro _ _ ⟨y3, I3, L3, rfl, rfl, hP3⟩
    replace h := h y3 I3 L3 hP3
    refine z_if_ne (pc' := 17) (tgt := 19) dX9_judge_14 rfl (by decide) (fun c4 => ?_) (fun c4 => ?_)
    · replace h := h.1 c4
      refine z_aload_n (pc' := 20) (x := 44) dX9_judge_19 rfl rfl ?_
      refine z_getr (pc' := 23) (x := 65) dX9_judge_20 rfl fl_X9_71 rfl rfl rfl ?_
      refine z_iload_n (pc' := 24) (x := x1) dX9_judge_23 rfl rfl ?_
      obtain ⟨j5, ha5, hb5, h⟩ := h
      refine z_iald (pc' := 25) (x := (I3 65 j5)) (j := j5) dX9_judge_24 rfl rfl (by decide) ha5 hb5 rfl ?_
      refine z_if_ge (pc' := 28) (tgt := 31) dX9_judge_25 rfl (by decide) (fun c6 => ?_) (fun c6 => ?_)
      · replace h := h.1 c6
        refine z_aload_n (pc' := 32) (x := 44) dX9_judge_31 rfl rfl ?_
        refine z_getr (pc' := 35) (x := 65) dX9_judge_32 rfl fl_X9_71 rfl rfl rfl ?_
        refine z_iload_n (pc' := 36) (x := x1) dX9_judge_35 rfl rfl ?_
        refine z_iald (pc' := 37) (x := (I3 65 j5)) (j := j5) dX9_judge_36 rfl rfl (by decide) ha5 hb5 rfl ?_
        refine z_bipush (pc' := 39) (v := 50) dX9_judge_37 rfl (by decide) ?_
        refine z_icmp_eq (pc' := 42) (tgt := 45) dX9_judge_39 rfl (by decide) (fun c7 => ?_) (fun c7 => ?_)
        · replace h := h.1 c7
          refine z_aload_n (pc' := 46) (x := 44) dX9_judge_45 rfl rfl ?_
          refine z_iload_n (pc' := 47) (x := x1) dX9_judge_46 rfl rfl ?_
          obtain ⟨d8, P8, hd8, hC8, h⟩ := h
          refine z_callV (pc' := 50) (M' := mX9_looksAt) (As := [.int x1]) dX9_judge_47 rfl ml_X9_302 me_X9_looksAt hC8 rfl (by decide) rfl rfl hd8 (Nat.le_of_ble_eq_true rfl) ⟨Nat.le_refl _, Nat.le_refl _⟩ rfl ?_
          rintro _ _ ⟨I8, L8, rfl, rfl, hP8⟩
          replace h := h I8 L8 hP8
          refine z_iload_n (pc' := 51) (x := x2) dX9_judge_50 rfl rfl ?_
          refine z_if_ne (pc' := 54) (tgt := 61) dX9_judge_51 rfl (by decide) (fun c9 => ?_) (fun c9 => ?_)
          · replace h := h.1 c9
            refine z_aload_n (pc' := 62) (x := 44) dX9_judge_61 rfl rfl ?_
            refine z_geti (pc' := 65) (x := (I8 44 29)) dX9_judge_62 rfl fl_X9_285 rfl rfl rfl ?_
            refine z_if_lt (pc' := 68) (tgt := 73) dX9_judge_65 rfl (by decide) (fun c10 => ?_) (fun c10 => ?_)
            · replace h := h.1 c10
              refine z_aload_n (pc' := 74) (x := 44) dX9_judge_73 rfl rfl ?_
              refine z_geti (pc' := 77) (x := (I8 44 30)) dX9_judge_74 rfl fl_X9_288 rfl rfl rfl ?_
              exact z_iret dX9_judge_77 rfl rfl ⟨Nat.le_refl _, Nat.le_refl _⟩ ⟨_, _, _, rfl, rfl, h⟩
            · replace h := h.2 c10
              refine z_bipush (pc' := 70) (v := -2) dX9_judge_68 rfl (by decide) ?_
              refine z_goto (pc' := 77) dX9_judge_70 (by decide) ?_
              exact z_iret dX9_judge_77 rfl rfl ⟨Nat.le_refl _, Nat.le_refl _⟩ ⟨_, _, _, rfl, rfl, h⟩
          · replace h := h.2 c9
            refine z_aload_n (pc' := 55) (x := 44) dX9_judge_54 rfl rfl ?_
            refine z_geti (pc' := 58) (x := (I8 44 29)) dX9_judge_55 rfl fl_X9_285 rfl rfl rfl ?_
            refine z_goto (pc' := 77) dX9_judge_58 (by decide) ?_
            exact z_iret dX9_judge_77 rfl rfl ⟨Nat.le_refl _, Nat.le_refl _⟩ ⟨_, _, _, rfl, rfl, h⟩
        · replace h := h.2 c7
          refine z_bipush (pc' := 44) (v := -12) dX9_judge_42 rfl (by decide) ?_
          exact z_iret dX9_judge_44 rfl rfl ⟨Nat.le_refl _, Nat.le_refl _⟩ ⟨_, _, _, rfl, rfl, h⟩
      · replace h := h.2 c6
        refine z_bipush (pc' := 30) (v := -11) dX9_judge_28 rfl (by decide) ?_
        exact z_iret dX9_judge_30 rfl rfl ⟨Nat.le_refl _, Nat.le_refl _⟩ ⟨_, _, _, rfl, rfl, h⟩
    · replace h := h.2 c4
      refine z_iconst (pc' := 18) (v := -1) dX9_judge_17 rfl (by decide) ?_
      exact z_iret dX9_judge_18 rfl rfl ⟨Nat.le_refl _, Nat.le_refl _⟩ ⟨_, _, _, rfl, rfl, h⟩
set_option maxHeartbeats 4000000 in
set_option maxRecDepth 100000 in
theorem t_X9_chance {l : Launch} {G : zG} {d : Nat} {P : Int64 → zIM → zLM → Prop} {I : zIM} {L : zLM} {x1 : Int32} {x2 : Int32}  (h : ∃ (d1 : Nat) (P1 : Int32 → zIM → zLM → Prop), d1 + 1 ≤ d ∧ zCi l G d1 mX9_isShelf [.int x1] I L P1 ∧ ∀ (y1 : Int32) (I1 : zIM) (L1 : zLM), P1 y1 I1 L1 → (((y1 = 0 → (P (-9223372036854775808 : Int64) I1 L1)) ∧ (¬ y1 = 0 → (∃ (d3 : Nat) (P3 : Int32 → zIM → zLM → Prop), d3 + 1 ≤ d ∧ zCi l G d3 mX9_within [.long (x2.toInt64), .long (0 : Int64), .long (1 : Int64)] I1 L1 P3 ∧ ∀ (y3 : Int32) (I3 : zIM) (L3 : zLM), P3 y3 I3 L3 → (((y3 = 0 → (P (-9223372036854775808 : Int64) I3 L3)) ∧ (¬ y3 = 0 → (∃ j5 : Nat, x1 = nI j5 ∧ j5 < 6 ∧ ((((I3 65 j5) = (50 : Int32) → (∃ (d7 : Nat) (P7 : zIM → zLM → Prop), d7 + 1 ≤ d ∧ zCv l G d7 mX9_looksAt [.ref 44, .int x1] I3 L3 P7 ∧ ∀ (I7 : zIM) (L7 : zLM), P7 I7 L7 → ((((I7 44 29) < 0 → (∃ (d9 : Nat) (P9 : Int64 → zIM → zLM → Prop), d9 + 1 ≤ d ∧ zCl l G d9 mX9_common [.long (L7 44 31), .long (L7 44 32)] I7 L7 P9 ∧ ∀ (y9 : Int64) (I9 : zIM) (L9 : zLM), P9 y9 I9 L9 → (((¬ x2 = 0 → ((¬ y9 = 0) ∧ (P ((L9 44 32) / y9) I9 L9))) ∧ (x2 = 0 → ((¬ y9 = 0) ∧ (P ((L9 44 31) / y9) I9 L9))))))) ∧ (¬ (I7 44 29) < 0 → (P (x2.toInt64) I7 L7)))))) ∧ (¬ (I3 65 j5) = (50 : Int32) → (P (-9223372036854775808 : Int64) I3 L3))))))))))))) : zCl l G d mX9_chance [.ref 44, .int x1, .int x2] I L P := by
  refine zCn.of (ls := [some (.ref 44), some (.int x1), some (.int x2), none, none]) (by decide) (Nat.le_of_ble_eq_true rfl) rfl ?_
  refine z_iload_n (pc' := 1) (x := x1) dX9_chance_0 rfl rfl ?_
  obtain ⟨d1, P1, hd1, hC1, h⟩ := h
  refine z_callS (pc' := 4) (M' := mX9_isShelf) (As := [.int x1]) dX9_chance_1 rfl ml_X9_118 me_X9_isShelf hC1 rfl hd1 (Nat.le_of_ble_eq_true rfl) ⟨Nat.le_refl _, Nat.le_refl _⟩ rfl ?_
  rintro _ _ ⟨y1, I1, L1, rfl, rfl, hP1⟩
  replace h := h y1 I1 L1 hP1
  refine z_if_eq (pc' := 7) (tgt := 28) dX9_chance_4 rfl (by decide) (fun c2 => ?_) (fun c2 => ?_)
  · replace h := h.1 c2
    refine z_ldc2 (pc' := 31) (v := -9223372036854775808) dX9_chance_28 rfl kl_X9_260 ?_
    exact z_lret dX9_chance_31 rfl ⟨Nat.le_refl _, Nat.le_refl _⟩ ⟨_, _, _, rfl, rfl, h⟩
  · replace h := h.2 c2
    refine z_iload_n (pc' := 8) (x := x2) dX9_chance_7 rfl rfl ?_
    refine z_i2l (pc' := 9) dX9_chance_8 rfl ?_
    refine z_lconst (pc' := 10) (v := 0) dX9_chance_9 rfl (by decide) ?_
    refine z_lconst (pc' := 11) (v := 1) dX9_chance_10 rfl (by decide) ?_
    obtain ⟨d3, P3, hd3, hC3, h⟩ := h
    refine z_callS (pc' := 14) (M' := mX9_within) (As := [.long (x2.toInt64), .long (0 : Int64), .long (1 : Int64)]) dX9_chance_11 rfl ml_X9_99 me_X9_within hC3 rfl hd3 (Nat.le_of_ble_eq_true rfl) ⟨Nat.le_refl _, Nat.le_refl _⟩ rfl ?_
    rintro _ _ ⟨y3, I3, L3, rfl, rfl, hP3⟩
    replace h := h y3 I3 L3 hP3
    refine z_if_eq (pc' := 17) (tgt := 28) dX9_chance_14 rfl (by decide) (fun c4 => ?_) (fun c4 => ?_)
    · replace h := h.1 c4
      refine z_ldc2 (pc' := 31) (v := -9223372036854775808) dX9_chance_28 rfl kl_X9_260 ?_
      exact z_lret dX9_chance_31 rfl ⟨Nat.le_refl _, Nat.le_refl _⟩ ⟨_, _, _, rfl, rfl, h⟩
    · replace h := h.2 c4
      refine z_aload_n (pc' := 18) (x := 44) dX9_chance_17 rfl rfl ?_
      refine z_getr (pc' := 21) (x := 65) dX9_chance_18 rfl fl_X9_71 rfl rfl rfl ?_
      refine z_iload_n (pc' := 22) (x := x1) dX9_chance_21 rfl rfl ?_
      obtain ⟨j5, ha5, hb5, h⟩ := h
      refine z_iald (pc' := 23) (x := (I3 65 j5)) (j := j5) dX9_chance_22 rfl rfl (by decide) ha5 hb5 rfl ?_
      refine z_bipush (pc' := 25) (v := 50) dX9_chance_23 rfl (by decide) ?_
      refine z_icmp_eq (pc' := 28) (tgt := 32) dX9_chance_25 rfl (by decide) (fun c6 => ?_) (fun c6 => ?_)
      · replace h := h.1 c6
        refine z_aload_n (pc' := 33) (x := 44) dX9_chance_32 rfl rfl ?_
        refine z_iload_n (pc' := 34) (x := x1) dX9_chance_33 rfl rfl ?_
        obtain ⟨d7, P7, hd7, hC7, h⟩ := h
        refine z_callV (pc' := 37) (M' := mX9_looksAt) (As := [.int x1]) dX9_chance_34 rfl ml_X9_302 me_X9_looksAt hC7 rfl (by decide) rfl rfl hd7 (Nat.le_of_ble_eq_true rfl) ⟨Nat.le_refl _, Nat.le_refl _⟩ rfl ?_
        rintro _ _ ⟨I7, L7, rfl, rfl, hP7⟩
        replace h := h I7 L7 hP7
        refine z_aload_n (pc' := 38) (x := 44) dX9_chance_37 rfl rfl ?_
        refine z_geti (pc' := 41) (x := (I7 44 29)) dX9_chance_38 rfl fl_X9_285 rfl rfl rfl ?_
        refine z_if_lt (pc' := 44) (tgt := 47) dX9_chance_41 rfl (by decide) (fun c8 => ?_) (fun c8 => ?_)
        · replace h := h.1 c8
          refine z_aload_n (pc' := 48) (x := 44) dX9_chance_47 rfl rfl ?_
          refine z_getl (pc' := 51) (x := (L7 44 31)) dX9_chance_48 rfl fl_X9_291 rfl rfl rfl ?_
          refine z_aload_n (pc' := 52) (x := 44) dX9_chance_51 rfl rfl ?_
          refine z_getl (pc' := 55) (x := (L7 44 32)) dX9_chance_52 rfl fl_X9_295 rfl rfl rfl ?_
          obtain ⟨d9, P9, hd9, hC9, h⟩ := h
          refine z_callS (pc' := 58) (M' := mX9_common) (As := [.long (L7 44 31), .long (L7 44 32)]) dX9_chance_55 rfl ml_X9_252 me_X9_common hC9 rfl hd9 (Nat.le_of_ble_eq_true rfl) ⟨Nat.le_refl _, Nat.le_refl _⟩ rfl ?_
          rintro _ _ ⟨y9, I9, L9, rfl, rfl, hP9⟩
          replace h := h y9 I9 L9 hP9
          refine z_lstore_n (pc' := 59) (ls' := [some (.ref 44), some (.int x1), some (.int x2), some (.long y9), none]) dX9_chance_58 rfl (by decide) rfl ?_
          refine z_iload_n (pc' := 60) (x := x2) dX9_chance_59 rfl rfl ?_
          refine z_if_ne (pc' := 63) (tgt := 72) dX9_chance_60 rfl (by decide) (fun c10 => ?_) (fun c10 => ?_)
          · replace h := h.1 c10
            refine z_aload_n (pc' := 73) (x := 44) dX9_chance_72 rfl rfl ?_
            refine z_getl (pc' := 76) (x := (L9 44 32)) dX9_chance_73 rfl fl_X9_295 rfl rfl rfl ?_
            refine z_lload_n (pc' := 77) (x := y9) dX9_chance_76 rfl rfl ?_
            obtain ⟨hz11, h⟩ := h
            refine z_ldiv (pc' := 78) dX9_chance_77 rfl hz11 ?_
            exact z_lret dX9_chance_78 rfl ⟨Nat.le_refl _, Nat.le_refl _⟩ ⟨_, _, _, rfl, rfl, h⟩
          · replace h := h.2 c10
            refine z_aload_n (pc' := 64) (x := 44) dX9_chance_63 rfl rfl ?_
            refine z_getl (pc' := 67) (x := (L9 44 31)) dX9_chance_64 rfl fl_X9_291 rfl rfl rfl ?_
            refine z_lload_n (pc' := 68) (x := y9) dX9_chance_67 rfl rfl ?_
            obtain ⟨hz12, h⟩ := h
            refine z_ldiv (pc' := 69) dX9_chance_68 rfl hz12 ?_
            refine z_goto (pc' := 78) dX9_chance_69 (by decide) ?_
            exact z_lret dX9_chance_78 rfl ⟨Nat.le_refl _, Nat.le_refl _⟩ ⟨_, _, _, rfl, rfl, h⟩
        · replace h := h.2 c8
          refine z_iload_n (pc' := 45) (x := x2) dX9_chance_44 rfl rfl ?_
          refine z_i2l (pc' := 46) dX9_chance_45 rfl ?_
          exact z_lret dX9_chance_46 rfl ⟨Nat.le_refl _, Nat.le_refl _⟩ ⟨_, _, _, rfl, rfl, h⟩
      · replace h := h.2 c6
        refine z_ldc2 (pc' := 31) (v := -9223372036854775808) dX9_chance_28 rfl kl_X9_260 ?_
        exact z_lret dX9_chance_31 rfl ⟨Nat.le_refl _, Nat.le_refl _⟩ ⟨_, _, _, rfl, rfl, h⟩
set_option maxHeartbeats 4000000 in
set_option maxRecDepth 100000 in
theorem t_X9_seen {l : Launch} {G : zG} {d : Nat} {P : Int32 → zIM → zLM → Prop} {I : zIM} {L : zLM} {x1 : Int32} {x2 : Int32}  (h : ∃ (d1 : Nat) (P1 : Int32 → zIM → zLM → Prop), d1 + 1 ≤ d ∧ zCi l G d1 mX9_within [.long (x2.toInt64), .long (0 : Int64), .long (12 : Int64)] I L P1 ∧ ∀ (y1 : Int32) (I1 : zIM) (L1 : zLM), P1 y1 I1 L1 → (((y1 = 0 → (P (-1 : Int32) I1 L1)) ∧ (¬ y1 = 0 → (∃ (d3 : Nat) (P3 : Int32 → zIM → zLM → Prop), d3 + 1 ≤ d ∧ zCi l G d3 mX9_within [.long (x1.toInt64), .long (0 : Int64), .long (x2.toInt64)] I1 L1 P3 ∧ ∀ (y3 : Int32) (I3 : zIM) (L3 : zLM), P3 y3 I3 L3 → (((¬ y3 = 0 → (K_X9_seen_35 l G d P I3 L3 x1 x2 (0 : Int32) (-1 : Int64) (0 : Int32))) ∧ (y3 = 0 → (P (-1 : Int32) I3 L3))))))))) : zCi l G d mX9_seen [.ref 44, .int x1, .int x2] I L P := by
  refine zCn.of (ls := [some (.ref 44), some (.int x1), some (.int x2), none, none, none, none, none, none, none]) (by decide) (Nat.le_of_ble_eq_true rfl) rfl ?_
  refine z_iload_n (pc' := 1) (x := x2) dX9_seen_0 rfl rfl ?_
  refine z_i2l (pc' := 2) dX9_seen_1 rfl ?_
  refine z_lconst (pc' := 3) (v := 0) dX9_seen_2 rfl (by decide) ?_
  refine z_ldc2 (pc' := 6) (v := 12) dX9_seen_3 rfl kl_X9_103 ?_
  obtain ⟨d1, P1, hd1, hC1, h⟩ := h
  refine z_callS (pc' := 9) (M' := mX9_within) (As := [.long (x2.toInt64), .long (0 : Int64), .long (12 : Int64)]) dX9_seen_6 rfl ml_X9_99 me_X9_within hC1 rfl hd1 (Nat.le_of_ble_eq_true rfl) ⟨Nat.le_refl _, Nat.le_refl _⟩ rfl ?_
  rintro _ _ ⟨y1, I1, L1, rfl, rfl, hP1⟩
  replace h := h y1 I1 L1 hP1
  refine z_if_eq (pc' := 12) (tgt := 23) dX9_seen_9 rfl (by decide) (fun c2 => ?_) (fun c2 => ?_)
  · replace h := h.1 c2
    refine z_iconst (pc' := 24) (v := -1) dX9_seen_23 rfl (by decide) ?_
    exact z_iret dX9_seen_24 rfl rfl ⟨Nat.le_refl _, Nat.le_refl _⟩ ⟨_, _, _, rfl, rfl, h⟩
  · replace h := h.2 c2
    refine z_iload_n (pc' := 13) (x := x1) dX9_seen_12 rfl rfl ?_
    refine z_i2l (pc' := 14) dX9_seen_13 rfl ?_
    refine z_lconst (pc' := 15) (v := 0) dX9_seen_14 rfl (by decide) ?_
    refine z_iload_n (pc' := 16) (x := x2) dX9_seen_15 rfl rfl ?_
    refine z_i2l (pc' := 17) dX9_seen_16 rfl ?_
    obtain ⟨d3, P3, hd3, hC3, h⟩ := h
    refine z_callS (pc' := 20) (M' := mX9_within) (As := [.long (x1.toInt64), .long (0 : Int64), .long (x2.toInt64)]) dX9_seen_17 rfl ml_X9_99 me_X9_within hC3 rfl hd3 (Nat.le_of_ble_eq_true rfl) ⟨Nat.le_refl _, Nat.le_refl _⟩ rfl ?_
    rintro _ _ ⟨y3, I3, L3, rfl, rfl, hP3⟩
    replace h := h y3 I3 L3 hP3
    refine z_if_ne (pc' := 23) (tgt := 25) dX9_seen_20 rfl (by decide) (fun c4 => ?_) (fun c4 => ?_)
    · replace h := h.1 c4
      refine z_iconst (pc' := 26) (v := 0) dX9_seen_25 rfl (by decide) ?_
      refine z_istore_n (pc' := 27) (ls' := [some (.ref 44), some (.int x1), some (.int x2), some (.int (0 : Int32)), none, none, none, none, none, none]) dX9_seen_26 rfl (by decide) rfl ?_
      refine z_ldc2 (pc' := 30) (v := -1) dX9_seen_27 rfl kl_X9_274 ?_
      refine z_lstore (pc' := 32) (ls' := [some (.ref 44), some (.int x1), some (.int x2), some (.int (0 : Int32)), some (.long (-1 : Int64)), none, none, none, none, none]) dX9_seen_30 rfl (by decide) rfl ?_
      refine z_iconst (pc' := 33) (v := 0) dX9_seen_32 rfl (by decide) ?_
      refine z_istore (pc' := 35) (ls' := [some (.ref 44), some (.int x1), some (.int x2), some (.int (0 : Int32)), some (.long (-1 : Int64)), none, some (.int (0 : Int32)), none, none, none]) dX9_seen_33 rfl (by decide) rfl ?_
      refine z_sub (pc' := 0) [none, some (.int x1), some (.int x2), some (.int (0 : Int32)), some (.long (-1 : Int64)), none, some (.int (0 : Int32)), none, none, none] (zsub_n (zsub_s (zsub_s (zsub_s (zsub_s (zsub_n (zsub_s (zsub_n (zsub_n (zsub_n zsub_nil)))))))))) ?_
      exact h
    · replace h := h.2 c4
      refine z_iconst (pc' := 24) (v := -1) dX9_seen_23 rfl (by decide) ?_
      exact z_iret dX9_seen_24 rfl rfl ⟨Nat.le_refl _, Nat.le_refl _⟩ ⟨_, _, _, rfl, rfl, h⟩
set_option maxHeartbeats 4000000 in
set_option maxRecDepth 100000 in
theorem t_X9_seen_35 {l : Launch} {G : zG} {d : Nat} {P : Int32 → zIM → zLM → Prop} {I : zIM} {L : zLM} {x1 : Int32} {x2 : Int32} {x3 : Int32} {x4 : Int64} {x6 : Int32}   (h : (((12 : Int32) < x6 → (P x3 I L)) ∧ (¬ (12 : Int32) < x6 → (K_X9_seen_48 l G d P I L x1 x2 x3 x4 x6 (1 : Int64) (0 : Int32))))) : K_X9_seen_35 l G d P I L x1 x2 x3 x4 x6  := by
  refine z_iload (pc' := 37) (x := x6) dX9_seen_35 rfl rfl ?_
  refine z_bipush (pc' := 39) (v := 12) dX9_seen_37 rfl (by decide) ?_
  refine z_icmp_gt (pc' := 42) (tgt := 121) dX9_seen_39 rfl (by decide) (fun c1 => ?_) (fun c1 => ?_)
  · replace h := h.1 c1
    refine z_iload_n (pc' := 122) (x := x3) dX9_seen_121 rfl rfl ?_
    exact z_iret dX9_seen_122 rfl rfl ⟨Nat.le_refl _, Nat.le_refl _⟩ ⟨_, _, _, rfl, rfl, h⟩
  · replace h := h.2 c1
    refine z_lconst (pc' := 43) (v := 1) dX9_seen_42 rfl (by decide) ?_
    refine z_lstore (pc' := 45) (ls' := [none, some (.int x1), some (.int x2), some (.int x3), some (.long x4), none, some (.int x6), some (.long (1 : Int64)), none, none]) dX9_seen_43 rfl (by decide) rfl ?_
    refine z_iconst (pc' := 46) (v := 0) dX9_seen_45 rfl (by decide) ?_
    refine z_istore (pc' := 48) (ls' := [none, some (.int x1), some (.int x2), some (.int x3), some (.long x4), none, some (.int x6), some (.long (1 : Int64)), none, some (.int (0 : Int32))]) dX9_seen_46 rfl (by decide) rfl ?_
    exact h
set_option maxHeartbeats 4000000 in
set_option maxRecDepth 100000 in
theorem t_X9_seen_48 {l : Launch} {G : zG} {d : Nat} {P : Int32 → zIM → zLM → Prop} {I : zIM} {L : zLM} {x1 : Int32} {x2 : Int32} {x3 : Int32} {x4 : Int64} {x6 : Int32} {x7 : Int64} {x9 : Int32}   (h : ((x2 ≤ x9 → (((x7 ≤ x4 → (((x7 ≤ x4 → (K_X9_seen_35 l G d P I L x1 x2 x3 x4 (x6 + (1 : Int32)))) ∧ (¬ x7 ≤ x4 → (K_X9_seen_35 l G d P I L x1 x2 x3 x7 (x6 + (1 : Int32))))))) ∧ (¬ x7 ≤ x4 → (((x7 ≤ x4 → (K_X9_seen_35 l G d P I L x1 x2 x6 x4 (x6 + (1 : Int32)))) ∧ (¬ x7 ≤ x4 → (K_X9_seen_35 l G d P I L x1 x2 x6 x7 (x6 + (1 : Int32)))))))))) ∧ (¬ x2 ≤ x9 → (((x1 ≤ x9 → (K_X9_seen_48 l G d P I L x1 x2 x3 x4 x6 (x7 * (((12 : Int32) - x6).toInt64)) (x9 + (1 : Int32)))) ∧ (¬ x1 ≤ x9 → (K_X9_seen_48 l G d P I L x1 x2 x3 x4 x6 (x7 * (x6.toInt64)) (x9 + (1 : Int32))))))))) : K_X9_seen_48 l G d P I L x1 x2 x3 x4 x6 x7 x9  := by
  refine z_iload (pc' := 50) (x := x9) dX9_seen_48 rfl rfl ?_
  refine z_iload_n (pc' := 51) (x := x2) dX9_seen_50 rfl rfl ?_
  refine z_icmp_ge (pc' := 54) (tgt := 83) dX9_seen_51 rfl (by decide) (fun c1 => ?_) (fun c1 => ?_)
  · replace h := h.1 c1
    refine z_lload (pc' := 85) (x := x7) dX9_seen_83 rfl rfl ?_
    refine z_lload (pc' := 87) (x := x4) dX9_seen_85 rfl rfl ?_
    refine z_lc_le (pc' := 91) (tgt := 96) dX9_seen_87 dX9_seen_88 rfl (by decide) (fun c2 => ?_) (fun c2 => ?_)
    · replace h := h.1 c2
      refine z_iload_n (pc' := 97) (x := x3) dX9_seen_96 rfl rfl ?_
      refine z_istore_n (pc' := 98) (ls' := [none, some (.int x1), some (.int x2), some (.int x3), some (.long x4), none, some (.int x6), some (.long x7), none, some (.int x9)]) dX9_seen_97 rfl (by decide) rfl ?_
      refine z_lload (pc' := 100) (x := x7) dX9_seen_98 rfl rfl ?_
      refine z_lload (pc' := 102) (x := x4) dX9_seen_100 rfl rfl ?_
      refine z_lc_le (pc' := 106) (tgt := 111) dX9_seen_102 dX9_seen_103 rfl (by decide) (fun c3 => ?_) (fun c3 => ?_)
      · replace h := h.1 c3
        refine z_lload (pc' := 113) (x := x4) dX9_seen_111 rfl rfl ?_
        refine z_lstore (pc' := 115) (ls' := [none, some (.int x1), some (.int x2), some (.int x3), some (.long x4), none, some (.int x6), some (.long x7), none, some (.int x9)]) dX9_seen_113 rfl (by decide) rfl ?_
        refine z_iinc (pc' := 118) (x := x6) (v := (x6 + (1 : Int32))) (ls' := [none, some (.int x1), some (.int x2), some (.int x3), some (.long x4), none, some (.int (x6 + (1 : Int32))), some (.long x7), none, some (.int x9)]) dX9_seen_115 rfl rfl (by rfl) (by decide) rfl ?_
        refine z_goto (pc' := 35) dX9_seen_118 (by decide) ?_
        refine z_sub (pc' := 0) [none, some (.int x1), some (.int x2), some (.int x3), some (.long x4), none, some (.int (x6 + (1 : Int32))), none, none, none] (zsub_n (zsub_s (zsub_s (zsub_s (zsub_s (zsub_n (zsub_s (zsub_n (zsub_n (zsub_n zsub_nil)))))))))) ?_
        exact h
      · replace h := h.2 c3
        refine z_lload (pc' := 108) (x := x7) dX9_seen_106 rfl rfl ?_
        refine z_goto (pc' := 113) dX9_seen_108 (by decide) ?_
        refine z_lstore (pc' := 115) (ls' := [none, some (.int x1), some (.int x2), some (.int x3), some (.long x7), none, some (.int x6), some (.long x7), none, some (.int x9)]) dX9_seen_113 rfl (by decide) rfl ?_
        refine z_iinc (pc' := 118) (x := x6) (v := (x6 + (1 : Int32))) (ls' := [none, some (.int x1), some (.int x2), some (.int x3), some (.long x7), none, some (.int (x6 + (1 : Int32))), some (.long x7), none, some (.int x9)]) dX9_seen_115 rfl rfl (by rfl) (by decide) rfl ?_
        refine z_goto (pc' := 35) dX9_seen_118 (by decide) ?_
        refine z_sub (pc' := 0) [none, some (.int x1), some (.int x2), some (.int x3), some (.long x7), none, some (.int (x6 + (1 : Int32))), none, none, none] (zsub_n (zsub_s (zsub_s (zsub_s (zsub_s (zsub_n (zsub_s (zsub_n (zsub_n (zsub_n zsub_nil)))))))))) ?_
        exact h
    · replace h := h.2 c2
      refine z_iload (pc' := 93) (x := x6) dX9_seen_91 rfl rfl ?_
      refine z_goto (pc' := 97) dX9_seen_93 (by decide) ?_
      refine z_istore_n (pc' := 98) (ls' := [none, some (.int x1), some (.int x2), some (.int x6), some (.long x4), none, some (.int x6), some (.long x7), none, some (.int x9)]) dX9_seen_97 rfl (by decide) rfl ?_
      refine z_lload (pc' := 100) (x := x7) dX9_seen_98 rfl rfl ?_
      refine z_lload (pc' := 102) (x := x4) dX9_seen_100 rfl rfl ?_
      refine z_lc_le (pc' := 106) (tgt := 111) dX9_seen_102 dX9_seen_103 rfl (by decide) (fun c4 => ?_) (fun c4 => ?_)
      · replace h := h.1 c4
        refine z_lload (pc' := 113) (x := x4) dX9_seen_111 rfl rfl ?_
        refine z_lstore (pc' := 115) (ls' := [none, some (.int x1), some (.int x2), some (.int x6), some (.long x4), none, some (.int x6), some (.long x7), none, some (.int x9)]) dX9_seen_113 rfl (by decide) rfl ?_
        refine z_iinc (pc' := 118) (x := x6) (v := (x6 + (1 : Int32))) (ls' := [none, some (.int x1), some (.int x2), some (.int x6), some (.long x4), none, some (.int (x6 + (1 : Int32))), some (.long x7), none, some (.int x9)]) dX9_seen_115 rfl rfl (by rfl) (by decide) rfl ?_
        refine z_goto (pc' := 35) dX9_seen_118 (by decide) ?_
        refine z_sub (pc' := 0) [none, some (.int x1), some (.int x2), some (.int x6), some (.long x4), none, some (.int (x6 + (1 : Int32))), none, none, none] (zsub_n (zsub_s (zsub_s (zsub_s (zsub_s (zsub_n (zsub_s (zsub_n (zsub_n (zsub_n zsub_nil)))))))))) ?_
        exact h
      · replace h := h.2 c4
        refine z_lload (pc' := 108) (x := x7) dX9_seen_106 rfl rfl ?_
        refine z_goto (pc' := 113) dX9_seen_108 (by decide) ?_
        refine z_lstore (pc' := 115) (ls' := [none, some (.int x1), some (.int x2), some (.int x6), some (.long x7), none, some (.int x6), some (.long x7), none, some (.int x9)]) dX9_seen_113 rfl (by decide) rfl ?_
        refine z_iinc (pc' := 118) (x := x6) (v := (x6 + (1 : Int32))) (ls' := [none, some (.int x1), some (.int x2), some (.int x6), some (.long x7), none, some (.int (x6 + (1 : Int32))), some (.long x7), none, some (.int x9)]) dX9_seen_115 rfl rfl (by rfl) (by decide) rfl ?_
        refine z_goto (pc' := 35) dX9_seen_118 (by decide) ?_
        refine z_sub (pc' := 0) [none, some (.int x1), some (.int x2), some (.int x6), some (.long x7), none, some (.int (x6 + (1 : Int32))), none, none, none] (zsub_n (zsub_s (zsub_s (zsub_s (zsub_s (zsub_n (zsub_s (zsub_n (zsub_n (zsub_n zsub_nil)))))))))) ?_
        exact h
  · replace h := h.2 c1
    refine z_lload (pc' := 56) (x := x7) dX9_seen_54 rfl rfl ?_
    refine z_iload (pc' := 58) (x := x9) dX9_seen_56 rfl rfl ?_
    refine z_iload_n (pc' := 59) (x := x1) dX9_seen_58 rfl rfl ?_
    refine z_icmp_ge (pc' := 62) (tgt := 68) dX9_seen_59 rfl (by decide) (fun c5 => ?_) (fun c5 => ?_)
    · replace h := h.1 c5
      refine z_bipush (pc' := 70) (v := 12) dX9_seen_68 rfl (by decide) ?_
      refine z_iload (pc' := 72) (x := x6) dX9_seen_70 rfl rfl ?_
      refine z_isub (pc' := 73) dX9_seen_72 rfl ?_
      refine z_i2l (pc' := 74) dX9_seen_73 rfl ?_
      refine z_lmul (pc' := 75) dX9_seen_74 rfl ?_
      refine z_lstore (pc' := 77) (ls' := [none, some (.int x1), some (.int x2), some (.int x3), some (.long x4), none, some (.int x6), some (.long (x7 * (((12 : Int32) - x6).toInt64))), none, some (.int x9)]) dX9_seen_75 rfl (by decide) rfl ?_
      refine z_iinc (pc' := 80) (x := x9) (v := (x9 + (1 : Int32))) (ls' := [none, some (.int x1), some (.int x2), some (.int x3), some (.long x4), none, some (.int x6), some (.long (x7 * (((12 : Int32) - x6).toInt64))), none, some (.int (x9 + (1 : Int32)))]) dX9_seen_77 rfl rfl (by rfl) (by decide) rfl ?_
      refine z_goto (pc' := 48) dX9_seen_80 (by decide) ?_
      exact h
    · replace h := h.2 c5
      refine z_iload (pc' := 64) (x := x6) dX9_seen_62 rfl rfl ?_
      refine z_i2l (pc' := 65) dX9_seen_64 rfl ?_
      refine z_goto (pc' := 74) dX9_seen_65 (by decide) ?_
      refine z_lmul (pc' := 75) dX9_seen_74 rfl ?_
      refine z_lstore (pc' := 77) (ls' := [none, some (.int x1), some (.int x2), some (.int x3), some (.long x4), none, some (.int x6), some (.long (x7 * (x6.toInt64))), none, some (.int x9)]) dX9_seen_75 rfl (by decide) rfl ?_
      refine z_iinc (pc' := 80) (x := x9) (v := (x9 + (1 : Int32))) (ls' := [none, some (.int x1), some (.int x2), some (.int x3), some (.long x4), none, some (.int x6), some (.long (x7 * (x6.toInt64))), none, some (.int (x9 + (1 : Int32)))]) dX9_seen_77 rfl rfl (by rfl) (by decide) rfl ?_
      refine z_goto (pc' := 48) dX9_seen_80 (by decide) ?_
      exact h
set_option maxHeartbeats 4000000 in
set_option maxRecDepth 100000 in
theorem t_X9_drawn {l : Launch} {G : zG} {d : Nat} {P : Int32 → zIM → zLM → Prop} {I : zIM} {L : zLM} {x1 : Int32} {x2 : Int32} {x3 : Int32}  (h : ∃ (d1 : Nat) (P1 : Int32 → zIM → zLM → Prop), d1 + 1 ≤ d ∧ zCi l G d1 mX9_within [.long (x2.toInt64), .long (1 : Int64), .long (30 : Int64)] I L P1 ∧ ∀ (y1 : Int32) (I1 : zIM) (L1 : zLM), P1 y1 I1 L1 → (((y1 = 0 → (P (-1 : Int32) I1 L1)) ∧ (¬ y1 = 0 → (∃ (d3 : Nat) (P3 : Int32 → zIM → zLM → Prop), d3 + 1 ≤ d ∧ zCi l G d3 mX9_isPlayer [.ref 44, .int x3] I1 L1 P3 ∧ ∀ (y3 : Int32) (I3 : zIM) (L3 : zLM), P3 y3 I3 L3 → (((¬ y3 = 0 → (∃ (d5 : Nat) (P5 : zIM → zLM → Prop), d5 + 1 ≤ d ∧ zCv l G d5 mX9_solves [.ref 44] I3 L3 P5 ∧ ∀ (I5 : zIM) (L5 : zLM), P5 I5 L5 → (K_X9_drawn_35 l G d P I5 L5 x2 x3 x1 (0 : Int32) (0 : Int32)))) ∧ (y3 = 0 → (P (-1 : Int32) I3 L3))))))))) : zCi l G d mX9_drawn [.ref 44, .int x1, .int x2, .int x3] I L P := by
  refine zCn.of (ls := [some (.ref 44), some (.int x1), some (.int x2), some (.int x3), none, none, none, none, none, none, none]) (by decide) (Nat.le_of_ble_eq_true rfl) rfl ?_
  refine z_iload_n (pc' := 1) (x := x2) dX9_drawn_0 rfl rfl ?_
  refine z_i2l (pc' := 2) dX9_drawn_1 rfl ?_
  refine z_lconst (pc' := 3) (v := 1) dX9_drawn_2 rfl (by decide) ?_
  refine z_ldc2 (pc' := 6) (v := 30) dX9_drawn_3 rfl kl_X9_306 ?_
  obtain ⟨d1, P1, hd1, hC1, h⟩ := h
  refine z_callS (pc' := 9) (M' := mX9_within) (As := [.long (x2.toInt64), .long (1 : Int64), .long (30 : Int64)]) dX9_drawn_6 rfl ml_X9_99 me_X9_within hC1 rfl hd1 (Nat.le_of_ble_eq_true rfl) ⟨Nat.le_refl _, Nat.le_refl _⟩ rfl ?_
  rintro _ _ ⟨y1, I1, L1, rfl, rfl, hP1⟩
  replace h := h y1 I1 L1 hP1
  refine z_if_eq (pc' := 12) (tgt := 20) dX9_drawn_9 rfl (by decide) (fun c2 => ?_) (fun c2 => ?_)
  · replace h := h.1 c2
    refine z_iconst (pc' := 21) (v := -1) dX9_drawn_20 rfl (by decide) ?_
    exact z_iret dX9_drawn_21 rfl rfl ⟨Nat.le_refl _, Nat.le_refl _⟩ ⟨_, _, _, rfl, rfl, h⟩
  · replace h := h.2 c2
    refine z_aload_n (pc' := 13) (x := 44) dX9_drawn_12 rfl rfl ?_
    refine z_iload_n (pc' := 14) (x := x3) dX9_drawn_13 rfl rfl ?_
    obtain ⟨d3, P3, hd3, hC3, h⟩ := h
    refine z_callV (pc' := 17) (M' := mX9_isPlayer) (As := [.int x3]) dX9_drawn_14 rfl ml_X9_124 me_X9_isPlayer hC3 rfl (by decide) rfl rfl hd3 (Nat.le_of_ble_eq_true rfl) ⟨Nat.le_refl _, Nat.le_refl _⟩ rfl ?_
    rintro _ _ ⟨y3, I3, L3, rfl, rfl, hP3⟩
    replace h := h y3 I3 L3 hP3
    refine z_if_ne (pc' := 20) (tgt := 22) dX9_drawn_17 rfl (by decide) (fun c4 => ?_) (fun c4 => ?_)
    · replace h := h.1 c4
      refine z_aload_n (pc' := 23) (x := 44) dX9_drawn_22 rfl rfl ?_
      obtain ⟨d5, P5, hd5, hC5, h⟩ := h
      refine z_callV (pc' := 26) (M' := mX9_solves) (As := []) dX9_drawn_23 rfl ml_X9_241 me_X9_solves hC5 rfl (by decide) rfl rfl hd5 (Nat.le_of_ble_eq_true rfl) ⟨Nat.le_refl _, Nat.le_refl _⟩ rfl ?_
      rintro _ _ ⟨I5, L5, rfl, rfl, hP5⟩
      replace h := h I5 L5 hP5
      refine z_iload_n (pc' := 27) (x := x1) dX9_drawn_26 rfl rfl ?_
      refine z_istore (pc' := 29) (ls' := [some (.ref 44), some (.int x1), some (.int x2), some (.int x3), some (.int x1), none, none, none, none, none, none]) dX9_drawn_27 rfl (by decide) rfl ?_
      refine z_iconst (pc' := 30) (v := 0) dX9_drawn_29 rfl (by decide) ?_
      refine z_istore (pc' := 32) (ls' := [some (.ref 44), some (.int x1), some (.int x2), some (.int x3), some (.int x1), some (.int (0 : Int32)), none, none, none, none, none]) dX9_drawn_30 rfl (by decide) rfl ?_
      refine z_iconst (pc' := 33) (v := 0) dX9_drawn_32 rfl (by decide) ?_
      refine z_istore (pc' := 35) (ls' := [some (.ref 44), some (.int x1), some (.int x2), some (.int x3), some (.int x1), some (.int (0 : Int32)), some (.int (0 : Int32)), none, none, none, none]) dX9_drawn_33 rfl (by decide) rfl ?_
      refine z_sub (pc' := 0) [some (.ref 44), none, some (.int x2), some (.int x3), some (.int x1), some (.int (0 : Int32)), some (.int (0 : Int32)), none, none, none, none] (zsub_s (zsub_n (zsub_s (zsub_s (zsub_s (zsub_s (zsub_s (zsub_n (zsub_n (zsub_n (zsub_n zsub_nil))))))))))) ?_
      exact h
    · replace h := h.2 c4
      refine z_iconst (pc' := 21) (v := -1) dX9_drawn_20 rfl (by decide) ?_
      exact z_iret dX9_drawn_21 rfl rfl ⟨Nat.le_refl _, Nat.le_refl _⟩ ⟨_, _, _, rfl, rfl, h⟩
set_option maxHeartbeats 4000000 in
set_option maxRecDepth 100000 in
theorem t_X9_drawn_35 {l : Launch} {G : zG} {d : Nat} {P : Int32 → zIM → zLM → Prop} {I : zIM} {L : zLM} {x2 : Int32} {x3 : Int32} {x4 : Int32} {x5 : Int32} {x6 : Int32}   (h : ((x2 ≤ x6 → (P x5 I L)) ∧ (¬ x2 ≤ x6 → (∃ (d2 : Nat) (P2 : Int32 → zIM → zLM → Prop), d2 + 1 ≤ d ∧ zCi l G d2 mX9_all [.ref 44] I L P2 ∧ ∀ (y2 : Int32) (I2 : zIM) (L2 : zLM), P2 y2 I2 L2 → (K_X9_drawn_58 l G d P I2 L2 x2 x3 x4 x5 x6 y2 (I2 49 0) (0 : Int32)))))) : K_X9_drawn_35 l G d P I L x2 x3 x4 x5 x6  := by
  refine z_iload (pc' := 37) (x := x6) dX9_drawn_35 rfl rfl ?_
  refine z_iload_n (pc' := 38) (x := x2) dX9_drawn_37 rfl rfl ?_
  refine z_icmp_ge (pc' := 41) (tgt := 184) dX9_drawn_38 rfl (by decide) (fun c1 => ?_) (fun c1 => ?_)
  · replace h := h.1 c1
    refine z_iload (pc' := 186) (x := x5) dX9_drawn_184 rfl rfl ?_
    exact z_iret dX9_drawn_186 rfl rfl ⟨Nat.le_refl _, Nat.le_refl _⟩ ⟨_, _, _, rfl, rfl, h⟩
  · replace h := h.2 c1
    refine z_aload_n (pc' := 42) (x := 44) dX9_drawn_41 rfl rfl ?_
    obtain ⟨d2, P2, hd2, hC2, h⟩ := h
    refine z_callV (pc' := 45) (M' := mX9_all) (As := []) dX9_drawn_42 rfl ml_X9_225 me_X9_all hC2 rfl (by decide) rfl rfl hd2 (Nat.le_of_ble_eq_true rfl) ⟨Nat.le_refl _, Nat.le_refl _⟩ rfl ?_
    rintro _ _ ⟨y2, I2, L2, rfl, rfl, hP2⟩
    replace h := h y2 I2 L2 hP2
    refine z_istore (pc' := 47) (ls' := [some (.ref 44), none, some (.int x2), some (.int x3), some (.int x4), some (.int x5), some (.int x6), some (.int y2), none, none, none]) dX9_drawn_45 rfl (by decide) rfl ?_
    refine z_aload_n (pc' := 48) (x := 44) dX9_drawn_47 rfl rfl ?_
    refine z_getr (pc' := 51) (x := 49) dX9_drawn_48 rfl fl_X9_22 rfl rfl rfl ?_
    refine z_iconst (pc' := 52) (v := 0) dX9_drawn_51 rfl (by decide) ?_
    refine z_iald (pc' := 53) (x := (I2 49 0)) (j := 0) dX9_drawn_52 rfl rfl (by decide) rfl (by decide) rfl ?_
    refine z_istore (pc' := 55) (ls' := [some (.ref 44), none, some (.int x2), some (.int x3), some (.int x4), some (.int x5), some (.int x6), some (.int y2), some (.int (I2 49 0)), none, none]) dX9_drawn_53 rfl (by decide) rfl ?_
    refine z_iconst (pc' := 56) (v := 0) dX9_drawn_55 rfl (by decide) ?_
    refine z_istore (pc' := 58) (ls' := [some (.ref 44), none, some (.int x2), some (.int x3), some (.int x4), some (.int x5), some (.int x6), some (.int y2), some (.int (I2 49 0)), some (.int (0 : Int32)), none]) dX9_drawn_56 rfl (by decide) rfl ?_
    exact h
set_option maxHeartbeats 4000000 in
set_option maxRecDepth 100000 in
theorem t_X9_drawn_58 {l : Launch} {G : zG} {d : Nat} {P : Int32 → zIM → zLM → Prop} {I : zIM} {L : zLM} {x2 : Int32} {x3 : Int32} {x4 : Int32} {x5 : Int32} {x6 : Int32} {x7 : Int32} {x8 : Int32} {x9 : Int32}   (h : ∃ (d1 : Nat) (P1 : Int32 → zIM → zLM → Prop), d1 + 1 ≤ d ∧ zCi l G d1 mX9_isOver [.ref 44, .int x9, .int x7] I L P1 ∧ ∀ (y1 : Int32) (I1 : zIM) (L1 : zLM), P1 y1 I1 L1 → (((¬ y1 = 0 → (∃ (d3 : Nat) (P3 : Int32 → zIM → zLM → Prop), d3 + 1 ≤ d ∧ zCi l G d3 mX9_isIn [.int x7, .int x3] I1 L1 P3 ∧ ∀ (y3 : Int32) (I3 : zIM) (L3 : zLM), P3 y3 I3 L3 → (((y3 = 0 → (K_X9_drawn_35 l G d P I3 L3 x2 x3 x4 (x5 + (0 : Int32)) (x6 + (1 : Int32)))) ∧ (¬ y3 = 0 → (K_X9_drawn_35 l G d P I3 L3 x2 x3 x4 (x5 + (1 : Int32)) (x6 + (1 : Int32)))))))) ∧ (y1 = 0 → (∃ (d5 : Nat) (P5 : Int32 → zIM → zLM → Prop), d5 + 1 ≤ d ∧ zCi l G d5 mX9_stateOf [.int x9, .int x7, .int x8] I1 L1 P5 ∧ ∀ (y5 : Int32) (I5 : zIM) (L5 : zLM), P5 y5 I5 L5 → (∃ j6 : Nat, y5 = nI j6 ∧ j6 < 640 ∧ ((((I5 58 j6) = (9 : Int32) → (∃ (d8 : Nat) (P8 : Int32 → zIM → zLM → Prop), d8 + 1 ≤ d ∧ zCi l G d8 mX9_nextOf [.ref 44, .int x8, .int x7] I5 L5 P8 ∧ ∀ (y8 : Int32) (I8 : zIM) (L8 : zLM), P8 y8 I8 L8 → (K_X9_drawn_58 l G d P I8 L8 x2 x3 x4 x5 x6 x7 y8 (x9 + (1 : Int32))))) ∧ (¬ (I5 58 j6) = (9 : Int32) → ((((I5 59 j6) ≤ (((((x4 * (1103515245 : Int32)) + (12345 : Int32)).toUInt32 >>> ((8 : Int32).toUInt32 &&& Int32.toUInt32 31)).toInt32) % (12 : Int32)) → (∃ (d10 : Nat) (P10 : Int32 → zIM → zLM → Prop), d10 + 1 ≤ d ∧ zCi l G d10 mX9_nextOf [.ref 44, .int x8, .int x7] I5 L5 P10 ∧ ∀ (y10 : Int32) (I10 : zIM) (L10 : zLM), P10 y10 I10 L10 → (K_X9_drawn_58 l G d P I10 L10 x2 x3 ((x4 * (1103515245 : Int32)) + (12345 : Int32)) x5 x6 x7 y10 (x9 + (1 : Int32))))) ∧ (¬ (I5 59 j6) ≤ (((((x4 * (1103515245 : Int32)) + (12345 : Int32)).toUInt32 >>> ((8 : Int32).toUInt32 &&& Int32.toUInt32 31)).toInt32) % (12 : Int32)) → (∃ (d11 : Nat) (P11 : Int32 → zIM → zLM → Prop), d11 + 1 ≤ d ∧ zCi l G d11 mX9_nextOf [.ref 44, .int x8, .int (x7 &&& (((1 : Int32) <<< ((I5 58 j6) &&& 31)) ^^^ (-1 : Int32)))] I5 L5 P11 ∧ ∀ (y11 : Int32) (I11 : zIM) (L11 : zLM), P11 y11 I11 L11 → (K_X9_drawn_58 l G d P I11 L11 x2 x3 ((x4 * (1103515245 : Int32)) + (12345 : Int32)) x5 x6 (x7 &&& (((1 : Int32) <<< ((I5 58 j6) &&& 31)) ^^^ (-1 : Int32))) y11 (x9 + (1 : Int32)))))))))))))))) : K_X9_drawn_58 l G d P I L x2 x3 x4 x5 x6 x7 x8 x9  := by
  refine z_aload_n (pc' := 59) (x := 44) dX9_drawn_58 rfl rfl ?_
  refine z_iload (pc' := 61) (x := x9) dX9_drawn_59 rfl rfl ?_
  refine z_iload (pc' := 63) (x := x7) dX9_drawn_61 rfl rfl ?_
  obtain ⟨d1, P1, hd1, hC1, h⟩ := h
  refine z_callV (pc' := 66) (M' := mX9_isOver) (As := [.int x9, .int x7]) dX9_drawn_63 rfl ml_X9_228 me_X9_isOver hC1 rfl (by decide) rfl rfl hd1 (Nat.le_of_ble_eq_true rfl) ⟨Nat.le_refl _, Nat.le_refl _⟩ rfl ?_
  rintro _ _ ⟨y1, I1, L1, rfl, rfl, hP1⟩
  replace h := h y1 I1 L1 hP1
  refine z_if_ne (pc' := 69) (tgt := 159) dX9_drawn_66 rfl (by decide) (fun c2 => ?_) (fun c2 => ?_)
  · replace h := h.1 c2
    refine z_iload (pc' := 161) (x := x5) dX9_drawn_159 rfl rfl ?_
    refine z_iload (pc' := 163) (x := x7) dX9_drawn_161 rfl rfl ?_
    refine z_iload_n (pc' := 164) (x := x3) dX9_drawn_163 rfl rfl ?_
    obtain ⟨d3, P3, hd3, hC3, h⟩ := h
    refine z_callS (pc' := 167) (M' := mX9_isIn) (As := [.int x7, .int x3]) dX9_drawn_164 rfl ml_X9_133 me_X9_isIn hC3 rfl hd3 (Nat.le_of_ble_eq_true rfl) ⟨Nat.le_refl _, Nat.le_refl _⟩ rfl ?_
    rintro _ _ ⟨y3, I3, L3, rfl, rfl, hP3⟩
    replace h := h y3 I3 L3 hP3
    refine z_if_eq (pc' := 170) (tgt := 174) dX9_drawn_167 rfl (by decide) (fun c4 => ?_) (fun c4 => ?_)
    · replace h := h.1 c4
      refine z_iconst (pc' := 175) (v := 0) dX9_drawn_174 rfl (by decide) ?_
      refine z_iadd (pc' := 176) dX9_drawn_175 rfl ?_
      refine z_istore (pc' := 178) (ls' := [some (.ref 44), none, some (.int x2), some (.int x3), some (.int x4), some (.int (x5 + (0 : Int32))), some (.int x6), some (.int x7), some (.int x8), some (.int x9), none]) dX9_drawn_176 rfl (by decide) rfl ?_
      refine z_iinc (pc' := 181) (x := x6) (v := (x6 + (1 : Int32))) (ls' := [some (.ref 44), none, some (.int x2), some (.int x3), some (.int x4), some (.int (x5 + (0 : Int32))), some (.int (x6 + (1 : Int32))), some (.int x7), some (.int x8), some (.int x9), none]) dX9_drawn_178 rfl rfl (by rfl) (by decide) rfl ?_
      refine z_goto (pc' := 35) dX9_drawn_181 (by decide) ?_
      refine z_sub (pc' := 0) [some (.ref 44), none, some (.int x2), some (.int x3), some (.int x4), some (.int (x5 + (0 : Int32))), some (.int (x6 + (1 : Int32))), none, none, none, none] (zsub_s (zsub_n (zsub_s (zsub_s (zsub_s (zsub_s (zsub_s (zsub_n (zsub_n (zsub_n (zsub_n zsub_nil))))))))))) ?_
      exact h
    · replace h := h.2 c4
      refine z_iconst (pc' := 171) (v := 1) dX9_drawn_170 rfl (by decide) ?_
      refine z_goto (pc' := 175) dX9_drawn_171 (by decide) ?_
      refine z_iadd (pc' := 176) dX9_drawn_175 rfl ?_
      refine z_istore (pc' := 178) (ls' := [some (.ref 44), none, some (.int x2), some (.int x3), some (.int x4), some (.int (x5 + (1 : Int32))), some (.int x6), some (.int x7), some (.int x8), some (.int x9), none]) dX9_drawn_176 rfl (by decide) rfl ?_
      refine z_iinc (pc' := 181) (x := x6) (v := (x6 + (1 : Int32))) (ls' := [some (.ref 44), none, some (.int x2), some (.int x3), some (.int x4), some (.int (x5 + (1 : Int32))), some (.int (x6 + (1 : Int32))), some (.int x7), some (.int x8), some (.int x9), none]) dX9_drawn_178 rfl rfl (by rfl) (by decide) rfl ?_
      refine z_goto (pc' := 35) dX9_drawn_181 (by decide) ?_
      refine z_sub (pc' := 0) [some (.ref 44), none, some (.int x2), some (.int x3), some (.int x4), some (.int (x5 + (1 : Int32))), some (.int (x6 + (1 : Int32))), none, none, none, none] (zsub_s (zsub_n (zsub_s (zsub_s (zsub_s (zsub_s (zsub_s (zsub_n (zsub_n (zsub_n (zsub_n zsub_nil))))))))))) ?_
      exact h
  · replace h := h.2 c2
    refine z_iload (pc' := 71) (x := x9) dX9_drawn_69 rfl rfl ?_
    refine z_iload (pc' := 73) (x := x7) dX9_drawn_71 rfl rfl ?_
    refine z_iload (pc' := 75) (x := x8) dX9_drawn_73 rfl rfl ?_
    obtain ⟨d5, P5, hd5, hC5, h⟩ := h
    refine z_callS (pc' := 78) (M' := mX9_stateOf) (As := [.int x9, .int x7, .int x8]) dX9_drawn_75 rfl ml_X9_207 me_X9_stateOf hC5 rfl hd5 (Nat.le_of_ble_eq_true rfl) ⟨Nat.le_refl _, Nat.le_refl _⟩ rfl ?_
    rintro _ _ ⟨y5, I5, L5, rfl, rfl, hP5⟩
    replace h := h y5 I5 L5 hP5
    refine z_istore (pc' := 80) (ls' := [some (.ref 44), none, some (.int x2), some (.int x3), some (.int x4), some (.int x5), some (.int x6), some (.int x7), some (.int x8), some (.int x9), some (.int y5)]) dX9_drawn_78 rfl (by decide) rfl ?_
    refine z_aload_n (pc' := 81) (x := 44) dX9_drawn_80 rfl rfl ?_
    refine z_getr (pc' := 84) (x := 58) dX9_drawn_81 rfl fl_X9_50 rfl rfl rfl ?_
    refine z_iload (pc' := 86) (x := y5) dX9_drawn_84 rfl rfl ?_
    obtain ⟨j6, ha6, hb6, h⟩ := h
    refine z_iald (pc' := 87) (x := (I5 58 j6)) (j := j6) dX9_drawn_86 rfl rfl (by decide) ha6 hb6 rfl ?_
    refine z_bipush (pc' := 89) (v := 9) dX9_drawn_87 rfl (by decide) ?_
    refine z_icmp_eq (pc' := 92) (tgt := 143) dX9_drawn_89 rfl (by decide) (fun c7 => ?_) (fun c7 => ?_)
    · replace h := h.1 c7
      refine z_aload_n (pc' := 144) (x := 44) dX9_drawn_143 rfl rfl ?_
      refine z_iload (pc' := 146) (x := x8) dX9_drawn_144 rfl rfl ?_
      refine z_iload (pc' := 148) (x := x7) dX9_drawn_146 rfl rfl ?_
      obtain ⟨d8, P8, hd8, hC8, h⟩ := h
      refine z_callV (pc' := 151) (M' := mX9_nextOf) (As := [.int x8, .int x7]) dX9_drawn_148 rfl ml_X9_204 me_X9_nextOf hC8 rfl (by decide) rfl rfl hd8 (Nat.le_of_ble_eq_true rfl) ⟨Nat.le_refl _, Nat.le_refl _⟩ rfl ?_
      rintro _ _ ⟨y8, I8, L8, rfl, rfl, hP8⟩
      replace h := h y8 I8 L8 hP8
      refine z_istore (pc' := 153) (ls' := [some (.ref 44), none, some (.int x2), some (.int x3), some (.int x4), some (.int x5), some (.int x6), some (.int x7), some (.int y8), some (.int x9), some (.int y5)]) dX9_drawn_151 rfl (by decide) rfl ?_
      refine z_iinc (pc' := 156) (x := x9) (v := (x9 + (1 : Int32))) (ls' := [some (.ref 44), none, some (.int x2), some (.int x3), some (.int x4), some (.int x5), some (.int x6), some (.int x7), some (.int y8), some (.int (x9 + (1 : Int32))), some (.int y5)]) dX9_drawn_153 rfl rfl (by rfl) (by decide) rfl ?_
      refine z_goto (pc' := 58) dX9_drawn_156 (by decide) ?_
      refine z_sub (pc' := 0) [some (.ref 44), none, some (.int x2), some (.int x3), some (.int x4), some (.int x5), some (.int x6), some (.int x7), some (.int y8), some (.int (x9 + (1 : Int32))), none] (zsub_s (zsub_n (zsub_s (zsub_s (zsub_s (zsub_s (zsub_s (zsub_s (zsub_s (zsub_s (zsub_n zsub_nil))))))))))) ?_
      exact h
    · replace h := h.2 c7
      refine z_iload (pc' := 94) (x := x4) dX9_drawn_92 rfl rfl ?_
      refine z_ldcw (pc' := 97) (v := 1103515245) dX9_drawn_94 rfl kc_X9_308 ?_
      refine z_imul (pc' := 98) dX9_drawn_97 rfl ?_
      refine z_sipush (pc' := 101) (v := 12345) dX9_drawn_98 rfl (by decide) ?_
      refine z_iadd (pc' := 102) dX9_drawn_101 rfl ?_
      refine z_istore (pc' := 104) (ls' := [some (.ref 44), none, some (.int x2), some (.int x3), some (.int ((x4 * (1103515245 : Int32)) + (12345 : Int32))), some (.int x5), some (.int x6), some (.int x7), some (.int x8), some (.int x9), some (.int y5)]) dX9_drawn_102 rfl (by decide) rfl ?_
      refine z_iload (pc' := 106) (x := ((x4 * (1103515245 : Int32)) + (12345 : Int32))) dX9_drawn_104 rfl rfl ?_
      refine z_bipush (pc' := 108) (v := 8) dX9_drawn_106 rfl (by decide) ?_
      refine z_iushr (pc' := 109) dX9_drawn_108 rfl ?_
      refine z_bipush (pc' := 111) (v := 12) dX9_drawn_109 rfl (by decide) ?_
      refine z_irem (pc' := 112) dX9_drawn_111 rfl (by decide) ?_
      refine z_aload_n (pc' := 113) (x := 44) dX9_drawn_112 rfl rfl ?_
      refine z_getr (pc' := 116) (x := 59) dX9_drawn_113 rfl fl_X9_53 rfl rfl rfl ?_
      refine z_iload (pc' := 118) (x := y5) dX9_drawn_116 rfl rfl ?_
      refine z_iald (pc' := 119) (x := (I5 59 j6)) (j := j6) dX9_drawn_118 rfl rfl (by decide) ha6 hb6 rfl ?_
      refine z_icmp_ge (pc' := 122) (tgt := 139) dX9_drawn_119 rfl (by decide) (fun c9 => ?_) (fun c9 => ?_)
      · replace h := h.1 c9
        refine z_iload (pc' := 141) (x := x7) dX9_drawn_139 rfl rfl ?_
        refine z_istore (pc' := 143) (ls' := [some (.ref 44), none, some (.int x2), some (.int x3), some (.int ((x4 * (1103515245 : Int32)) + (12345 : Int32))), some (.int x5), some (.int x6), some (.int x7), some (.int x8), some (.int x9), some (.int y5)]) dX9_drawn_141 rfl (by decide) rfl ?_
        refine z_aload_n (pc' := 144) (x := 44) dX9_drawn_143 rfl rfl ?_
        refine z_iload (pc' := 146) (x := x8) dX9_drawn_144 rfl rfl ?_
        refine z_iload (pc' := 148) (x := x7) dX9_drawn_146 rfl rfl ?_
        obtain ⟨d10, P10, hd10, hC10, h⟩ := h
        refine z_callV (pc' := 151) (M' := mX9_nextOf) (As := [.int x8, .int x7]) dX9_drawn_148 rfl ml_X9_204 me_X9_nextOf hC10 rfl (by decide) rfl rfl hd10 (Nat.le_of_ble_eq_true rfl) ⟨Nat.le_refl _, Nat.le_refl _⟩ rfl ?_
        rintro _ _ ⟨y10, I10, L10, rfl, rfl, hP10⟩
        replace h := h y10 I10 L10 hP10
        refine z_istore (pc' := 153) (ls' := [some (.ref 44), none, some (.int x2), some (.int x3), some (.int ((x4 * (1103515245 : Int32)) + (12345 : Int32))), some (.int x5), some (.int x6), some (.int x7), some (.int y10), some (.int x9), some (.int y5)]) dX9_drawn_151 rfl (by decide) rfl ?_
        refine z_iinc (pc' := 156) (x := x9) (v := (x9 + (1 : Int32))) (ls' := [some (.ref 44), none, some (.int x2), some (.int x3), some (.int ((x4 * (1103515245 : Int32)) + (12345 : Int32))), some (.int x5), some (.int x6), some (.int x7), some (.int y10), some (.int (x9 + (1 : Int32))), some (.int y5)]) dX9_drawn_153 rfl rfl (by rfl) (by decide) rfl ?_
        refine z_goto (pc' := 58) dX9_drawn_156 (by decide) ?_
        refine z_sub (pc' := 0) [some (.ref 44), none, some (.int x2), some (.int x3), some (.int ((x4 * (1103515245 : Int32)) + (12345 : Int32))), some (.int x5), some (.int x6), some (.int x7), some (.int y10), some (.int (x9 + (1 : Int32))), none] (zsub_s (zsub_n (zsub_s (zsub_s (zsub_s (zsub_s (zsub_s (zsub_s (zsub_s (zsub_s (zsub_n zsub_nil))))))))))) ?_
        exact h
      · replace h := h.2 c9
        refine z_iload (pc' := 124) (x := x7) dX9_drawn_122 rfl rfl ?_
        refine z_iconst (pc' := 125) (v := 1) dX9_drawn_124 rfl (by decide) ?_
        refine z_aload_n (pc' := 126) (x := 44) dX9_drawn_125 rfl rfl ?_
        refine z_getr (pc' := 129) (x := 58) dX9_drawn_126 rfl fl_X9_50 rfl rfl rfl ?_
        refine z_iload (pc' := 131) (x := y5) dX9_drawn_129 rfl rfl ?_
        refine z_iald (pc' := 132) (x := (I5 58 j6)) (j := j6) dX9_drawn_131 rfl rfl (by decide) ha6 hb6 rfl ?_
        refine z_ishl (pc' := 133) dX9_drawn_132 rfl ?_
        refine z_iconst (pc' := 134) (v := -1) dX9_drawn_133 rfl (by decide) ?_
        refine z_ixor (pc' := 135) dX9_drawn_134 rfl ?_
        refine z_iand (pc' := 136) dX9_drawn_135 rfl ?_
        refine z_goto (pc' := 141) dX9_drawn_136 (by decide) ?_
        refine z_istore (pc' := 143) (ls' := [some (.ref 44), none, some (.int x2), some (.int x3), some (.int ((x4 * (1103515245 : Int32)) + (12345 : Int32))), some (.int x5), some (.int x6), some (.int (x7 &&& (((1 : Int32) <<< ((I5 58 j6) &&& 31)) ^^^ (-1 : Int32)))), some (.int x8), some (.int x9), some (.int y5)]) dX9_drawn_141 rfl (by decide) rfl ?_
        refine z_aload_n (pc' := 144) (x := 44) dX9_drawn_143 rfl rfl ?_
        refine z_iload (pc' := 146) (x := x8) dX9_drawn_144 rfl rfl ?_
        refine z_iload (pc' := 148) (x := (x7 &&& (((1 : Int32) <<< ((I5 58 j6) &&& 31)) ^^^ (-1 : Int32)))) dX9_drawn_146 rfl rfl ?_
        obtain ⟨d11, P11, hd11, hC11, h⟩ := h
        refine z_callV (pc' := 151) (M' := mX9_nextOf) (As := [.int x8, .int (x7 &&& (((1 : Int32) <<< ((I5 58 j6) &&& 31)) ^^^ (-1 : Int32)))]) dX9_drawn_148 rfl ml_X9_204 me_X9_nextOf hC11 rfl (by decide) rfl rfl hd11 (Nat.le_of_ble_eq_true rfl) ⟨Nat.le_refl _, Nat.le_refl _⟩ rfl ?_
        rintro _ _ ⟨y11, I11, L11, rfl, rfl, hP11⟩
        replace h := h y11 I11 L11 hP11
        refine z_istore (pc' := 153) (ls' := [some (.ref 44), none, some (.int x2), some (.int x3), some (.int ((x4 * (1103515245 : Int32)) + (12345 : Int32))), some (.int x5), some (.int x6), some (.int (x7 &&& (((1 : Int32) <<< ((I5 58 j6) &&& 31)) ^^^ (-1 : Int32)))), some (.int y11), some (.int x9), some (.int y5)]) dX9_drawn_151 rfl (by decide) rfl ?_
        refine z_iinc (pc' := 156) (x := x9) (v := (x9 + (1 : Int32))) (ls' := [some (.ref 44), none, some (.int x2), some (.int x3), some (.int ((x4 * (1103515245 : Int32)) + (12345 : Int32))), some (.int x5), some (.int x6), some (.int (x7 &&& (((1 : Int32) <<< ((I5 58 j6) &&& 31)) ^^^ (-1 : Int32)))), some (.int y11), some (.int (x9 + (1 : Int32))), some (.int y5)]) dX9_drawn_153 rfl rfl (by rfl) (by decide) rfl ?_
        refine z_goto (pc' := 58) dX9_drawn_156 (by decide) ?_
        refine z_sub (pc' := 0) [some (.ref 44), none, some (.int x2), some (.int x3), some (.int ((x4 * (1103515245 : Int32)) + (12345 : Int32))), some (.int x5), some (.int x6), some (.int (x7 &&& (((1 : Int32) <<< ((I5 58 j6) &&& 31)) ^^^ (-1 : Int32)))), some (.int y11), some (.int (x9 + (1 : Int32))), none] (zsub_s (zsub_n (zsub_s (zsub_s (zsub_s (zsub_s (zsub_s (zsub_s (zsub_s (zsub_s (zsub_n zsub_nil))))))))))) ?_
        exact h
set_option maxHeartbeats 4000000 in
set_option maxRecDepth 100000 in
theorem t_X9_startsAnew {l : Launch} {G : zG} {d : Nat} {P : zIM → zLM → Prop} {I : zIM} {L : zLM}   (h : ∃ (d1 : Nat) (P1 : Int32 → zIM → zLM → Prop), d1 + 1 ≤ d ∧ zCi l G d1 mX9_all [.ref 44] (xI I 44 36 (0 : Int32)) L P1 ∧ ∀ (y1 : Int32) (I1 : zIM) (L1 : zLM), P1 y1 I1 L1 → (P (xI (xI (xI I1 44 33 y1) 44 34 (I1 49 0)) 44 35 (0 : Int32)) L1)) : zCv l G d mX9_startsAnew [.ref 44] I L P := by
  refine zCn.of (ls := [some (.ref 44)]) (by decide) (Nat.le_of_ble_eq_true rfl) rfl ?_
  refine z_aload_n (pc' := 1) (x := 44) dX9_startsAnew_0 rfl rfl ?_
  refine z_iconst (pc' := 2) (v := 0) dX9_startsAnew_1 rfl (by decide) ?_
  refine z_puti (pc' := 5) (w' := zs (xI I 44 36 (0 : Int32)) L) dX9_startsAnew_2 rfl fl_X9_309 rfl rfl rfl rfl rfl rfl ?_
  refine z_aload_n (pc' := 6) (x := 44) dX9_startsAnew_5 rfl rfl ?_
  refine z_aload_n (pc' := 7) (x := 44) dX9_startsAnew_6 rfl rfl ?_
  obtain ⟨d1, P1, hd1, hC1, h⟩ := h
  refine z_callV (pc' := 10) (M' := mX9_all) (As := []) dX9_startsAnew_7 rfl ml_X9_225 me_X9_all hC1 rfl (by decide) rfl rfl hd1 (Nat.le_of_ble_eq_true rfl) ⟨Nat.le_refl _, Nat.le_refl _⟩ rfl ?_
  rintro _ _ ⟨y1, I1, L1, rfl, rfl, hP1⟩
  replace h := h y1 I1 L1 hP1
  refine z_puti (pc' := 13) (w' := zs (xI I1 44 33 y1) L1) dX9_startsAnew_10 rfl fl_X9_139 rfl rfl rfl rfl rfl rfl ?_
  refine z_aload_n (pc' := 14) (x := 44) dX9_startsAnew_13 rfl rfl ?_
  refine z_aload_n (pc' := 15) (x := 44) dX9_startsAnew_14 rfl rfl ?_
  refine z_getr (pc' := 18) (x := 49) dX9_startsAnew_15 rfl fl_X9_22 rfl rfl rfl ?_
  refine z_iconst (pc' := 19) (v := 0) dX9_startsAnew_18 rfl (by decide) ?_
  refine z_iald (pc' := 20) (x := (I1 49 0)) (j := 0) dX9_startsAnew_19 rfl rfl (by decide) rfl (by decide) rfl ?_
  refine z_puti (pc' := 23) (w' := zs (xI (xI I1 44 33 y1) 44 34 (I1 49 0)) L1) dX9_startsAnew_20 rfl fl_X9_313 rfl rfl rfl rfl rfl rfl ?_
  refine z_aload_n (pc' := 24) (x := 44) dX9_startsAnew_23 rfl rfl ?_
  refine z_iconst (pc' := 25) (v := 0) dX9_startsAnew_24 rfl (by decide) ?_
  refine z_puti (pc' := 28) (w' := zs (xI (xI (xI I1 44 33 y1) 44 34 (I1 49 0)) 44 35 (0 : Int32)) L1) dX9_startsAnew_25 rfl fl_X9_316 rfl rfl rfl rfl rfl rfl ?_
  exact z_vret dX9_startsAnew_28 rfl ⟨Nat.le_refl _, Nat.le_refl _⟩ ⟨_, _, rfl, rfl, h⟩
set_option maxHeartbeats 4000000 in
set_option maxRecDepth 100000 in
theorem t_X9_step {l : Launch} {G : zG} {d : Nat} {P : Int32 → zIM → zLM → Prop} {I : zIM} {L : zLM} {x1 : Int32}  (h : ∃ (d1 : Nat) (P1 : Int32 → zIM → zLM → Prop), d1 + 1 ≤ d ∧ zCi l G d1 mX9_within [.long (x1.toInt64), .long (0 : Int64), .long (11 : Int64)] I L P1 ∧ ∀ (y1 : Int32) (I1 : zIM) (L1 : zLM), P1 y1 I1 L1 → (((¬ y1 = 0 → (∃ (d3 : Nat) (P3 : Int32 → zIM → zLM → Prop), d3 + 1 ≤ d ∧ zCi l G d3 mX9_isOver [.ref 44, .int (I1 44 35), .int (I1 44 33)] I1 L1 P3 ∧ ∀ (y3 : Int32) (I3 : zIM) (L3 : zLM), P3 y3 I3 L3 → (((y3 = 0 → (∃ (d5 : Nat) (P5 : zIM → zLM → Prop), d5 + 1 ≤ d ∧ zCv l G d5 mX9_solves [.ref 44] I3 L3 P5 ∧ ∀ (I5 : zIM) (L5 : zLM), P5 I5 L5 → (∃ (d6 : Nat) (P6 : Int32 → zIM → zLM → Prop), d6 + 1 ≤ d ∧ zCi l G d6 mX9_stateOf [.int (I5 44 35), .int (I5 44 33), .int (I5 44 34)] I5 L5 P6 ∧ ∀ (y6 : Int32) (I6 : zIM) (L6 : zLM), P6 y6 I6 L6 → (∃ j7 : Nat, y6 = nI j7 ∧ j7 < 640 ∧ ((((I6 58 j7) = (9 : Int32) → (∃ (d9 : Nat) (P9 : Int32 → zIM → zLM → Prop), d9 + 1 ≤ d ∧ zCi l G d9 mX9_nextOf [.ref 44, .int (I6 44 34), .int (I6 44 33)] (xI I6 44 33 (I6 44 33)) L6 P9 ∧ ∀ (y9 : Int32) (I9 : zIM) (L9 : zLM), P9 y9 I9 L9 → (P (((100 : Int32) * (I6 44 34)) + ((10 : Int32) * (I6 58 j7))) (xI (xI I9 44 34 y9) 44 35 ((I9 44 35) + (1 : Int32))) L9))) ∧ (¬ (I6 58 j7) = (9 : Int32) → ((((I6 59 j7) ≤ x1 → (∃ (d11 : Nat) (P11 : Int32 → zIM → zLM → Prop), d11 + 1 ≤ d ∧ zCi l G d11 mX9_nextOf [.ref 44, .int (I6 44 34), .int (I6 44 33)] (xI I6 44 33 (I6 44 33)) L6 P11 ∧ ∀ (y11 : Int32) (I11 : zIM) (L11 : zLM), P11 y11 I11 L11 → (P (((100 : Int32) * (I6 44 34)) + ((10 : Int32) * (I6 58 j7))) (xI (xI I11 44 34 y11) 44 35 ((I11 44 35) + (1 : Int32))) L11))) ∧ (¬ (I6 59 j7) ≤ x1 → (∃ (d12 : Nat) (P12 : Int32 → zIM → zLM → Prop), d12 + 1 ≤ d ∧ zCi l G d12 mX9_nextOf [.ref 44, .int (I6 44 34), .int ((I6 44 33) &&& (((1 : Int32) <<< ((I6 58 j7) &&& 31)) ^^^ (-1 : Int32)))] (xI I6 44 33 ((I6 44 33) &&& (((1 : Int32) <<< ((I6 58 j7) &&& 31)) ^^^ (-1 : Int32)))) L6 P12 ∧ ∀ (y12 : Int32) (I12 : zIM) (L12 : zLM), P12 y12 I12 L12 → (P ((((100 : Int32) * (I6 44 34)) + ((10 : Int32) * (I6 58 j7))) + (1 : Int32)) (xI (xI I12 44 34 y12) 44 35 ((I12 44 35) + (1 : Int32))) L12)))))))))))) ∧ (¬ y3 = 0 → (P (-5 : Int32) I3 L3)))))) ∧ (y1 = 0 → (P (-1 : Int32) I1 L1))))) : zCi l G d mX9_step [.ref 44, .int x1] I L P := by
  refine zCn.of (ls := [some (.ref 44), some (.int x1), none, none, none]) (by decide) (Nat.le_of_ble_eq_true rfl) rfl ?_
  refine z_iload_n (pc' := 1) (x := x1) dX9_step_0 rfl rfl ?_
  refine z_i2l (pc' := 2) dX9_step_1 rfl ?_
  refine z_lconst (pc' := 3) (v := 0) dX9_step_2 rfl (by decide) ?_
  refine z_ldc2 (pc' := 6) (v := 11) dX9_step_3 rfl kl_X9_319 ?_
  obtain ⟨d1, P1, hd1, hC1, h⟩ := h
  refine z_callS (pc' := 9) (M' := mX9_within) (As := [.long (x1.toInt64), .long (0 : Int64), .long (11 : Int64)]) dX9_step_6 rfl ml_X9_99 me_X9_within hC1 rfl hd1 (Nat.le_of_ble_eq_true rfl) ⟨Nat.le_refl _, Nat.le_refl _⟩ rfl ?_
  rintro _ _ ⟨y1, I1, L1, rfl, rfl, hP1⟩
  replace h := h y1 I1 L1 hP1
  refine z_if_ne (pc' := 12) (tgt := 14) dX9_step_9 rfl (by decide) (fun c2 => ?_) (fun c2 => ?_)
  · replace h := h.1 c2
    refine z_aload_n (pc' := 15) (x := 44) dX9_step_14 rfl rfl ?_
    refine z_aload_n (pc' := 16) (x := 44) dX9_step_15 rfl rfl ?_
    refine z_geti (pc' := 19) (x := (I1 44 35)) dX9_step_16 rfl fl_X9_316 rfl rfl rfl ?_
    refine z_aload_n (pc' := 20) (x := 44) dX9_step_19 rfl rfl ?_
    refine z_geti (pc' := 23) (x := (I1 44 33)) dX9_step_20 rfl fl_X9_139 rfl rfl rfl ?_
    obtain ⟨d3, P3, hd3, hC3, h⟩ := h
    refine z_callV (pc' := 26) (M' := mX9_isOver) (As := [.int (I1 44 35), .int (I1 44 33)]) dX9_step_23 rfl ml_X9_228 me_X9_isOver hC3 rfl (by decide) rfl rfl hd3 (Nat.le_of_ble_eq_true rfl) ⟨Nat.le_refl _, Nat.le_refl _⟩ rfl ?_
    rintro _ _ ⟨y3, I3, L3, rfl, rfl, hP3⟩
    replace h := h y3 I3 L3 hP3
    refine z_if_eq (pc' := 29) (tgt := 32) dX9_step_26 rfl (by decide) (fun c4 => ?_) (fun c4 => ?_)
    · replace h := h.1 c4
      refine z_aload_n (pc' := 33) (x := 44) dX9_step_32 rfl rfl ?_
      obtain ⟨d5, P5, hd5, hC5, h⟩ := h
      refine z_callV (pc' := 36) (M' := mX9_solves) (As := []) dX9_step_33 rfl ml_X9_241 me_X9_solves hC5 rfl (by decide) rfl rfl hd5 (Nat.le_of_ble_eq_true rfl) ⟨Nat.le_refl _, Nat.le_refl _⟩ rfl ?_
      rintro _ _ ⟨I5, L5, rfl, rfl, hP5⟩
      replace h := h I5 L5 hP5
      refine z_aload_n (pc' := 37) (x := 44) dX9_step_36 rfl rfl ?_
      refine z_geti (pc' := 40) (x := (I5 44 35)) dX9_step_37 rfl fl_X9_316 rfl rfl rfl ?_
      refine z_aload_n (pc' := 41) (x := 44) dX9_step_40 rfl rfl ?_
      refine z_geti (pc' := 44) (x := (I5 44 33)) dX9_step_41 rfl fl_X9_139 rfl rfl rfl ?_
      refine z_aload_n (pc' := 45) (x := 44) dX9_step_44 rfl rfl ?_
      refine z_geti (pc' := 48) (x := (I5 44 34)) dX9_step_45 rfl fl_X9_313 rfl rfl rfl ?_
      obtain ⟨d6, P6, hd6, hC6, h⟩ := h
      refine z_callS (pc' := 51) (M' := mX9_stateOf) (As := [.int (I5 44 35), .int (I5 44 33), .int (I5 44 34)]) dX9_step_48 rfl ml_X9_207 me_X9_stateOf hC6 rfl hd6 (Nat.le_of_ble_eq_true rfl) ⟨Nat.le_refl _, Nat.le_refl _⟩ rfl ?_
      rintro _ _ ⟨y6, I6, L6, rfl, rfl, hP6⟩
      replace h := h y6 I6 L6 hP6
      refine z_istore_n (pc' := 52) (ls' := [some (.ref 44), some (.int x1), some (.int y6), none, none]) dX9_step_51 rfl (by decide) rfl ?_
      refine z_bipush (pc' := 54) (v := 100) dX9_step_52 rfl (by decide) ?_
      refine z_aload_n (pc' := 55) (x := 44) dX9_step_54 rfl rfl ?_
      refine z_geti (pc' := 58) (x := (I6 44 34)) dX9_step_55 rfl fl_X9_313 rfl rfl rfl ?_
      refine z_imul (pc' := 59) dX9_step_58 rfl ?_
      refine z_bipush (pc' := 61) (v := 10) dX9_step_59 rfl (by decide) ?_
      refine z_aload_n (pc' := 62) (x := 44) dX9_step_61 rfl rfl ?_
      refine z_getr (pc' := 65) (x := 58) dX9_step_62 rfl fl_X9_50 rfl rfl rfl ?_
      refine z_iload_n (pc' := 66) (x := y6) dX9_step_65 rfl rfl ?_
      obtain ⟨j7, ha7, hb7, h⟩ := h
      refine z_iald (pc' := 67) (x := (I6 58 j7)) (j := j7) dX9_step_66 rfl rfl (by decide) ha7 hb7 rfl ?_
      refine z_imul (pc' := 68) dX9_step_67 rfl ?_
      refine z_iadd (pc' := 69) dX9_step_68 rfl ?_
      refine z_istore_n (pc' := 70) (ls' := [some (.ref 44), some (.int x1), some (.int y6), some (.int (((100 : Int32) * (I6 44 34)) + ((10 : Int32) * (I6 58 j7)))), none]) dX9_step_69 rfl (by decide) rfl ?_
      refine z_aload_n (pc' := 71) (x := 44) dX9_step_70 rfl rfl ?_
      refine z_getr (pc' := 74) (x := 58) dX9_step_71 rfl fl_X9_50 rfl rfl rfl ?_
      refine z_iload_n (pc' := 75) (x := y6) dX9_step_74 rfl rfl ?_
      refine z_iald (pc' := 76) (x := (I6 58 j7)) (j := j7) dX9_step_75 rfl rfl (by decide) ha7 hb7 rfl ?_
      refine z_bipush (pc' := 78) (v := 9) dX9_step_76 rfl (by decide) ?_
      refine z_icmp_eq (pc' := 81) (tgt := 95) dX9_step_78 rfl (by decide) (fun c8 => ?_) (fun c8 => ?_)
      · replace h := h.1 c8
        refine z_iconst (pc' := 96) (v := 0) dX9_step_95 rfl (by decide) ?_
        refine z_istore (pc' := 98) (ls' := [some (.ref 44), some (.int x1), some (.int y6), some (.int (((100 : Int32) * (I6 44 34)) + ((10 : Int32) * (I6 58 j7)))), some (.int (0 : Int32))]) dX9_step_96 rfl (by decide) rfl ?_
        refine z_aload_n (pc' := 99) (x := 44) dX9_step_98 rfl rfl ?_
        refine z_iload (pc' := 101) (x := (0 : Int32)) dX9_step_99 rfl rfl ?_
        refine z_if_eq (pc' := 104) (tgt := 122) dX9_step_101 rfl (by decide) (fun _ => ?_) (fun c => absurd c (by decide))
        refine z_aload_n (pc' := 123) (x := 44) dX9_step_122 rfl rfl ?_
        refine z_geti (pc' := 126) (x := (I6 44 33)) dX9_step_123 rfl fl_X9_139 rfl rfl rfl ?_
        refine z_puti (pc' := 129) (w' := zs (xI I6 44 33 (I6 44 33)) L6) dX9_step_126 rfl fl_X9_139 rfl rfl rfl rfl rfl rfl ?_
        refine z_aload_n (pc' := 130) (x := 44) dX9_step_129 rfl rfl ?_
        refine z_aload_n (pc' := 131) (x := 44) dX9_step_130 rfl rfl ?_
        refine z_aload_n (pc' := 132) (x := 44) dX9_step_131 rfl rfl ?_
        refine z_geti (pc' := 135) (x := (I6 44 34)) dX9_step_132 rfl fl_X9_313 rfl rfl rfl ?_
        refine z_aload_n (pc' := 136) (x := 44) dX9_step_135 rfl rfl ?_
        refine z_geti (pc' := 139) (x := (I6 44 33)) dX9_step_136 rfl fl_X9_139 rfl rfl rfl ?_
        obtain ⟨d9, P9, hd9, hC9, h⟩ := h
        refine z_callV (pc' := 142) (M' := mX9_nextOf) (As := [.int (I6 44 34), .int (I6 44 33)]) dX9_step_139 rfl ml_X9_204 me_X9_nextOf hC9 rfl (by decide) rfl rfl hd9 (Nat.le_of_ble_eq_true rfl) ⟨Nat.le_refl _, Nat.le_refl _⟩ rfl ?_
        rintro _ _ ⟨y9, I9, L9, rfl, rfl, hP9⟩
        replace h := h y9 I9 L9 hP9
        refine z_puti (pc' := 145) (w' := zs (xI I9 44 34 y9) L9) dX9_step_142 rfl fl_X9_313 rfl rfl rfl rfl rfl rfl ?_
        refine z_aload_n (pc' := 146) (x := 44) dX9_step_145 rfl rfl ?_
        refine z_dup (pc' := 147) dX9_step_146 rfl rfl ?_
        refine z_geti (pc' := 150) (x := (I9 44 35)) dX9_step_147 rfl fl_X9_316 rfl rfl rfl ?_
        refine z_iconst (pc' := 151) (v := 1) dX9_step_150 rfl (by decide) ?_
        refine z_iadd (pc' := 152) dX9_step_151 rfl ?_
        refine z_puti (pc' := 155) (w' := zs (xI (xI I9 44 34 y9) 44 35 ((I9 44 35) + (1 : Int32))) L9) dX9_step_152 rfl fl_X9_316 rfl rfl rfl rfl rfl rfl ?_
        refine z_iload (pc' := 157) (x := (0 : Int32)) dX9_step_155 rfl rfl ?_
        refine z_if_eq (pc' := 160) (tgt := 166) dX9_step_157 rfl (by decide) (fun _ => ?_) (fun c => absurd c (by decide))
        refine z_iload_n (pc' := 167) (x := (((100 : Int32) * (I6 44 34)) + ((10 : Int32) * (I6 58 j7)))) dX9_step_166 rfl rfl ?_
        exact z_iret dX9_step_167 rfl rfl ⟨Nat.le_refl _, Nat.le_refl _⟩ ⟨_, _, _, rfl, rfl, h⟩
      · replace h := h.2 c8
        refine z_iload_n (pc' := 82) (x := x1) dX9_step_81 rfl rfl ?_
        refine z_aload_n (pc' := 83) (x := 44) dX9_step_82 rfl rfl ?_
        refine z_getr (pc' := 86) (x := 59) dX9_step_83 rfl fl_X9_53 rfl rfl rfl ?_
        refine z_iload_n (pc' := 87) (x := y6) dX9_step_86 rfl rfl ?_
        refine z_iald (pc' := 88) (x := (I6 59 j7)) (j := j7) dX9_step_87 rfl rfl (by decide) ha7 hb7 rfl ?_
        refine z_icmp_ge (pc' := 91) (tgt := 95) dX9_step_88 rfl (by decide) (fun c10 => ?_) (fun c10 => ?_)
        · replace h := h.1 c10
          refine z_iconst (pc' := 96) (v := 0) dX9_step_95 rfl (by decide) ?_
          refine z_istore (pc' := 98) (ls' := [some (.ref 44), some (.int x1), some (.int y6), some (.int (((100 : Int32) * (I6 44 34)) + ((10 : Int32) * (I6 58 j7)))), some (.int (0 : Int32))]) dX9_step_96 rfl (by decide) rfl ?_
          refine z_aload_n (pc' := 99) (x := 44) dX9_step_98 rfl rfl ?_
          refine z_iload (pc' := 101) (x := (0 : Int32)) dX9_step_99 rfl rfl ?_
          refine z_if_eq (pc' := 104) (tgt := 122) dX9_step_101 rfl (by decide) (fun _ => ?_) (fun c => absurd c (by decide))
          refine z_aload_n (pc' := 123) (x := 44) dX9_step_122 rfl rfl ?_
          refine z_geti (pc' := 126) (x := (I6 44 33)) dX9_step_123 rfl fl_X9_139 rfl rfl rfl ?_
          refine z_puti (pc' := 129) (w' := zs (xI I6 44 33 (I6 44 33)) L6) dX9_step_126 rfl fl_X9_139 rfl rfl rfl rfl rfl rfl ?_
          refine z_aload_n (pc' := 130) (x := 44) dX9_step_129 rfl rfl ?_
          refine z_aload_n (pc' := 131) (x := 44) dX9_step_130 rfl rfl ?_
          refine z_aload_n (pc' := 132) (x := 44) dX9_step_131 rfl rfl ?_
          refine z_geti (pc' := 135) (x := (I6 44 34)) dX9_step_132 rfl fl_X9_313 rfl rfl rfl ?_
          refine z_aload_n (pc' := 136) (x := 44) dX9_step_135 rfl rfl ?_
          refine z_geti (pc' := 139) (x := (I6 44 33)) dX9_step_136 rfl fl_X9_139 rfl rfl rfl ?_
          obtain ⟨d11, P11, hd11, hC11, h⟩ := h
          refine z_callV (pc' := 142) (M' := mX9_nextOf) (As := [.int (I6 44 34), .int (I6 44 33)]) dX9_step_139 rfl ml_X9_204 me_X9_nextOf hC11 rfl (by decide) rfl rfl hd11 (Nat.le_of_ble_eq_true rfl) ⟨Nat.le_refl _, Nat.le_refl _⟩ rfl ?_
          rintro _ _ ⟨y11, I11, L11, rfl, rfl, hP11⟩
          replace h := h y11 I11 L11 hP11
          refine z_puti (pc' := 145) (w' := zs (xI I11 44 34 y11) L11) dX9_step_142 rfl fl_X9_313 rfl rfl rfl rfl rfl rfl ?_
          refine z_aload_n (pc' := 146) (x := 44) dX9_step_145 rfl rfl ?_
          refine z_dup (pc' := 147) dX9_step_146 rfl rfl ?_
          refine z_geti (pc' := 150) (x := (I11 44 35)) dX9_step_147 rfl fl_X9_316 rfl rfl rfl ?_
          refine z_iconst (pc' := 151) (v := 1) dX9_step_150 rfl (by decide) ?_
          refine z_iadd (pc' := 152) dX9_step_151 rfl ?_
          refine z_puti (pc' := 155) (w' := zs (xI (xI I11 44 34 y11) 44 35 ((I11 44 35) + (1 : Int32))) L11) dX9_step_152 rfl fl_X9_316 rfl rfl rfl rfl rfl rfl ?_
          refine z_iload (pc' := 157) (x := (0 : Int32)) dX9_step_155 rfl rfl ?_
          refine z_if_eq (pc' := 160) (tgt := 166) dX9_step_157 rfl (by decide) (fun _ => ?_) (fun c => absurd c (by decide))
          refine z_iload_n (pc' := 167) (x := (((100 : Int32) * (I6 44 34)) + ((10 : Int32) * (I6 58 j7)))) dX9_step_166 rfl rfl ?_
          exact z_iret dX9_step_167 rfl rfl ⟨Nat.le_refl _, Nat.le_refl _⟩ ⟨_, _, _, rfl, rfl, h⟩
        · replace h := h.2 c10
          refine z_iconst (pc' := 92) (v := 1) dX9_step_91 rfl (by decide) ?_
          refine z_goto (pc' := 96) dX9_step_92 (by decide) ?_
          refine z_istore (pc' := 98) (ls' := [some (.ref 44), some (.int x1), some (.int y6), some (.int (((100 : Int32) * (I6 44 34)) + ((10 : Int32) * (I6 58 j7)))), some (.int (1 : Int32))]) dX9_step_96 rfl (by decide) rfl ?_
          refine z_aload_n (pc' := 99) (x := 44) dX9_step_98 rfl rfl ?_
          refine z_iload (pc' := 101) (x := (1 : Int32)) dX9_step_99 rfl rfl ?_
          refine z_if_eq (pc' := 104) (tgt := 122) dX9_step_101 rfl (by decide) (fun c => absurd c (by decide)) (fun _ => ?_)
          refine z_aload_n (pc' := 105) (x := 44) dX9_step_104 rfl rfl ?_
          refine z_geti (pc' := 108) (x := (I6 44 33)) dX9_step_105 rfl fl_X9_139 rfl rfl rfl ?_
          refine z_iconst (pc' := 109) (v := 1) dX9_step_108 rfl (by decide) ?_
          refine z_aload_n (pc' := 110) (x := 44) dX9_step_109 rfl rfl ?_
          refine z_getr (pc' := 113) (x := 58) dX9_step_110 rfl fl_X9_50 rfl rfl rfl ?_
          refine z_iload_n (pc' := 114) (x := y6) dX9_step_113 rfl rfl ?_
          refine z_iald (pc' := 115) (x := (I6 58 j7)) (j := j7) dX9_step_114 rfl rfl (by decide) ha7 hb7 rfl ?_
          refine z_ishl (pc' := 116) dX9_step_115 rfl ?_
          refine z_iconst (pc' := 117) (v := -1) dX9_step_116 rfl (by decide) ?_
          refine z_ixor (pc' := 118) dX9_step_117 rfl ?_
          refine z_iand (pc' := 119) dX9_step_118 rfl ?_
          refine z_goto (pc' := 126) dX9_step_119 (by decide) ?_
          refine z_puti (pc' := 129) (w' := zs (xI I6 44 33 ((I6 44 33) &&& (((1 : Int32) <<< ((I6 58 j7) &&& 31)) ^^^ (-1 : Int32)))) L6) dX9_step_126 rfl fl_X9_139 rfl rfl rfl rfl rfl rfl ?_
          refine z_aload_n (pc' := 130) (x := 44) dX9_step_129 rfl rfl ?_
          refine z_aload_n (pc' := 131) (x := 44) dX9_step_130 rfl rfl ?_
          refine z_aload_n (pc' := 132) (x := 44) dX9_step_131 rfl rfl ?_
          refine z_geti (pc' := 135) (x := (I6 44 34)) dX9_step_132 rfl fl_X9_313 rfl rfl rfl ?_
          refine z_aload_n (pc' := 136) (x := 44) dX9_step_135 rfl rfl ?_
          refine z_geti (pc' := 139) (x := ((I6 44 33) &&& (((1 : Int32) <<< ((I6 58 j7) &&& 31)) ^^^ (-1 : Int32)))) dX9_step_136 rfl fl_X9_139 rfl rfl rfl ?_
          obtain ⟨d12, P12, hd12, hC12, h⟩ := h
          refine z_callV (pc' := 142) (M' := mX9_nextOf) (As := [.int (I6 44 34), .int ((I6 44 33) &&& (((1 : Int32) <<< ((I6 58 j7) &&& 31)) ^^^ (-1 : Int32)))]) dX9_step_139 rfl ml_X9_204 me_X9_nextOf hC12 rfl (by decide) rfl rfl hd12 (Nat.le_of_ble_eq_true rfl) ⟨Nat.le_refl _, Nat.le_refl _⟩ rfl ?_
          rintro _ _ ⟨y12, I12, L12, rfl, rfl, hP12⟩
          replace h := h y12 I12 L12 hP12
          refine z_puti (pc' := 145) (w' := zs (xI I12 44 34 y12) L12) dX9_step_142 rfl fl_X9_313 rfl rfl rfl rfl rfl rfl ?_
          refine z_aload_n (pc' := 146) (x := 44) dX9_step_145 rfl rfl ?_
          refine z_dup (pc' := 147) dX9_step_146 rfl rfl ?_
          refine z_geti (pc' := 150) (x := (I12 44 35)) dX9_step_147 rfl fl_X9_316 rfl rfl rfl ?_
          refine z_iconst (pc' := 151) (v := 1) dX9_step_150 rfl (by decide) ?_
          refine z_iadd (pc' := 152) dX9_step_151 rfl ?_
          refine z_puti (pc' := 155) (w' := zs (xI (xI I12 44 34 y12) 44 35 ((I12 44 35) + (1 : Int32))) L12) dX9_step_152 rfl fl_X9_316 rfl rfl rfl rfl rfl rfl ?_
          refine z_iload (pc' := 157) (x := (1 : Int32)) dX9_step_155 rfl rfl ?_
          refine z_if_eq (pc' := 160) (tgt := 166) dX9_step_157 rfl (by decide) (fun c => absurd c (by decide)) (fun _ => ?_)
          refine z_iload_n (pc' := 161) (x := (((100 : Int32) * (I6 44 34)) + ((10 : Int32) * (I6 58 j7)))) dX9_step_160 rfl rfl ?_
          refine z_iconst (pc' := 162) (v := 1) dX9_step_161 rfl (by decide) ?_
          refine z_iadd (pc' := 163) dX9_step_162 rfl ?_
          refine z_goto (pc' := 167) dX9_step_163 (by decide) ?_
          exact z_iret dX9_step_167 rfl rfl ⟨Nat.le_refl _, Nat.le_refl _⟩ ⟨_, _, _, rfl, rfl, h⟩
    · replace h := h.2 c4
      refine z_bipush (pc' := 31) (v := -5) dX9_step_29 rfl (by decide) ?_
      exact z_iret dX9_step_31 rfl rfl ⟨Nat.le_refl _, Nat.le_refl _⟩ ⟨_, _, _, rfl, rfl, h⟩
  · replace h := h.2 c2
    refine z_iconst (pc' := 13) (v := -1) dX9_step_12 rfl (by decide) ?_
    exact z_iret dX9_step_13 rfl rfl ⟨Nat.le_refl _, Nat.le_refl _⟩ ⟨_, _, _, rfl, rfl, h⟩
set_option maxHeartbeats 4000000 in
set_option maxRecDepth 100000 in
theorem t_X9_anew {l : Launch} {G : zG} {d : Nat} {P : Int32 → zIM → zLM → Prop} {I : zIM} {L : zLM}   (h : ∃ (d1 : Nat) (P1 : Int32 → zIM → zLM → Prop), d1 + 1 ≤ d ∧ zCi l G d1 mX9_all [.ref 44] I L P1 ∧ ∀ (y1 : Int32) (I1 : zIM) (L1 : zLM), P1 y1 I1 L1 → (P (I 44 35) (xI (xI (xI I1 44 33 y1) 44 34 (I1 49 0)) 44 35 (0 : Int32)) L1)) : zCi l G d mX9_anew [.ref 44] I L P := by
  refine zCn.of (ls := [some (.ref 44), none]) (by decide) (Nat.le_of_ble_eq_true rfl) rfl ?_
  refine z_aload_n (pc' := 1) (x := 44) dX9_anew_0 rfl rfl ?_
  refine z_geti (pc' := 4) (x := (I 44 35)) dX9_anew_1 rfl fl_X9_316 rfl rfl rfl ?_
  refine z_istore_n (pc' := 5) (ls' := [some (.ref 44), some (.int (I 44 35))]) dX9_anew_4 rfl (by decide) rfl ?_
  refine z_aload_n (pc' := 6) (x := 44) dX9_anew_5 rfl rfl ?_
  refine z_aload_n (pc' := 7) (x := 44) dX9_anew_6 rfl rfl ?_
  obtain ⟨d1, P1, hd1, hC1, h⟩ := h
  refine z_callV (pc' := 10) (M' := mX9_all) (As := []) dX9_anew_7 rfl ml_X9_225 me_X9_all hC1 rfl (by decide) rfl rfl hd1 (Nat.le_of_ble_eq_true rfl) ⟨Nat.le_refl _, Nat.le_refl _⟩ rfl ?_
  rintro _ _ ⟨y1, I1, L1, rfl, rfl, hP1⟩
  replace h := h y1 I1 L1 hP1
  refine z_puti (pc' := 13) (w' := zs (xI I1 44 33 y1) L1) dX9_anew_10 rfl fl_X9_139 rfl rfl rfl rfl rfl rfl ?_
  refine z_aload_n (pc' := 14) (x := 44) dX9_anew_13 rfl rfl ?_
  refine z_aload_n (pc' := 15) (x := 44) dX9_anew_14 rfl rfl ?_
  refine z_getr (pc' := 18) (x := 49) dX9_anew_15 rfl fl_X9_22 rfl rfl rfl ?_
  refine z_iconst (pc' := 19) (v := 0) dX9_anew_18 rfl (by decide) ?_
  refine z_iald (pc' := 20) (x := (I1 49 0)) (j := 0) dX9_anew_19 rfl rfl (by decide) rfl (by decide) rfl ?_
  refine z_puti (pc' := 23) (w' := zs (xI (xI I1 44 33 y1) 44 34 (I1 49 0)) L1) dX9_anew_20 rfl fl_X9_313 rfl rfl rfl rfl rfl rfl ?_
  refine z_aload_n (pc' := 24) (x := 44) dX9_anew_23 rfl rfl ?_
  refine z_iconst (pc' := 25) (v := 0) dX9_anew_24 rfl (by decide) ?_
  refine z_puti (pc' := 28) (w' := zs (xI (xI (xI I1 44 33 y1) 44 34 (I1 49 0)) 44 35 (0 : Int32)) L1) dX9_anew_25 rfl fl_X9_316 rfl rfl rfl rfl rfl rfl ?_
  refine z_iload_n (pc' := 29) (x := (I 44 35)) dX9_anew_28 rfl rfl ?_
  exact z_iret dX9_anew_29 rfl rfl ⟨Nat.le_refl _, Nat.le_refl _⟩ ⟨_, _, _, rfl, rfl, h⟩
set_option maxHeartbeats 4000000 in
set_option maxRecDepth 100000 in
theorem t_X9_image {l : Launch} {G : zG} {d : Nat} {P : Int32 → zIM → zLM → Prop} {I : zIM} {L : zLM}   (h : P (I 44 35) (xI (xI (xI (xI I 44 36 (1 : Int32)) 44 37 (I 44 33)) 44 38 (I 44 34)) 44 39 (I 44 35)) L) : zCi l G d mX9_image [.ref 44] I L P := by
  refine zCn.of (ls := [some (.ref 44)]) (by decide) (Nat.le_of_ble_eq_true rfl) rfl ?_
  refine z_aload_n (pc' := 1) (x := 44) dX9_image_0 rfl rfl ?_
  refine z_iconst (pc' := 2) (v := 1) dX9_image_1 rfl (by decide) ?_
  refine z_puti (pc' := 5) (w' := zs (xI I 44 36 (1 : Int32)) L) dX9_image_2 rfl fl_X9_309 rfl rfl rfl rfl rfl rfl ?_
  refine z_aload_n (pc' := 6) (x := 44) dX9_image_5 rfl rfl ?_
  refine z_aload_n (pc' := 7) (x := 44) dX9_image_6 rfl rfl ?_
  refine z_geti (pc' := 10) (x := (I 44 33)) dX9_image_7 rfl fl_X9_139 rfl rfl rfl ?_
  refine z_puti (pc' := 13) (w' := zs (xI (xI I 44 36 (1 : Int32)) 44 37 (I 44 33)) L) dX9_image_10 rfl fl_X9_321 rfl rfl rfl rfl rfl rfl ?_
  refine z_aload_n (pc' := 14) (x := 44) dX9_image_13 rfl rfl ?_
  refine z_aload_n (pc' := 15) (x := 44) dX9_image_14 rfl rfl ?_
  refine z_geti (pc' := 18) (x := (I 44 34)) dX9_image_15 rfl fl_X9_313 rfl rfl rfl ?_
  refine z_puti (pc' := 21) (w' := zs (xI (xI (xI I 44 36 (1 : Int32)) 44 37 (I 44 33)) 44 38 (I 44 34)) L) dX9_image_18 rfl fl_X9_324 rfl rfl rfl rfl rfl rfl ?_
  refine z_aload_n (pc' := 22) (x := 44) dX9_image_21 rfl rfl ?_
  refine z_aload_n (pc' := 23) (x := 44) dX9_image_22 rfl rfl ?_
  refine z_geti (pc' := 26) (x := (I 44 35)) dX9_image_23 rfl fl_X9_316 rfl rfl rfl ?_
  refine z_puti (pc' := 29) (w' := zs (xI (xI (xI (xI I 44 36 (1 : Int32)) 44 37 (I 44 33)) 44 38 (I 44 34)) 44 39 (I 44 35)) L) dX9_image_26 rfl fl_X9_327 rfl rfl rfl rfl rfl rfl ?_
  refine z_aload_n (pc' := 30) (x := 44) dX9_image_29 rfl rfl ?_
  refine z_geti (pc' := 33) (x := (I 44 35)) dX9_image_30 rfl fl_X9_316 rfl rfl rfl ?_
  exact z_iret dX9_image_33 rfl rfl ⟨Nat.le_refl _, Nat.le_refl _⟩ ⟨_, _, _, rfl, rfl, h⟩
set_option maxHeartbeats 4000000 in
set_option maxRecDepth 100000 in
theorem t_X9_back {l : Launch} {G : zG} {d : Nat} {P : Int32 → zIM → zLM → Prop} {I : zIM} {L : zLM}   (h : ((¬ (I 44 36) = 0 → (P (I 44 39) (xI (xI (xI I 44 33 (I 44 37)) 44 34 (I 44 38)) 44 35 (I 44 39)) L)) ∧ ((I 44 36) = 0 → (P (-5 : Int32) I L)))) : zCi l G d mX9_back [.ref 44] I L P := by
  refine zCn.of (ls := [some (.ref 44)]) (by decide) (Nat.le_of_ble_eq_true rfl) rfl ?_
  refine z_aload_n (pc' := 1) (x := 44) dX9_back_0 rfl rfl ?_
  refine z_geti (pc' := 4) (x := (I 44 36)) dX9_back_1 rfl fl_X9_309 rfl rfl rfl ?_
  refine z_if_ne (pc' := 7) (tgt := 10) dX9_back_4 rfl (by decide) (fun c1 => ?_) (fun c1 => ?_)
  · replace h := h.1 c1
    refine z_aload_n (pc' := 11) (x := 44) dX9_back_10 rfl rfl ?_
    refine z_aload_n (pc' := 12) (x := 44) dX9_back_11 rfl rfl ?_
    refine z_geti (pc' := 15) (x := (I 44 37)) dX9_back_12 rfl fl_X9_321 rfl rfl rfl ?_
    refine z_puti (pc' := 18) (w' := zs (xI I 44 33 (I 44 37)) L) dX9_back_15 rfl fl_X9_139 rfl rfl rfl rfl rfl rfl ?_
    refine z_aload_n (pc' := 19) (x := 44) dX9_back_18 rfl rfl ?_
    refine z_aload_n (pc' := 20) (x := 44) dX9_back_19 rfl rfl ?_
    refine z_geti (pc' := 23) (x := (I 44 38)) dX9_back_20 rfl fl_X9_324 rfl rfl rfl ?_
    refine z_puti (pc' := 26) (w' := zs (xI (xI I 44 33 (I 44 37)) 44 34 (I 44 38)) L) dX9_back_23 rfl fl_X9_313 rfl rfl rfl rfl rfl rfl ?_
    refine z_aload_n (pc' := 27) (x := 44) dX9_back_26 rfl rfl ?_
    refine z_aload_n (pc' := 28) (x := 44) dX9_back_27 rfl rfl ?_
    refine z_geti (pc' := 31) (x := (I 44 39)) dX9_back_28 rfl fl_X9_327 rfl rfl rfl ?_
    refine z_puti (pc' := 34) (w' := zs (xI (xI (xI I 44 33 (I 44 37)) 44 34 (I 44 38)) 44 35 (I 44 39)) L) dX9_back_31 rfl fl_X9_316 rfl rfl rfl rfl rfl rfl ?_
    refine z_aload_n (pc' := 35) (x := 44) dX9_back_34 rfl rfl ?_
    refine z_geti (pc' := 38) (x := (I 44 39)) dX9_back_35 rfl fl_X9_316 rfl rfl rfl ?_
    exact z_iret dX9_back_38 rfl rfl ⟨Nat.le_refl _, Nat.le_refl _⟩ ⟨_, _, _, rfl, rfl, h⟩
  · replace h := h.2 c1
    refine z_bipush (pc' := 9) (v := -5) dX9_back_7 rfl (by decide) ?_
    exact z_iret dX9_back_9 rfl rfl ⟨Nat.le_refl _, Nat.le_refl _⟩ ⟨_, _, _, rfl, rfl, h⟩
set_option maxHeartbeats 4000000 in
set_option maxRecDepth 100000 in
theorem t_X9_isBody {l : Launch} {G : zG} {d : Nat} {P : Int32 → zIM → zLM → Prop} {I : zIM} {L : zLM} {x1 : Int32}  (h : ∃ (d1 : Nat) (P1 : Int32 → zIM → zLM → Prop), d1 + 1 ≤ d ∧ zCi l G d1 mX9_within [.long (x1.toInt64), .long (0 : Int64), .long (((I 44 40) - (1 : Int32)).toInt64)] I L P1 ∧ ∀ (y1 : Int32) (I1 : zIM) (L1 : zLM), P1 y1 I1 L1 → ((y1 = 0 ∨ y1 = 1) ∧ P y1 I1 L1)) : zCi l G d mX9_isBody [.ref 44, .int x1] I L P := by
  refine zCn.of (ls := [some (.ref 44), some (.int x1)]) (by decide) (Nat.le_of_ble_eq_true rfl) rfl ?_
  refine z_iload_n (pc' := 1) (x := x1) dX9_isBody_0 rfl rfl ?_
  refine z_i2l (pc' := 2) dX9_isBody_1 rfl ?_
  refine z_lconst (pc' := 3) (v := 0) dX9_isBody_2 rfl (by decide) ?_
  refine z_aload_n (pc' := 4) (x := 44) dX9_isBody_3 rfl rfl ?_
  refine z_geti (pc' := 7) (x := (I 44 40)) dX9_isBody_4 rfl fl_X9_330 rfl rfl rfl ?_
  refine z_iconst (pc' := 8) (v := 1) dX9_isBody_7 rfl (by decide) ?_
  refine z_isub (pc' := 9) dX9_isBody_8 rfl ?_
  refine z_i2l (pc' := 10) dX9_isBody_9 rfl ?_
  obtain ⟨d1, P1, hd1, hC1, h⟩ := h
  refine z_callS (pc' := 13) (M' := mX9_within) (As := [.long (x1.toInt64), .long (0 : Int64), .long (((I 44 40) - (1 : Int32)).toInt64)]) dX9_isBody_10 rfl ml_X9_99 me_X9_within hC1 rfl hd1 (Nat.le_of_ble_eq_true rfl) ⟨Nat.le_refl _, Nat.le_refl _⟩ rfl ?_
  rintro _ _ ⟨y1, I1, L1, rfl, rfl, hP1⟩
  replace h := h y1 I1 L1 hP1
  exact z_iret dX9_isBody_13 rfl (znb h.1) ⟨Nat.le_refl _, Nat.le_refl _⟩ ⟨_, _, _, rfl, rfl, h.2⟩
set_option maxHeartbeats 4000000 in
set_option maxRecDepth 100000 in
theorem t_X9_kindOf {l : Launch} {G : zG} {d : Nat} {P : Int32 → zIM → zLM → Prop} {I : zIM} {L : zLM} {x1 : Int32}  (h : ∃ j1 : Nat, x1 = nI j1 ∧ j1 < 50 ∧ (P (I 63 j1) I L)) : zCi l G d mX9_kindOf [.ref 44, .int x1] I L P := by
  refine zCn.of (ls := [some (.ref 44), some (.int x1)]) (by decide) (Nat.le_of_ble_eq_true rfl) rfl ?_
  refine z_aload_n (pc' := 1) (x := 44) dX9_kindOf_0 rfl rfl ?_
  refine z_getr (pc' := 4) (x := 63) dX9_kindOf_1 rfl fl_X9_65 rfl rfl rfl ?_
  refine z_iload_n (pc' := 5) (x := x1) dX9_kindOf_4 rfl rfl ?_
  obtain ⟨j1, ha1, hb1, h⟩ := h
  refine z_iald (pc' := 6) (x := (I 63 j1)) (j := j1) dX9_kindOf_5 rfl rfl (by decide) ha1 hb1 rfl ?_
  exact z_iret dX9_kindOf_6 rfl rfl ⟨Nat.le_refl _, Nat.le_refl _⟩ ⟨_, _, _, rfl, rfl, h⟩
set_option maxHeartbeats 4000000 in
set_option maxRecDepth 100000 in
theorem t_X9_body {l : Launch} {G : zG} {d : Nat} {P : Int32 → zIM → zLM → Prop} {I : zIM} {L : zLM} {x1 : Int32}  (h : ∃ (d1 : Nat) (P1 : Int32 → zIM → zLM → Prop), d1 + 1 ≤ d ∧ zCi l G d1 mX9_within [.long (x1.toInt64), .long (0 : Int64), .long (7 : Int64)] I L P1 ∧ ∀ (y1 : Int32) (I1 : zIM) (L1 : zLM), P1 y1 I1 L1 → (((¬ y1 = 0 → (((¬ (I1 44 40) = (50 : Int32) → (∃ j4 : Nat, (I1 44 40) = nI j4 ∧ j4 < 50 ∧ (P (((I1 44 40) + (1 : Int32)) - (1 : Int32)) (xI (xI I1 63 j4 x1) 44 40 ((I1 44 40) + (1 : Int32))) L1))) ∧ ((I1 44 40) = (50 : Int32) → (P (-3 : Int32) I1 L1))))) ∧ (y1 = 0 → (P (-1 : Int32) I1 L1))))) : zCi l G d mX9_body [.ref 44, .int x1] I L P := by
  refine zCn.of (ls := [some (.ref 44), some (.int x1)]) (by decide) (Nat.le_of_ble_eq_true rfl) rfl ?_
  refine z_iload_n (pc' := 1) (x := x1) dX9_body_0 rfl rfl ?_
  refine z_i2l (pc' := 2) dX9_body_1 rfl ?_
  refine z_lconst (pc' := 3) (v := 0) dX9_body_2 rfl (by decide) ?_
  refine z_ldc2 (pc' := 6) (v := 7) dX9_body_3 rfl kl_X9_333 ?_
  obtain ⟨d1, P1, hd1, hC1, h⟩ := h
  refine z_callS (pc' := 9) (M' := mX9_within) (As := [.long (x1.toInt64), .long (0 : Int64), .long (7 : Int64)]) dX9_body_6 rfl ml_X9_99 me_X9_within hC1 rfl hd1 (Nat.le_of_ble_eq_true rfl) ⟨Nat.le_refl _, Nat.le_refl _⟩ rfl ?_
  rintro _ _ ⟨y1, I1, L1, rfl, rfl, hP1⟩
  replace h := h y1 I1 L1 hP1
  refine z_if_ne (pc' := 12) (tgt := 14) dX9_body_9 rfl (by decide) (fun c2 => ?_) (fun c2 => ?_)
  · replace h := h.1 c2
    refine z_aload_n (pc' := 15) (x := 44) dX9_body_14 rfl rfl ?_
    refine z_geti (pc' := 18) (x := (I1 44 40)) dX9_body_15 rfl fl_X9_330 rfl rfl rfl ?_
    refine z_bipush (pc' := 20) (v := 50) dX9_body_18 rfl (by decide) ?_
    refine z_icmp_ne (pc' := 23) (tgt := 26) dX9_body_20 rfl (by decide) (fun c3 => ?_) (fun c3 => ?_)
    · replace h := h.1 c3
      refine z_aload_n (pc' := 27) (x := 44) dX9_body_26 rfl rfl ?_
      refine z_getr (pc' := 30) (x := 63) dX9_body_27 rfl fl_X9_65 rfl rfl rfl ?_
      refine z_aload_n (pc' := 31) (x := 44) dX9_body_30 rfl rfl ?_
      refine z_geti (pc' := 34) (x := (I1 44 40)) dX9_body_31 rfl fl_X9_330 rfl rfl rfl ?_
      refine z_iload_n (pc' := 35) (x := x1) dX9_body_34 rfl rfl ?_
      obtain ⟨j4, ha4, hb4, h⟩ := h
      refine z_iast (pc' := 36) (j := j4) (w' := zs (xI I1 63 j4 x1) L1) dX9_body_35 rfl rfl (by decide) ha4 hb4 rfl ?_
      refine z_aload_n (pc' := 37) (x := 44) dX9_body_36 rfl rfl ?_
      refine z_dup (pc' := 38) dX9_body_37 rfl rfl ?_
      refine z_geti (pc' := 41) (x := (I1 44 40)) dX9_body_38 rfl fl_X9_330 rfl rfl rfl ?_
      refine z_iconst (pc' := 42) (v := 1) dX9_body_41 rfl (by decide) ?_
      refine z_iadd (pc' := 43) dX9_body_42 rfl ?_
      refine z_puti (pc' := 46) (w' := zs (xI (xI I1 63 j4 x1) 44 40 ((I1 44 40) + (1 : Int32))) L1) dX9_body_43 rfl fl_X9_330 rfl rfl rfl rfl rfl rfl ?_
      refine z_aload_n (pc' := 47) (x := 44) dX9_body_46 rfl rfl ?_
      refine z_geti (pc' := 50) (x := ((I1 44 40) + (1 : Int32))) dX9_body_47 rfl fl_X9_330 rfl rfl rfl ?_
      refine z_iconst (pc' := 51) (v := 1) dX9_body_50 rfl (by decide) ?_
      refine z_isub (pc' := 52) dX9_body_51 rfl ?_
      exact z_iret dX9_body_52 rfl rfl ⟨Nat.le_refl _, Nat.le_refl _⟩ ⟨_, _, _, rfl, rfl, h⟩
    · replace h := h.2 c3
      refine z_bipush (pc' := 25) (v := -3) dX9_body_23 rfl (by decide) ?_
      exact z_iret dX9_body_25 rfl rfl ⟨Nat.le_refl _, Nat.le_refl _⟩ ⟨_, _, _, rfl, rfl, h⟩
  · replace h := h.2 c2
    refine z_iconst (pc' := 13) (v := -1) dX9_body_12 rfl (by decide) ?_
    exact z_iret dX9_body_13 rfl rfl ⟨Nat.le_refl _, Nat.le_refl _⟩ ⟨_, _, _, rfl, rfl, h⟩
set_option maxHeartbeats 4000000 in
set_option maxRecDepth 100000 in
theorem t_X9_above {l : Launch} {G : zG} {d : Nat} {P : Int32 → zIM → zLM → Prop} {I : zIM} {L : zLM} {x0 : Int32}  (h : ((¬ x0 = (3 : Int32) → (((¬ x0 = (4 : Int32) → (((¬ x0 = (5 : Int32) → (((¬ x0 = (7 : Int32) → (P (0 : Int32) I L)) ∧ (x0 = (7 : Int32) → (P (4 : Int32) I L))))) ∧ (x0 = (5 : Int32) → (P (3 : Int32) I L))))) ∧ (x0 = (4 : Int32) → (P (1 : Int32) I L))))) ∧ (x0 = (3 : Int32) → (P (2 : Int32) I L)))) : zCi l G d mX9_above [.int x0] I L P := by
  refine zCn.of (ls := [some (.int x0)]) (by decide) (Nat.le_of_ble_eq_true rfl) rfl ?_
  refine z_iload_n (pc' := 1) (x := x0) dX9_above_0 rfl rfl ?_
  refine z_iconst (pc' := 2) (v := 3) dX9_above_1 rfl (by decide) ?_
  refine z_icmp_ne (pc' := 5) (tgt := 9) dX9_above_2 rfl (by decide) (fun c1 => ?_) (fun c1 => ?_)
  · replace h := h.1 c1
    refine z_iload_n (pc' := 10) (x := x0) dX9_above_9 rfl rfl ?_
    refine z_iconst (pc' := 11) (v := 4) dX9_above_10 rfl (by decide) ?_
    refine z_icmp_ne (pc' := 14) (tgt := 18) dX9_above_11 rfl (by decide) (fun c2 => ?_) (fun c2 => ?_)
    · replace h := h.1 c2
      refine z_iload_n (pc' := 19) (x := x0) dX9_above_18 rfl rfl ?_
      refine z_iconst (pc' := 20) (v := 5) dX9_above_19 rfl (by decide) ?_
      refine z_icmp_ne (pc' := 23) (tgt := 27) dX9_above_20 rfl (by decide) (fun c3 => ?_) (fun c3 => ?_)
      · replace h := h.1 c3
        refine z_iload_n (pc' := 28) (x := x0) dX9_above_27 rfl rfl ?_
        refine z_bipush (pc' := 30) (v := 7) dX9_above_28 rfl (by decide) ?_
        refine z_icmp_ne (pc' := 33) (tgt := 37) dX9_above_30 rfl (by decide) (fun c4 => ?_) (fun c4 => ?_)
        · replace h := h.1 c4
          refine z_iconst (pc' := 38) (v := 0) dX9_above_37 rfl (by decide) ?_
          exact z_iret dX9_above_38 rfl rfl ⟨Nat.le_refl _, Nat.le_refl _⟩ ⟨_, _, _, rfl, rfl, h⟩
        · replace h := h.2 c4
          refine z_iconst (pc' := 34) (v := 4) dX9_above_33 rfl (by decide) ?_
          refine z_goto (pc' := 38) dX9_above_34 (by decide) ?_
          exact z_iret dX9_above_38 rfl rfl ⟨Nat.le_refl _, Nat.le_refl _⟩ ⟨_, _, _, rfl, rfl, h⟩
      · replace h := h.2 c3
        refine z_iconst (pc' := 24) (v := 3) dX9_above_23 rfl (by decide) ?_
        refine z_goto (pc' := 38) dX9_above_24 (by decide) ?_
        exact z_iret dX9_above_38 rfl rfl ⟨Nat.le_refl _, Nat.le_refl _⟩ ⟨_, _, _, rfl, rfl, h⟩
    · replace h := h.2 c2
      refine z_iconst (pc' := 15) (v := 1) dX9_above_14 rfl (by decide) ?_
      refine z_goto (pc' := 38) dX9_above_15 (by decide) ?_
      exact z_iret dX9_above_38 rfl rfl ⟨Nat.le_refl _, Nat.le_refl _⟩ ⟨_, _, _, rfl, rfl, h⟩
  · replace h := h.2 c1
    refine z_iconst (pc' := 6) (v := 2) dX9_above_5 rfl (by decide) ?_
    refine z_goto (pc' := 38) dX9_above_6 (by decide) ?_
    exact z_iret dX9_above_38 rfl rfl ⟨Nat.le_refl _, Nat.le_refl _⟩ ⟨_, _, _, rfl, rfl, h⟩
set_option maxHeartbeats 4000000 in
set_option maxRecDepth 100000 in
theorem t_X9_begins {l : Launch} {G : zG} {d : Nat} {P : zIM → zLM → Prop} {I : zIM} {L : zLM} {x1 : Int32}  (h : (((24 : Int32) ≤ (I 44 43) → (P (xI I 44 43 ((I 44 43) + (1 : Int32))) L)) ∧ (¬ (24 : Int32) ≤ (I 44 43) → (∃ j2 : Nat, (I 44 43) = nI j2 ∧ j2 < 24 ∧ (P (xI (xI I 64 j2 x1) 44 43 ((I 44 43) + (1 : Int32))) L))))) : zCv l G d mX9_begins [.ref 44, .int x1] I L P := by
  refine zCn.of (ls := [some (.ref 44), some (.int x1)]) (by decide) (Nat.le_of_ble_eq_true rfl) rfl ?_
  refine z_aload_n (pc' := 1) (x := 44) dX9_begins_0 rfl rfl ?_
  refine z_geti (pc' := 4) (x := (I 44 43)) dX9_begins_1 rfl fl_X9_335 rfl rfl rfl ?_
  refine z_bipush (pc' := 6) (v := 24) dX9_begins_4 rfl (by decide) ?_
  refine z_icmp_ge (pc' := 9) (tgt := 19) dX9_begins_6 rfl (by decide) (fun c1 => ?_) (fun c1 => ?_)
  · replace h := h.1 c1
    refine z_aload_n (pc' := 20) (x := 44) dX9_begins_19 rfl rfl ?_
    refine z_dup (pc' := 21) dX9_begins_20 rfl rfl ?_
    refine z_geti (pc' := 24) (x := (I 44 43)) dX9_begins_21 rfl fl_X9_335 rfl rfl rfl ?_
    refine z_iconst (pc' := 25) (v := 1) dX9_begins_24 rfl (by decide) ?_
    refine z_iadd (pc' := 26) dX9_begins_25 rfl ?_
    refine z_puti (pc' := 29) (w' := zs (xI I 44 43 ((I 44 43) + (1 : Int32))) L) dX9_begins_26 rfl fl_X9_335 rfl rfl rfl rfl rfl rfl ?_
    exact z_vret dX9_begins_29 rfl ⟨Nat.le_refl _, Nat.le_refl _⟩ ⟨_, _, rfl, rfl, h⟩
  · replace h := h.2 c1
    refine z_aload_n (pc' := 10) (x := 44) dX9_begins_9 rfl rfl ?_
    refine z_getr (pc' := 13) (x := 64) dX9_begins_10 rfl fl_X9_68 rfl rfl rfl ?_
    refine z_aload_n (pc' := 14) (x := 44) dX9_begins_13 rfl rfl ?_
    refine z_geti (pc' := 17) (x := (I 44 43)) dX9_begins_14 rfl fl_X9_335 rfl rfl rfl ?_
    refine z_iload_n (pc' := 18) (x := x1) dX9_begins_17 rfl rfl ?_
    obtain ⟨j2, ha2, hb2, h⟩ := h
    refine z_iast (pc' := 19) (j := j2) (w' := zs (xI I 64 j2 x1) L) dX9_begins_18 rfl rfl (by decide) ha2 hb2 rfl ?_
    refine z_aload_n (pc' := 20) (x := 44) dX9_begins_19 rfl rfl ?_
    refine z_dup (pc' := 21) dX9_begins_20 rfl rfl ?_
    refine z_geti (pc' := 24) (x := (I 44 43)) dX9_begins_21 rfl fl_X9_335 rfl rfl rfl ?_
    refine z_iconst (pc' := 25) (v := 1) dX9_begins_24 rfl (by decide) ?_
    refine z_iadd (pc' := 26) dX9_begins_25 rfl ?_
    refine z_puti (pc' := 29) (w' := zs (xI (xI I 64 j2 x1) 44 43 ((I 44 43) + (1 : Int32))) L) dX9_begins_26 rfl fl_X9_335 rfl rfl rfl rfl rfl rfl ?_
    exact z_vret dX9_begins_29 rfl ⟨Nat.le_refl _, Nat.le_refl _⟩ ⟨_, _, rfl, rfl, h⟩
set_option maxHeartbeats 4000000 in
set_option maxRecDepth 100000 in
theorem t_X9_aimsAs {l : Launch} {G : zG} {d : Nat} {P : Int32 → zIM → zLM → Prop} {I : zIM} {L : zLM} {x1 : Int32} {x2 : Int32}  (h : ((x1 = (1 : Int32) → (∃ (d2 : Nat) (P2 : zIM → zLM → Prop), d2 + 1 ≤ d ∧ zCv l G d2 mX9_begins [.ref 44, .int (20 : Int32)] I L P2 ∧ ∀ (I2 : zIM) (L2 : zLM), P2 I2 L2 → (∃ (d3 : Nat) (P3 : Int32 → zIM → zLM → Prop), d3 + 1 ≤ d ∧ zCi l G d3 mX9_aimsAs [.ref 44, .int (0 : Int32), .int x2] I2 L2 P3 ∧ ∀ (y3 : Int32) (I3 : zIM) (L3 : zLM), P3 y3 I3 L3 → (P (y3 + (3 : Int32)) I3 L3)))) ∧ (¬ x1 = (1 : Int32) → (((x1 = (4 : Int32) → (∃ (d5 : Nat) (P5 : zIM → zLM → Prop), d5 + 1 ≤ d ∧ zCv l G d5 mX9_begins [.ref 44, .int (20 : Int32)] I L P5 ∧ ∀ (I5 : zIM) (L5 : zLM), P5 I5 L5 → (∃ (d6 : Nat) (P6 : Int32 → zIM → zLM → Prop), d6 + 1 ≤ d ∧ zCi l G d6 mX9_aimsAs [.ref 44, .int (0 : Int32), .int x2] I5 L5 P6 ∧ ∀ (y6 : Int32) (I6 : zIM) (L6 : zLM), P6 y6 I6 L6 → (P (y6 + (3 : Int32)) I6 L6)))) ∧ (¬ x1 = (4 : Int32) → (((¬ x1 = (7 : Int32) → (((¬ x1 = (6 : Int32) → (∃ (d9 : Nat) (P9 : zIM → zLM → Prop), d9 + 1 ≤ d ∧ zCv l G d9 mX9_begins [.ref 44, .int (1 : Int32)] I L P9 ∧ ∀ (I9 : zIM) (L9 : zLM), P9 I9 L9 → (P (x2 + (I9 44 45)) I9 L9))) ∧ (x1 = (6 : Int32) → (∃ (d10 : Nat) (P10 : zIM → zLM → Prop), d10 + 1 ≤ d ∧ zCv l G d10 mX9_begins [.ref 44, .int (70 : Int32)] I L P10 ∧ ∀ (I10 : zIM) (L10 : zLM), P10 I10 L10 → (∃ (d11 : Nat) (P11 : Int32 → zIM → zLM → Prop), d11 + 1 ≤ d ∧ zCi l G d11 mX9_aimsAs [.ref 44, .int (0 : Int32), .int x2] I10 L10 P11 ∧ ∀ (y11 : Int32) (I11 : zIM) (L11 : zLM), P11 y11 I11 L11 → (P (y11 * (2 : Int32)) I11 L11))))))) ∧ (x1 = (7 : Int32) → (∃ (d12 : Nat) (P12 : zIM → zLM → Prop), d12 + 1 ≤ d ∧ zCv l G d12 mX9_begins [.ref 44, .int (20 : Int32)] I L P12 ∧ ∀ (I12 : zIM) (L12 : zLM), P12 I12 L12 → (∃ (d13 : Nat) (P13 : Int32 → zIM → zLM → Prop), d13 + 1 ≤ d ∧ zCi l G d13 mX9_aimsAs [.ref 44, .int (0 : Int32), .int x2] I12 L12 P13 ∧ ∀ (y13 : Int32) (I13 : zIM) (L13 : zLM), P13 y13 I13 L13 → (P (y13 + (3 : Int32)) I13 L13)))))))))))) : zCi l G d mX9_aimsAs [.ref 44, .int x1, .int x2] I L P := by
  refine zCn.of (ls := [some (.ref 44), some (.int x1), some (.int x2)]) (by decide) (Nat.le_of_ble_eq_true rfl) rfl ?_
  refine z_iload_n (pc' := 1) (x := x1) dX9_aimsAs_0 rfl rfl ?_
  refine z_iconst (pc' := 2) (v := 1) dX9_aimsAs_1 rfl (by decide) ?_
  refine z_icmp_eq (pc' := 5) (tgt := 16) dX9_aimsAs_2 rfl (by decide) (fun c1 => ?_) (fun c1 => ?_)
  · replace h := h.1 c1
    refine z_aload_n (pc' := 17) (x := 44) dX9_aimsAs_16 rfl rfl ?_
    refine z_bipush (pc' := 19) (v := 20) dX9_aimsAs_17 rfl (by decide) ?_
    obtain ⟨d2, P2, hd2, hC2, h⟩ := h
    refine z_callV (pc' := 22) (M' := mX9_begins) (As := [.int (20 : Int32)]) dX9_aimsAs_19 rfl ml_X9_338 me_X9_begins hC2 rfl (by decide) rfl rfl hd2 (Nat.le_of_ble_eq_true rfl) ⟨Nat.le_refl _, Nat.le_refl _⟩ rfl ?_
    rintro _ _ ⟨I2, L2, rfl, rfl, hP2⟩
    replace h := h I2 L2 hP2
    refine z_aload_n (pc' := 23) (x := 44) dX9_aimsAs_22 rfl rfl ?_
    refine z_iconst (pc' := 24) (v := 0) dX9_aimsAs_23 rfl (by decide) ?_
    refine z_iload_n (pc' := 25) (x := x2) dX9_aimsAs_24 rfl rfl ?_
    obtain ⟨d3, P3, hd3, hC3, h⟩ := h
    refine z_callV (pc' := 28) (M' := mX9_aimsAs) (As := [.int (0 : Int32), .int x2]) dX9_aimsAs_25 rfl ml_X9_341 me_X9_aimsAs hC3 rfl (by decide) rfl rfl hd3 (Nat.le_of_ble_eq_true rfl) ⟨Nat.le_refl _, Nat.le_refl _⟩ rfl ?_
    rintro _ _ ⟨y3, I3, L3, rfl, rfl, hP3⟩
    replace h := h y3 I3 L3 hP3
    refine z_iconst (pc' := 29) (v := 3) dX9_aimsAs_28 rfl (by decide) ?_
    refine z_iadd (pc' := 30) dX9_aimsAs_29 rfl ?_
    exact z_iret dX9_aimsAs_30 rfl rfl ⟨Nat.le_refl _, Nat.le_refl _⟩ ⟨_, _, _, rfl, rfl, h⟩
  · replace h := h.2 c1
    refine z_iload_n (pc' := 6) (x := x1) dX9_aimsAs_5 rfl rfl ?_
    refine z_iconst (pc' := 7) (v := 4) dX9_aimsAs_6 rfl (by decide) ?_
    refine z_icmp_eq (pc' := 10) (tgt := 16) dX9_aimsAs_7 rfl (by decide) (fun c4 => ?_) (fun c4 => ?_)
    · replace h := h.1 c4
      refine z_aload_n (pc' := 17) (x := 44) dX9_aimsAs_16 rfl rfl ?_
      refine z_bipush (pc' := 19) (v := 20) dX9_aimsAs_17 rfl (by decide) ?_
      obtain ⟨d5, P5, hd5, hC5, h⟩ := h
      refine z_callV (pc' := 22) (M' := mX9_begins) (As := [.int (20 : Int32)]) dX9_aimsAs_19 rfl ml_X9_338 me_X9_begins hC5 rfl (by decide) rfl rfl hd5 (Nat.le_of_ble_eq_true rfl) ⟨Nat.le_refl _, Nat.le_refl _⟩ rfl ?_
      rintro _ _ ⟨I5, L5, rfl, rfl, hP5⟩
      replace h := h I5 L5 hP5
      refine z_aload_n (pc' := 23) (x := 44) dX9_aimsAs_22 rfl rfl ?_
      refine z_iconst (pc' := 24) (v := 0) dX9_aimsAs_23 rfl (by decide) ?_
      refine z_iload_n (pc' := 25) (x := x2) dX9_aimsAs_24 rfl rfl ?_
      obtain ⟨d6, P6, hd6, hC6, h⟩ := h
      refine z_callV (pc' := 28) (M' := mX9_aimsAs) (As := [.int (0 : Int32), .int x2]) dX9_aimsAs_25 rfl ml_X9_341 me_X9_aimsAs hC6 rfl (by decide) rfl rfl hd6 (Nat.le_of_ble_eq_true rfl) ⟨Nat.le_refl _, Nat.le_refl _⟩ rfl ?_
      rintro _ _ ⟨y6, I6, L6, rfl, rfl, hP6⟩
      replace h := h y6 I6 L6 hP6
      refine z_iconst (pc' := 29) (v := 3) dX9_aimsAs_28 rfl (by decide) ?_
      refine z_iadd (pc' := 30) dX9_aimsAs_29 rfl ?_
      exact z_iret dX9_aimsAs_30 rfl rfl ⟨Nat.le_refl _, Nat.le_refl _⟩ ⟨_, _, _, rfl, rfl, h⟩
    · replace h := h.2 c4
      refine z_iload_n (pc' := 11) (x := x1) dX9_aimsAs_10 rfl rfl ?_
      refine z_bipush (pc' := 13) (v := 7) dX9_aimsAs_11 rfl (by decide) ?_
      refine z_icmp_ne (pc' := 16) (tgt := 31) dX9_aimsAs_13 rfl (by decide) (fun c7 => ?_) (fun c7 => ?_)
      · replace h := h.1 c7
        refine z_iload_n (pc' := 32) (x := x1) dX9_aimsAs_31 rfl rfl ?_
        refine z_bipush (pc' := 34) (v := 6) dX9_aimsAs_32 rfl (by decide) ?_
        refine z_icmp_ne (pc' := 37) (tgt := 52) dX9_aimsAs_34 rfl (by decide) (fun c8 => ?_) (fun c8 => ?_)
        · replace h := h.1 c8
          refine z_aload_n (pc' := 53) (x := 44) dX9_aimsAs_52 rfl rfl ?_
          refine z_iconst (pc' := 54) (v := 1) dX9_aimsAs_53 rfl (by decide) ?_
          obtain ⟨d9, P9, hd9, hC9, h⟩ := h
          refine z_callV (pc' := 57) (M' := mX9_begins) (As := [.int (1 : Int32)]) dX9_aimsAs_54 rfl ml_X9_338 me_X9_begins hC9 rfl (by decide) rfl rfl hd9 (Nat.le_of_ble_eq_true rfl) ⟨Nat.le_refl _, Nat.le_refl _⟩ rfl ?_
          rintro _ _ ⟨I9, L9, rfl, rfl, hP9⟩
          replace h := h I9 L9 hP9
          refine z_iload_n (pc' := 58) (x := x2) dX9_aimsAs_57 rfl rfl ?_
          refine z_aload_n (pc' := 59) (x := 44) dX9_aimsAs_58 rfl rfl ?_
          refine z_geti (pc' := 62) (x := (I9 44 45)) dX9_aimsAs_59 rfl fl_X9_344 rfl rfl rfl ?_
          refine z_iadd (pc' := 63) dX9_aimsAs_62 rfl ?_
          exact z_iret dX9_aimsAs_63 rfl rfl ⟨Nat.le_refl _, Nat.le_refl _⟩ ⟨_, _, _, rfl, rfl, h⟩
        · replace h := h.2 c8
          refine z_aload_n (pc' := 38) (x := 44) dX9_aimsAs_37 rfl rfl ?_
          refine z_bipush (pc' := 40) (v := 70) dX9_aimsAs_38 rfl (by decide) ?_
          obtain ⟨d10, P10, hd10, hC10, h⟩ := h
          refine z_callV (pc' := 43) (M' := mX9_begins) (As := [.int (70 : Int32)]) dX9_aimsAs_40 rfl ml_X9_338 me_X9_begins hC10 rfl (by decide) rfl rfl hd10 (Nat.le_of_ble_eq_true rfl) ⟨Nat.le_refl _, Nat.le_refl _⟩ rfl ?_
          rintro _ _ ⟨I10, L10, rfl, rfl, hP10⟩
          replace h := h I10 L10 hP10
          refine z_aload_n (pc' := 44) (x := 44) dX9_aimsAs_43 rfl rfl ?_
          refine z_iconst (pc' := 45) (v := 0) dX9_aimsAs_44 rfl (by decide) ?_
          refine z_iload_n (pc' := 46) (x := x2) dX9_aimsAs_45 rfl rfl ?_
          obtain ⟨d11, P11, hd11, hC11, h⟩ := h
          refine z_callV (pc' := 49) (M' := mX9_aimsAs) (As := [.int (0 : Int32), .int x2]) dX9_aimsAs_46 rfl ml_X9_341 me_X9_aimsAs hC11 rfl (by decide) rfl rfl hd11 (Nat.le_of_ble_eq_true rfl) ⟨Nat.le_refl _, Nat.le_refl _⟩ rfl ?_
          rintro _ _ ⟨y11, I11, L11, rfl, rfl, hP11⟩
          replace h := h y11 I11 L11 hP11
          refine z_iconst (pc' := 50) (v := 2) dX9_aimsAs_49 rfl (by decide) ?_
          refine z_imul (pc' := 51) dX9_aimsAs_50 rfl ?_
          exact z_iret dX9_aimsAs_51 rfl rfl ⟨Nat.le_refl _, Nat.le_refl _⟩ ⟨_, _, _, rfl, rfl, h⟩
      · replace h := h.2 c7
        refine z_aload_n (pc' := 17) (x := 44) dX9_aimsAs_16 rfl rfl ?_
        refine z_bipush (pc' := 19) (v := 20) dX9_aimsAs_17 rfl (by decide) ?_
        obtain ⟨d12, P12, hd12, hC12, h⟩ := h
        refine z_callV (pc' := 22) (M' := mX9_begins) (As := [.int (20 : Int32)]) dX9_aimsAs_19 rfl ml_X9_338 me_X9_begins hC12 rfl (by decide) rfl rfl hd12 (Nat.le_of_ble_eq_true rfl) ⟨Nat.le_refl _, Nat.le_refl _⟩ rfl ?_
        rintro _ _ ⟨I12, L12, rfl, rfl, hP12⟩
        replace h := h I12 L12 hP12
        refine z_aload_n (pc' := 23) (x := 44) dX9_aimsAs_22 rfl rfl ?_
        refine z_iconst (pc' := 24) (v := 0) dX9_aimsAs_23 rfl (by decide) ?_
        refine z_iload_n (pc' := 25) (x := x2) dX9_aimsAs_24 rfl rfl ?_
        obtain ⟨d13, P13, hd13, hC13, h⟩ := h
        refine z_callV (pc' := 28) (M' := mX9_aimsAs) (As := [.int (0 : Int32), .int x2]) dX9_aimsAs_25 rfl ml_X9_341 me_X9_aimsAs hC13 rfl (by decide) rfl rfl hd13 (Nat.le_of_ble_eq_true rfl) ⟨Nat.le_refl _, Nat.le_refl _⟩ rfl ?_
        rintro _ _ ⟨y13, I13, L13, rfl, rfl, hP13⟩
        replace h := h y13 I13 L13 hP13
        refine z_iconst (pc' := 29) (v := 3) dX9_aimsAs_28 rfl (by decide) ?_
        refine z_iadd (pc' := 30) dX9_aimsAs_29 rfl ?_
        exact z_iret dX9_aimsAs_30 rfl rfl ⟨Nat.le_refl _, Nat.le_refl _⟩ ⟨_, _, _, rfl, rfl, h⟩
set_option maxHeartbeats 4000000 in
set_option maxRecDepth 100000 in
theorem t_X9_throwsAs {l : Launch} {G : zG} {d : Nat} {P : Int32 → zIM → zLM → Prop} {I : zIM} {L : zLM} {x1 : Int32} {x2 : Int32}  (h : ((x1 = (3 : Int32) → (∃ (d2 : Nat) (P2 : zIM → zLM → Prop), d2 + 1 ≤ d ∧ zCv l G d2 mX9_begins [.ref 44, .int (41 : Int32)] I L P2 ∧ ∀ (I2 : zIM) (L2 : zLM), P2 I2 L2 → (∃ (d3 : Nat) (P3 : Int32 → zIM → zLM → Prop), d3 + 1 ≤ d ∧ zCi l G d3 mX9_throwsAs [.ref 44, .int (2 : Int32), .int (x2 + (1 : Int32))] I2 L2 P3 ∧ ∀ (y3 : Int32) (I3 : zIM) (L3 : zLM), P3 y3 I3 L3 → (P y3 I3 L3)))) ∧ (¬ x1 = (3 : Int32) → (((¬ x1 = (5 : Int32) → (((¬ x1 = (2 : Int32) → (((¬ x1 = (7 : Int32) → (∃ (d7 : Nat) (P7 : zIM → zLM → Prop), d7 + 1 ≤ d ∧ zCv l G d7 mX9_begins [.ref 44, .int (10 : Int32)] I L P7 ∧ ∀ (I7 : zIM) (L7 : zLM), P7 I7 L7 → (∃ (d8 : Nat) (P8 : Int32 → zIM → zLM → Prop), d8 + 1 ≤ d ∧ zCi l G d8 mX9_aimsAs [.ref 44, .int (I7 44 44), .int x2] I7 L7 P8 ∧ ∀ (y8 : Int32) (I8 : zIM) (L8 : zLM), P8 y8 I8 L8 → (P (y8 * (2 : Int32)) I8 L8)))) ∧ (x1 = (7 : Int32) → (∃ (d9 : Nat) (P9 : zIM → zLM → Prop), d9 + 1 ≤ d ∧ zCv l G d9 mX9_begins [.ref 44, .int (80 : Int32)] I L P9 ∧ ∀ (I9 : zIM) (L9 : zLM), P9 I9 L9 → (∃ (d10 : Nat) (P10 : Int32 → zIM → zLM → Prop), d10 + 1 ≤ d ∧ zCi l G d10 mX9_throwsAs [.ref 44, .int (4 : Int32), .int x2] I9 L9 P10 ∧ ∀ (y10 : Int32) (I10 : zIM) (L10 : zLM), P10 y10 I10 L10 → (∃ (d11 : Nat) (P11 : Int32 → zIM → zLM → Prop), d11 + 1 ≤ d ∧ zCi l G d11 mX9_hitsAs [.ref 44, .int (I10 44 44), .int (2 : Int32)] I10 L10 P11 ∧ ∀ (y11 : Int32) (I11 : zIM) (L11 : zLM), P11 y11 I11 L11 → (P (y10 + y11) I11 L11)))))))) ∧ (x1 = (2 : Int32) → (∃ (d12 : Nat) (P12 : zIM → zLM → Prop), d12 + 1 ≤ d ∧ zCv l G d12 mX9_begins [.ref 44, .int (30 : Int32)] I L P12 ∧ ∀ (I12 : zIM) (L12 : zLM), P12 I12 L12 → (∃ (d13 : Nat) (P13 : Int32 → zIM → zLM → Prop), d13 + 1 ≤ d ∧ zCi l G d13 mX9_throwsAs [.ref 44, .int (0 : Int32), .int x2] I12 L12 P13 ∧ ∀ (y13 : Int32) (I13 : zIM) (L13 : zLM), P13 y13 I13 L13 → (P (-y13) I13 L13))))))) ∧ (x1 = (5 : Int32) → (∃ (d14 : Nat) (P14 : zIM → zLM → Prop), d14 + 1 ≤ d ∧ zCv l G d14 mX9_begins [.ref 44, .int (41 : Int32)] I L P14 ∧ ∀ (I14 : zIM) (L14 : zLM), P14 I14 L14 → (∃ (d15 : Nat) (P15 : Int32 → zIM → zLM → Prop), d15 + 1 ≤ d ∧ zCi l G d15 mX9_throwsAs [.ref 44, .int (2 : Int32), .int (x2 + (1 : Int32))] I14 L14 P15 ∧ ∀ (y15 : Int32) (I15 : zIM) (L15 : zLM), P15 y15 I15 L15 → (P y15 I15 L15))))))))) : zCi l G d mX9_throwsAs [.ref 44, .int x1, .int x2] I L P := by
  refine zCn.of (ls := [some (.ref 44), some (.int x1), some (.int x2), none]) (by decide) (Nat.le_of_ble_eq_true rfl) rfl ?_
  refine z_iload_n (pc' := 1) (x := x1) dX9_throwsAs_0 rfl rfl ?_
  refine z_iconst (pc' := 2) (v := 3) dX9_throwsAs_1 rfl (by decide) ?_
  refine z_icmp_eq (pc' := 5) (tgt := 10) dX9_throwsAs_2 rfl (by decide) (fun c1 => ?_) (fun c1 => ?_)
  · replace h := h.1 c1
    refine z_aload_n (pc' := 11) (x := 44) dX9_throwsAs_10 rfl rfl ?_
    refine z_bipush (pc' := 13) (v := 41) dX9_throwsAs_11 rfl (by decide) ?_
    obtain ⟨d2, P2, hd2, hC2, h⟩ := h
    refine z_callV (pc' := 16) (M' := mX9_begins) (As := [.int (41 : Int32)]) dX9_throwsAs_13 rfl ml_X9_338 me_X9_begins hC2 rfl (by decide) rfl rfl hd2 (Nat.le_of_ble_eq_true rfl) ⟨Nat.le_refl _, Nat.le_refl _⟩ rfl ?_
    rintro _ _ ⟨I2, L2, rfl, rfl, hP2⟩
    replace h := h I2 L2 hP2
    refine z_aload_n (pc' := 17) (x := 44) dX9_throwsAs_16 rfl rfl ?_
    refine z_iconst (pc' := 18) (v := 2) dX9_throwsAs_17 rfl (by decide) ?_
    refine z_iload_n (pc' := 19) (x := x2) dX9_throwsAs_18 rfl rfl ?_
    refine z_iconst (pc' := 20) (v := 1) dX9_throwsAs_19 rfl (by decide) ?_
    refine z_iadd (pc' := 21) dX9_throwsAs_20 rfl ?_
    obtain ⟨d3, P3, hd3, hC3, h⟩ := h
    refine z_callV (pc' := 24) (M' := mX9_throwsAs) (As := [.int (2 : Int32), .int (x2 + (1 : Int32))]) dX9_throwsAs_21 rfl ml_X9_347 me_X9_throwsAs hC3 rfl (by decide) rfl rfl hd3 (Nat.le_of_ble_eq_true rfl) ⟨Nat.le_refl _, Nat.le_refl _⟩ rfl ?_
    rintro _ _ ⟨y3, I3, L3, rfl, rfl, hP3⟩
    replace h := h y3 I3 L3 hP3
    exact z_iret dX9_throwsAs_24 rfl rfl ⟨Nat.le_refl _, Nat.le_refl _⟩ ⟨_, _, _, rfl, rfl, h⟩
  · replace h := h.2 c1
    refine z_iload_n (pc' := 6) (x := x1) dX9_throwsAs_5 rfl rfl ?_
    refine z_iconst (pc' := 7) (v := 5) dX9_throwsAs_6 rfl (by decide) ?_
    refine z_icmp_ne (pc' := 10) (tgt := 25) dX9_throwsAs_7 rfl (by decide) (fun c4 => ?_) (fun c4 => ?_)
    · replace h := h.1 c4
      refine z_iload_n (pc' := 26) (x := x1) dX9_throwsAs_25 rfl rfl ?_
      refine z_iconst (pc' := 27) (v := 2) dX9_throwsAs_26 rfl (by decide) ?_
      refine z_icmp_ne (pc' := 30) (tgt := 44) dX9_throwsAs_27 rfl (by decide) (fun c5 => ?_) (fun c5 => ?_)
      · replace h := h.1 c5
        refine z_iload_n (pc' := 45) (x := x1) dX9_throwsAs_44 rfl rfl ?_
        refine z_bipush (pc' := 47) (v := 7) dX9_throwsAs_45 rfl (by decide) ?_
        refine z_icmp_ne (pc' := 50) (tgt := 75) dX9_throwsAs_47 rfl (by decide) (fun c6 => ?_) (fun c6 => ?_)
        · replace h := h.1 c6
          refine z_aload_n (pc' := 76) (x := 44) dX9_throwsAs_75 rfl rfl ?_
          refine z_bipush (pc' := 78) (v := 10) dX9_throwsAs_76 rfl (by decide) ?_
          obtain ⟨d7, P7, hd7, hC7, h⟩ := h
          refine z_callV (pc' := 81) (M' := mX9_begins) (As := [.int (10 : Int32)]) dX9_throwsAs_78 rfl ml_X9_338 me_X9_begins hC7 rfl (by decide) rfl rfl hd7 (Nat.le_of_ble_eq_true rfl) ⟨Nat.le_refl _, Nat.le_refl _⟩ rfl ?_
          rintro _ _ ⟨I7, L7, rfl, rfl, hP7⟩
          replace h := h I7 L7 hP7
          refine z_aload_n (pc' := 82) (x := 44) dX9_throwsAs_81 rfl rfl ?_
          refine z_aload_n (pc' := 83) (x := 44) dX9_throwsAs_82 rfl rfl ?_
          refine z_geti (pc' := 86) (x := (I7 44 44)) dX9_throwsAs_83 rfl fl_X9_350 rfl rfl rfl ?_
          refine z_iload_n (pc' := 87) (x := x2) dX9_throwsAs_86 rfl rfl ?_
          obtain ⟨d8, P8, hd8, hC8, h⟩ := h
          refine z_callV (pc' := 90) (M' := mX9_aimsAs) (As := [.int (I7 44 44), .int x2]) dX9_throwsAs_87 rfl ml_X9_341 me_X9_aimsAs hC8 rfl (by decide) rfl rfl hd8 (Nat.le_of_ble_eq_true rfl) ⟨Nat.le_refl _, Nat.le_refl _⟩ rfl ?_
          rintro _ _ ⟨y8, I8, L8, rfl, rfl, hP8⟩
          replace h := h y8 I8 L8 hP8
          refine z_iconst (pc' := 91) (v := 2) dX9_throwsAs_90 rfl (by decide) ?_
          refine z_imul (pc' := 92) dX9_throwsAs_91 rfl ?_
          exact z_iret dX9_throwsAs_92 rfl rfl ⟨Nat.le_refl _, Nat.le_refl _⟩ ⟨_, _, _, rfl, rfl, h⟩
        · replace h := h.2 c6
          refine z_aload_n (pc' := 51) (x := 44) dX9_throwsAs_50 rfl rfl ?_
          refine z_bipush (pc' := 53) (v := 80) dX9_throwsAs_51 rfl (by decide) ?_
          obtain ⟨d9, P9, hd9, hC9, h⟩ := h
          refine z_callV (pc' := 56) (M' := mX9_begins) (As := [.int (80 : Int32)]) dX9_throwsAs_53 rfl ml_X9_338 me_X9_begins hC9 rfl (by decide) rfl rfl hd9 (Nat.le_of_ble_eq_true rfl) ⟨Nat.le_refl _, Nat.le_refl _⟩ rfl ?_
          rintro _ _ ⟨I9, L9, rfl, rfl, hP9⟩
          replace h := h I9 L9 hP9
          refine z_aload_n (pc' := 57) (x := 44) dX9_throwsAs_56 rfl rfl ?_
          refine z_iconst (pc' := 58) (v := 4) dX9_throwsAs_57 rfl (by decide) ?_
          refine z_iload_n (pc' := 59) (x := x2) dX9_throwsAs_58 rfl rfl ?_
          obtain ⟨d10, P10, hd10, hC10, h⟩ := h
          refine z_callV (pc' := 62) (M' := mX9_throwsAs) (As := [.int (4 : Int32), .int x2]) dX9_throwsAs_59 rfl ml_X9_347 me_X9_throwsAs hC10 rfl (by decide) rfl rfl hd10 (Nat.le_of_ble_eq_true rfl) ⟨Nat.le_refl _, Nat.le_refl _⟩ rfl ?_
          rintro _ _ ⟨y10, I10, L10, rfl, rfl, hP10⟩
          replace h := h y10 I10 L10 hP10
          refine z_istore_n (pc' := 63) (ls' := [some (.ref 44), some (.int x1), some (.int x2), some (.int y10)]) dX9_throwsAs_62 rfl (by decide) rfl ?_
          refine z_iload_n (pc' := 64) (x := y10) dX9_throwsAs_63 rfl rfl ?_
          refine z_aload_n (pc' := 65) (x := 44) dX9_throwsAs_64 rfl rfl ?_
          refine z_aload_n (pc' := 66) (x := 44) dX9_throwsAs_65 rfl rfl ?_
          refine z_geti (pc' := 69) (x := (I10 44 44)) dX9_throwsAs_66 rfl fl_X9_350 rfl rfl rfl ?_
          refine z_iconst (pc' := 70) (v := 2) dX9_throwsAs_69 rfl (by decide) ?_
          obtain ⟨d11, P11, hd11, hC11, h⟩ := h
          refine z_callV (pc' := 73) (M' := mX9_hitsAs) (As := [.int (I10 44 44), .int (2 : Int32)]) dX9_throwsAs_70 rfl ml_X9_353 me_X9_hitsAs hC11 rfl (by decide) rfl rfl hd11 (Nat.le_of_ble_eq_true rfl) ⟨Nat.le_refl _, Nat.le_refl _⟩ rfl ?_
          rintro _ _ ⟨y11, I11, L11, rfl, rfl, hP11⟩
          replace h := h y11 I11 L11 hP11
          refine z_iadd (pc' := 74) dX9_throwsAs_73 rfl ?_
          exact z_iret dX9_throwsAs_74 rfl rfl ⟨Nat.le_refl _, Nat.le_refl _⟩ ⟨_, _, _, rfl, rfl, h⟩
      · replace h := h.2 c5
        refine z_aload_n (pc' := 31) (x := 44) dX9_throwsAs_30 rfl rfl ?_
        refine z_bipush (pc' := 33) (v := 30) dX9_throwsAs_31 rfl (by decide) ?_
        obtain ⟨d12, P12, hd12, hC12, h⟩ := h
        refine z_callV (pc' := 36) (M' := mX9_begins) (As := [.int (30 : Int32)]) dX9_throwsAs_33 rfl ml_X9_338 me_X9_begins hC12 rfl (by decide) rfl rfl hd12 (Nat.le_of_ble_eq_true rfl) ⟨Nat.le_refl _, Nat.le_refl _⟩ rfl ?_
        rintro _ _ ⟨I12, L12, rfl, rfl, hP12⟩
        replace h := h I12 L12 hP12
        refine z_aload_n (pc' := 37) (x := 44) dX9_throwsAs_36 rfl rfl ?_
        refine z_iconst (pc' := 38) (v := 0) dX9_throwsAs_37 rfl (by decide) ?_
        refine z_iload_n (pc' := 39) (x := x2) dX9_throwsAs_38 rfl rfl ?_
        obtain ⟨d13, P13, hd13, hC13, h⟩ := h
        refine z_callV (pc' := 42) (M' := mX9_throwsAs) (As := [.int (0 : Int32), .int x2]) dX9_throwsAs_39 rfl ml_X9_347 me_X9_throwsAs hC13 rfl (by decide) rfl rfl hd13 (Nat.le_of_ble_eq_true rfl) ⟨Nat.le_refl _, Nat.le_refl _⟩ rfl ?_
        rintro _ _ ⟨y13, I13, L13, rfl, rfl, hP13⟩
        replace h := h y13 I13 L13 hP13
        refine z_ineg (pc' := 43) dX9_throwsAs_42 rfl ?_
        exact z_iret dX9_throwsAs_43 rfl rfl ⟨Nat.le_refl _, Nat.le_refl _⟩ ⟨_, _, _, rfl, rfl, h⟩
    · replace h := h.2 c4
      refine z_aload_n (pc' := 11) (x := 44) dX9_throwsAs_10 rfl rfl ?_
      refine z_bipush (pc' := 13) (v := 41) dX9_throwsAs_11 rfl (by decide) ?_
      obtain ⟨d14, P14, hd14, hC14, h⟩ := h
      refine z_callV (pc' := 16) (M' := mX9_begins) (As := [.int (41 : Int32)]) dX9_throwsAs_13 rfl ml_X9_338 me_X9_begins hC14 rfl (by decide) rfl rfl hd14 (Nat.le_of_ble_eq_true rfl) ⟨Nat.le_refl _, Nat.le_refl _⟩ rfl ?_
      rintro _ _ ⟨I14, L14, rfl, rfl, hP14⟩
      replace h := h I14 L14 hP14
      refine z_aload_n (pc' := 17) (x := 44) dX9_throwsAs_16 rfl rfl ?_
      refine z_iconst (pc' := 18) (v := 2) dX9_throwsAs_17 rfl (by decide) ?_
      refine z_iload_n (pc' := 19) (x := x2) dX9_throwsAs_18 rfl rfl ?_
      refine z_iconst (pc' := 20) (v := 1) dX9_throwsAs_19 rfl (by decide) ?_
      refine z_iadd (pc' := 21) dX9_throwsAs_20 rfl ?_
      obtain ⟨d15, P15, hd15, hC15, h⟩ := h
      refine z_callV (pc' := 24) (M' := mX9_throwsAs) (As := [.int (2 : Int32), .int (x2 + (1 : Int32))]) dX9_throwsAs_21 rfl ml_X9_347 me_X9_throwsAs hC15 rfl (by decide) rfl rfl hd15 (Nat.le_of_ble_eq_true rfl) ⟨Nat.le_refl _, Nat.le_refl _⟩ rfl ?_
      rintro _ _ ⟨y15, I15, L15, rfl, rfl, hP15⟩
      replace h := h y15 I15 L15 hP15
      exact z_iret dX9_throwsAs_24 rfl rfl ⟨Nat.le_refl _, Nat.le_refl _⟩ ⟨_, _, _, rfl, rfl, h⟩
set_option maxHeartbeats 4000000 in
set_option maxRecDepth 100000 in
theorem t_X9_hitsAs {l : Launch} {G : zG} {d : Nat} {P : Int32 → zIM → zLM → Prop} {I : zIM} {L : zLM} {x1 : Int32} {x2 : Int32}  (h : ((x1 = (3 : Int32) → (∃ (d2 : Nat) (P2 : zIM → zLM → Prop), d2 + 1 ≤ d ∧ zCv l G d2 mX9_begins [.ref 44, .int (40 : Int32)] I L P2 ∧ ∀ (I2 : zIM) (L2 : zLM), P2 I2 L2 → (∃ (d3 : Nat) (P3 : Int32 → zIM → zLM → Prop), d3 + 1 ≤ d ∧ zCi l G d3 mX9_hitsAs [.ref 44, .int (2 : Int32), .int x2] I2 L2 P3 ∧ ∀ (y3 : Int32) (I3 : zIM) (L3 : zLM), P3 y3 I3 L3 → (P (y3 * (3 : Int32)) I3 L3)))) ∧ (¬ x1 = (3 : Int32) → (((¬ x1 = (5 : Int32) → (((x1 = (4 : Int32) → (∃ (d6 : Nat) (P6 : zIM → zLM → Prop), d6 + 1 ≤ d ∧ zCv l G d6 mX9_begins [.ref 44, .int (50 : Int32)] I L P6 ∧ ∀ (I6 : zIM) (L6 : zLM), P6 I6 L6 → (∃ (d7 : Nat) (P7 : Int32 → zIM → zLM → Prop), d7 + 1 ≤ d ∧ zCi l G d7 mX9_hitsAs [.ref 44, .int (1 : Int32), .int x2] I6 L6 P7 ∧ ∀ (y7 : Int32) (I7 : zIM) (L7 : zLM), P7 y7 I7 L7 → (∃ (d8 : Nat) (P8 : Int32 → zIM → zLM → Prop), d8 + 1 ≤ d ∧ zCi l G d8 mX9_aimsAs [.ref 44, .int (I7 44 44), .int (2 : Int32)] I7 L7 P8 ∧ ∀ (y8 : Int32) (I8 : zIM) (L8 : zLM), P8 y8 I8 L8 → (P (y7 - y8) I8 L8))))) ∧ (¬ x1 = (4 : Int32) → (((¬ x1 = (7 : Int32) → (∃ (d10 : Nat) (P10 : zIM → zLM → Prop), d10 + 1 ≤ d ∧ zCv l G d10 mX9_begins [.ref 44, .int (11 : Int32)] I L P10 ∧ ∀ (I10 : zIM) (L10 : zLM), P10 I10 L10 → (P (x2 ^^^ (I10 44 45)) I10 L10))) ∧ (x1 = (7 : Int32) → (∃ (d11 : Nat) (P11 : zIM → zLM → Prop), d11 + 1 ≤ d ∧ zCv l G d11 mX9_begins [.ref 44, .int (50 : Int32)] I L P11 ∧ ∀ (I11 : zIM) (L11 : zLM), P11 I11 L11 → (∃ (d12 : Nat) (P12 : Int32 → zIM → zLM → Prop), d12 + 1 ≤ d ∧ zCi l G d12 mX9_hitsAs [.ref 44, .int (1 : Int32), .int x2] I11 L11 P12 ∧ ∀ (y12 : Int32) (I12 : zIM) (L12 : zLM), P12 y12 I12 L12 → (∃ (d13 : Nat) (P13 : Int32 → zIM → zLM → Prop), d13 + 1 ≤ d ∧ zCi l G d13 mX9_aimsAs [.ref 44, .int (I12 44 44), .int (2 : Int32)] I12 L12 P13 ∧ ∀ (y13 : Int32) (I13 : zIM) (L13 : zLM), P13 y13 I13 L13 → (P (y12 - y13) I13 L13))))))))))) ∧ (x1 = (5 : Int32) → (∃ (d14 : Nat) (P14 : zIM → zLM → Prop), d14 + 1 ≤ d ∧ zCv l G d14 mX9_begins [.ref 44, .int (40 : Int32)] I L P14 ∧ ∀ (I14 : zIM) (L14 : zLM), P14 I14 L14 → (∃ (d15 : Nat) (P15 : Int32 → zIM → zLM → Prop), d15 + 1 ≤ d ∧ zCi l G d15 mX9_hitsAs [.ref 44, .int (2 : Int32), .int x2] I14 L14 P15 ∧ ∀ (y15 : Int32) (I15 : zIM) (L15 : zLM), P15 y15 I15 L15 → (P (y15 * (3 : Int32)) I15 L15))))))))) : zCi l G d mX9_hitsAs [.ref 44, .int x1, .int x2] I L P := by
  refine zCn.of (ls := [some (.ref 44), some (.int x1), some (.int x2), none]) (by decide) (Nat.le_of_ble_eq_true rfl) rfl ?_
  refine z_iload_n (pc' := 1) (x := x1) dX9_hitsAs_0 rfl rfl ?_
  refine z_iconst (pc' := 2) (v := 3) dX9_hitsAs_1 rfl (by decide) ?_
  refine z_icmp_eq (pc' := 5) (tgt := 10) dX9_hitsAs_2 rfl (by decide) (fun c1 => ?_) (fun c1 => ?_)
  · replace h := h.1 c1
    refine z_aload_n (pc' := 11) (x := 44) dX9_hitsAs_10 rfl rfl ?_
    refine z_bipush (pc' := 13) (v := 40) dX9_hitsAs_11 rfl (by decide) ?_
    obtain ⟨d2, P2, hd2, hC2, h⟩ := h
    refine z_callV (pc' := 16) (M' := mX9_begins) (As := [.int (40 : Int32)]) dX9_hitsAs_13 rfl ml_X9_338 me_X9_begins hC2 rfl (by decide) rfl rfl hd2 (Nat.le_of_ble_eq_true rfl) ⟨Nat.le_refl _, Nat.le_refl _⟩ rfl ?_
    rintro _ _ ⟨I2, L2, rfl, rfl, hP2⟩
    replace h := h I2 L2 hP2
    refine z_aload_n (pc' := 17) (x := 44) dX9_hitsAs_16 rfl rfl ?_
    refine z_iconst (pc' := 18) (v := 2) dX9_hitsAs_17 rfl (by decide) ?_
    refine z_iload_n (pc' := 19) (x := x2) dX9_hitsAs_18 rfl rfl ?_
    obtain ⟨d3, P3, hd3, hC3, h⟩ := h
    refine z_callV (pc' := 22) (M' := mX9_hitsAs) (As := [.int (2 : Int32), .int x2]) dX9_hitsAs_19 rfl ml_X9_353 me_X9_hitsAs hC3 rfl (by decide) rfl rfl hd3 (Nat.le_of_ble_eq_true rfl) ⟨Nat.le_refl _, Nat.le_refl _⟩ rfl ?_
    rintro _ _ ⟨y3, I3, L3, rfl, rfl, hP3⟩
    replace h := h y3 I3 L3 hP3
    refine z_iconst (pc' := 23) (v := 3) dX9_hitsAs_22 rfl (by decide) ?_
    refine z_imul (pc' := 24) dX9_hitsAs_23 rfl ?_
    exact z_iret dX9_hitsAs_24 rfl rfl ⟨Nat.le_refl _, Nat.le_refl _⟩ ⟨_, _, _, rfl, rfl, h⟩
  · replace h := h.2 c1
    refine z_iload_n (pc' := 6) (x := x1) dX9_hitsAs_5 rfl rfl ?_
    refine z_iconst (pc' := 7) (v := 5) dX9_hitsAs_6 rfl (by decide) ?_
    refine z_icmp_ne (pc' := 10) (tgt := 25) dX9_hitsAs_7 rfl (by decide) (fun c4 => ?_) (fun c4 => ?_)
    · replace h := h.1 c4
      refine z_iload_n (pc' := 26) (x := x1) dX9_hitsAs_25 rfl rfl ?_
      refine z_iconst (pc' := 27) (v := 4) dX9_hitsAs_26 rfl (by decide) ?_
      refine z_icmp_eq (pc' := 30) (tgt := 36) dX9_hitsAs_27 rfl (by decide) (fun c5 => ?_) (fun c5 => ?_)
      · replace h := h.1 c5
        refine z_aload_n (pc' := 37) (x := 44) dX9_hitsAs_36 rfl rfl ?_
        refine z_bipush (pc' := 39) (v := 50) dX9_hitsAs_37 rfl (by decide) ?_
        obtain ⟨d6, P6, hd6, hC6, h⟩ := h
        refine z_callV (pc' := 42) (M' := mX9_begins) (As := [.int (50 : Int32)]) dX9_hitsAs_39 rfl ml_X9_338 me_X9_begins hC6 rfl (by decide) rfl rfl hd6 (Nat.le_of_ble_eq_true rfl) ⟨Nat.le_refl _, Nat.le_refl _⟩ rfl ?_
        rintro _ _ ⟨I6, L6, rfl, rfl, hP6⟩
        replace h := h I6 L6 hP6
        refine z_aload_n (pc' := 43) (x := 44) dX9_hitsAs_42 rfl rfl ?_
        refine z_iconst (pc' := 44) (v := 1) dX9_hitsAs_43 rfl (by decide) ?_
        refine z_iload_n (pc' := 45) (x := x2) dX9_hitsAs_44 rfl rfl ?_
        obtain ⟨d7, P7, hd7, hC7, h⟩ := h
        refine z_callV (pc' := 48) (M' := mX9_hitsAs) (As := [.int (1 : Int32), .int x2]) dX9_hitsAs_45 rfl ml_X9_353 me_X9_hitsAs hC7 rfl (by decide) rfl rfl hd7 (Nat.le_of_ble_eq_true rfl) ⟨Nat.le_refl _, Nat.le_refl _⟩ rfl ?_
        rintro _ _ ⟨y7, I7, L7, rfl, rfl, hP7⟩
        replace h := h y7 I7 L7 hP7
        refine z_istore_n (pc' := 49) (ls' := [some (.ref 44), some (.int x1), some (.int x2), some (.int y7)]) dX9_hitsAs_48 rfl (by decide) rfl ?_
        refine z_iload_n (pc' := 50) (x := y7) dX9_hitsAs_49 rfl rfl ?_
        refine z_aload_n (pc' := 51) (x := 44) dX9_hitsAs_50 rfl rfl ?_
        refine z_aload_n (pc' := 52) (x := 44) dX9_hitsAs_51 rfl rfl ?_
        refine z_geti (pc' := 55) (x := (I7 44 44)) dX9_hitsAs_52 rfl fl_X9_350 rfl rfl rfl ?_
        refine z_iconst (pc' := 56) (v := 2) dX9_hitsAs_55 rfl (by decide) ?_
        obtain ⟨d8, P8, hd8, hC8, h⟩ := h
        refine z_callV (pc' := 59) (M' := mX9_aimsAs) (As := [.int (I7 44 44), .int (2 : Int32)]) dX9_hitsAs_56 rfl ml_X9_341 me_X9_aimsAs hC8 rfl (by decide) rfl rfl hd8 (Nat.le_of_ble_eq_true rfl) ⟨Nat.le_refl _, Nat.le_refl _⟩ rfl ?_
        rintro _ _ ⟨y8, I8, L8, rfl, rfl, hP8⟩
        replace h := h y8 I8 L8 hP8
        refine z_isub (pc' := 60) dX9_hitsAs_59 rfl ?_
        exact z_iret dX9_hitsAs_60 rfl rfl ⟨Nat.le_refl _, Nat.le_refl _⟩ ⟨_, _, _, rfl, rfl, h⟩
      · replace h := h.2 c5
        refine z_iload_n (pc' := 31) (x := x1) dX9_hitsAs_30 rfl rfl ?_
        refine z_bipush (pc' := 33) (v := 7) dX9_hitsAs_31 rfl (by decide) ?_
        refine z_icmp_ne (pc' := 36) (tgt := 61) dX9_hitsAs_33 rfl (by decide) (fun c9 => ?_) (fun c9 => ?_)
        · replace h := h.1 c9
          refine z_aload_n (pc' := 62) (x := 44) dX9_hitsAs_61 rfl rfl ?_
          refine z_bipush (pc' := 64) (v := 11) dX9_hitsAs_62 rfl (by decide) ?_
          obtain ⟨d10, P10, hd10, hC10, h⟩ := h
          refine z_callV (pc' := 67) (M' := mX9_begins) (As := [.int (11 : Int32)]) dX9_hitsAs_64 rfl ml_X9_338 me_X9_begins hC10 rfl (by decide) rfl rfl hd10 (Nat.le_of_ble_eq_true rfl) ⟨Nat.le_refl _, Nat.le_refl _⟩ rfl ?_
          rintro _ _ ⟨I10, L10, rfl, rfl, hP10⟩
          replace h := h I10 L10 hP10
          refine z_iload_n (pc' := 68) (x := x2) dX9_hitsAs_67 rfl rfl ?_
          refine z_aload_n (pc' := 69) (x := 44) dX9_hitsAs_68 rfl rfl ?_
          refine z_geti (pc' := 72) (x := (I10 44 45)) dX9_hitsAs_69 rfl fl_X9_344 rfl rfl rfl ?_
          refine z_ixor (pc' := 73) dX9_hitsAs_72 rfl ?_
          exact z_iret dX9_hitsAs_73 rfl rfl ⟨Nat.le_refl _, Nat.le_refl _⟩ ⟨_, _, _, rfl, rfl, h⟩
        · replace h := h.2 c9
          refine z_aload_n (pc' := 37) (x := 44) dX9_hitsAs_36 rfl rfl ?_
          refine z_bipush (pc' := 39) (v := 50) dX9_hitsAs_37 rfl (by decide) ?_
          obtain ⟨d11, P11, hd11, hC11, h⟩ := h
          refine z_callV (pc' := 42) (M' := mX9_begins) (As := [.int (50 : Int32)]) dX9_hitsAs_39 rfl ml_X9_338 me_X9_begins hC11 rfl (by decide) rfl rfl hd11 (Nat.le_of_ble_eq_true rfl) ⟨Nat.le_refl _, Nat.le_refl _⟩ rfl ?_
          rintro _ _ ⟨I11, L11, rfl, rfl, hP11⟩
          replace h := h I11 L11 hP11
          refine z_aload_n (pc' := 43) (x := 44) dX9_hitsAs_42 rfl rfl ?_
          refine z_iconst (pc' := 44) (v := 1) dX9_hitsAs_43 rfl (by decide) ?_
          refine z_iload_n (pc' := 45) (x := x2) dX9_hitsAs_44 rfl rfl ?_
          obtain ⟨d12, P12, hd12, hC12, h⟩ := h
          refine z_callV (pc' := 48) (M' := mX9_hitsAs) (As := [.int (1 : Int32), .int x2]) dX9_hitsAs_45 rfl ml_X9_353 me_X9_hitsAs hC12 rfl (by decide) rfl rfl hd12 (Nat.le_of_ble_eq_true rfl) ⟨Nat.le_refl _, Nat.le_refl _⟩ rfl ?_
          rintro _ _ ⟨y12, I12, L12, rfl, rfl, hP12⟩
          replace h := h y12 I12 L12 hP12
          refine z_istore_n (pc' := 49) (ls' := [some (.ref 44), some (.int x1), some (.int x2), some (.int y12)]) dX9_hitsAs_48 rfl (by decide) rfl ?_
          refine z_iload_n (pc' := 50) (x := y12) dX9_hitsAs_49 rfl rfl ?_
          refine z_aload_n (pc' := 51) (x := 44) dX9_hitsAs_50 rfl rfl ?_
          refine z_aload_n (pc' := 52) (x := 44) dX9_hitsAs_51 rfl rfl ?_
          refine z_geti (pc' := 55) (x := (I12 44 44)) dX9_hitsAs_52 rfl fl_X9_350 rfl rfl rfl ?_
          refine z_iconst (pc' := 56) (v := 2) dX9_hitsAs_55 rfl (by decide) ?_
          obtain ⟨d13, P13, hd13, hC13, h⟩ := h
          refine z_callV (pc' := 59) (M' := mX9_aimsAs) (As := [.int (I12 44 44), .int (2 : Int32)]) dX9_hitsAs_56 rfl ml_X9_341 me_X9_aimsAs hC13 rfl (by decide) rfl rfl hd13 (Nat.le_of_ble_eq_true rfl) ⟨Nat.le_refl _, Nat.le_refl _⟩ rfl ?_
          rintro _ _ ⟨y13, I13, L13, rfl, rfl, hP13⟩
          replace h := h y13 I13 L13 hP13
          refine z_isub (pc' := 60) dX9_hitsAs_59 rfl ?_
          exact z_iret dX9_hitsAs_60 rfl rfl ⟨Nat.le_refl _, Nat.le_refl _⟩ ⟨_, _, _, rfl, rfl, h⟩
    · replace h := h.2 c4
      refine z_aload_n (pc' := 11) (x := 44) dX9_hitsAs_10 rfl rfl ?_
      refine z_bipush (pc' := 13) (v := 40) dX9_hitsAs_11 rfl (by decide) ?_
      obtain ⟨d14, P14, hd14, hC14, h⟩ := h
      refine z_callV (pc' := 16) (M' := mX9_begins) (As := [.int (40 : Int32)]) dX9_hitsAs_13 rfl ml_X9_338 me_X9_begins hC14 rfl (by decide) rfl rfl hd14 (Nat.le_of_ble_eq_true rfl) ⟨Nat.le_refl _, Nat.le_refl _⟩ rfl ?_
      rintro _ _ ⟨I14, L14, rfl, rfl, hP14⟩
      replace h := h I14 L14 hP14
      refine z_aload_n (pc' := 17) (x := 44) dX9_hitsAs_16 rfl rfl ?_
      refine z_iconst (pc' := 18) (v := 2) dX9_hitsAs_17 rfl (by decide) ?_
      refine z_iload_n (pc' := 19) (x := x2) dX9_hitsAs_18 rfl rfl ?_
      obtain ⟨d15, P15, hd15, hC15, h⟩ := h
      refine z_callV (pc' := 22) (M' := mX9_hitsAs) (As := [.int (2 : Int32), .int x2]) dX9_hitsAs_19 rfl ml_X9_353 me_X9_hitsAs hC15 rfl (by decide) rfl rfl hd15 (Nat.le_of_ble_eq_true rfl) ⟨Nat.le_refl _, Nat.le_refl _⟩ rfl ?_
      rintro _ _ ⟨y15, I15, L15, rfl, rfl, hP15⟩
      replace h := h y15 I15 L15 hP15
      refine z_iconst (pc' := 23) (v := 3) dX9_hitsAs_22 rfl (by decide) ?_
      refine z_imul (pc' := 24) dX9_hitsAs_23 rfl ?_
      exact z_iret dX9_hitsAs_24 rfl rfl ⟨Nat.le_refl _, Nat.le_refl _⟩ ⟨_, _, _, rfl, rfl, h⟩
set_option maxHeartbeats 4000000 in
set_option maxRecDepth 100000 in
theorem t_X9_tellsAs {l : Launch} {G : zG} {d : Nat} {P : Int32 → zIM → zLM → Prop} {I : zIM} {L : zLM} {x1 : Int32} {x2 : Int32}  (h : ((¬ x1 = (5 : Int32) → (((¬ x1 = (7 : Int32) → (∃ (d3 : Nat) (P3 : zIM → zLM → Prop), d3 + 1 ≤ d ∧ zCv l G d3 mX9_begins [.ref 44, .int (2 : Int32)] I L P3 ∧ ∀ (I3 : zIM) (L3 : zLM), P3 I3 L3 → (∃ (d4 : Nat) (P4 : Int32 → zIM → zLM → Prop), d4 + 1 ≤ d ∧ zCi l G d4 mX9_throwsAs [.ref 44, .int (I3 44 44), .int x2] I3 L3 P4 ∧ ∀ (y4 : Int32) (I4 : zIM) (L4 : zLM), P4 y4 I4 L4 → (∃ (d5 : Nat) (P5 : Int32 → zIM → zLM → Prop), d5 + 1 ≤ d ∧ zCi l G d5 mX9_hitsAs [.ref 44, .int (I4 44 44), .int (1 : Int32)] I4 L4 P5 ∧ ∀ (y5 : Int32) (I5 : zIM) (L5 : zLM), P5 y5 I5 L5 → (P (y4 - y5) I5 L5))))) ∧ (x1 = (7 : Int32) → (∃ (d6 : Nat) (P6 : zIM → zLM → Prop), d6 + 1 ≤ d ∧ zCv l G d6 mX9_begins [.ref 44, .int (81 : Int32)] I L P6 ∧ ∀ (I6 : zIM) (L6 : zLM), P6 I6 L6 → (∃ (d7 : Nat) (P7 : Int32 → zIM → zLM → Prop), d7 + 1 ≤ d ∧ zCi l G d7 mX9_tellsAs [.ref 44, .int (4 : Int32), .int x2] I6 L6 P7 ∧ ∀ (y7 : Int32) (I7 : zIM) (L7 : zLM), P7 y7 I7 L7 → (P (y7 - (1 : Int32)) I7 L7))))))) ∧ (x1 = (5 : Int32) → (∃ (d8 : Nat) (P8 : zIM → zLM → Prop), d8 + 1 ≤ d ∧ zCv l G d8 mX9_begins [.ref 44, .int (60 : Int32)] I L P8 ∧ ∀ (I8 : zIM) (L8 : zLM), P8 I8 L8 → (∃ (d9 : Nat) (P9 : Int32 → zIM → zLM → Prop), d9 + 1 ≤ d ∧ zCi l G d9 mX9_tellsAs [.ref 44, .int (3 : Int32), .int x2] I8 L8 P9 ∧ ∀ (y9 : Int32) (I9 : zIM) (L9 : zLM), P9 y9 I9 L9 → (P (y9 ^^^ (5 : Int32)) I9 L9)))))) : zCi l G d mX9_tellsAs [.ref 44, .int x1, .int x2] I L P := by
  refine zCn.of (ls := [some (.ref 44), some (.int x1), some (.int x2), none]) (by decide) (Nat.le_of_ble_eq_true rfl) rfl ?_
  refine z_iload_n (pc' := 1) (x := x1) dX9_tellsAs_0 rfl rfl ?_
  refine z_iconst (pc' := 2) (v := 5) dX9_tellsAs_1 rfl (by decide) ?_
  refine z_icmp_ne (pc' := 5) (tgt := 20) dX9_tellsAs_2 rfl (by decide) (fun c1 => ?_) (fun c1 => ?_)
  · replace h := h.1 c1
    refine z_iload_n (pc' := 21) (x := x1) dX9_tellsAs_20 rfl rfl ?_
    refine z_bipush (pc' := 23) (v := 7) dX9_tellsAs_21 rfl (by decide) ?_
    refine z_icmp_ne (pc' := 26) (tgt := 41) dX9_tellsAs_23 rfl (by decide) (fun c2 => ?_) (fun c2 => ?_)
    · replace h := h.1 c2
      refine z_aload_n (pc' := 42) (x := 44) dX9_tellsAs_41 rfl rfl ?_
      refine z_iconst (pc' := 43) (v := 2) dX9_tellsAs_42 rfl (by decide) ?_
      obtain ⟨d3, P3, hd3, hC3, h⟩ := h
      refine z_callV (pc' := 46) (M' := mX9_begins) (As := [.int (2 : Int32)]) dX9_tellsAs_43 rfl ml_X9_338 me_X9_begins hC3 rfl (by decide) rfl rfl hd3 (Nat.le_of_ble_eq_true rfl) ⟨Nat.le_refl _, Nat.le_refl _⟩ rfl ?_
      rintro _ _ ⟨I3, L3, rfl, rfl, hP3⟩
      replace h := h I3 L3 hP3
      refine z_aload_n (pc' := 47) (x := 44) dX9_tellsAs_46 rfl rfl ?_
      refine z_aload_n (pc' := 48) (x := 44) dX9_tellsAs_47 rfl rfl ?_
      refine z_geti (pc' := 51) (x := (I3 44 44)) dX9_tellsAs_48 rfl fl_X9_350 rfl rfl rfl ?_
      refine z_iload_n (pc' := 52) (x := x2) dX9_tellsAs_51 rfl rfl ?_
      obtain ⟨d4, P4, hd4, hC4, h⟩ := h
      refine z_callV (pc' := 55) (M' := mX9_throwsAs) (As := [.int (I3 44 44), .int x2]) dX9_tellsAs_52 rfl ml_X9_347 me_X9_throwsAs hC4 rfl (by decide) rfl rfl hd4 (Nat.le_of_ble_eq_true rfl) ⟨Nat.le_refl _, Nat.le_refl _⟩ rfl ?_
      rintro _ _ ⟨y4, I4, L4, rfl, rfl, hP4⟩
      replace h := h y4 I4 L4 hP4
      refine z_istore_n (pc' := 56) (ls' := [some (.ref 44), some (.int x1), some (.int x2), some (.int y4)]) dX9_tellsAs_55 rfl (by decide) rfl ?_
      refine z_iload_n (pc' := 57) (x := y4) dX9_tellsAs_56 rfl rfl ?_
      refine z_aload_n (pc' := 58) (x := 44) dX9_tellsAs_57 rfl rfl ?_
      refine z_aload_n (pc' := 59) (x := 44) dX9_tellsAs_58 rfl rfl ?_
      refine z_geti (pc' := 62) (x := (I4 44 44)) dX9_tellsAs_59 rfl fl_X9_350 rfl rfl rfl ?_
      refine z_iconst (pc' := 63) (v := 1) dX9_tellsAs_62 rfl (by decide) ?_
      obtain ⟨d5, P5, hd5, hC5, h⟩ := h
      refine z_callV (pc' := 66) (M' := mX9_hitsAs) (As := [.int (I4 44 44), .int (1 : Int32)]) dX9_tellsAs_63 rfl ml_X9_353 me_X9_hitsAs hC5 rfl (by decide) rfl rfl hd5 (Nat.le_of_ble_eq_true rfl) ⟨Nat.le_refl _, Nat.le_refl _⟩ rfl ?_
      rintro _ _ ⟨y5, I5, L5, rfl, rfl, hP5⟩
      replace h := h y5 I5 L5 hP5
      refine z_isub (pc' := 67) dX9_tellsAs_66 rfl ?_
      exact z_iret dX9_tellsAs_67 rfl rfl ⟨Nat.le_refl _, Nat.le_refl _⟩ ⟨_, _, _, rfl, rfl, h⟩
    · replace h := h.2 c2
      refine z_aload_n (pc' := 27) (x := 44) dX9_tellsAs_26 rfl rfl ?_
      refine z_bipush (pc' := 29) (v := 81) dX9_tellsAs_27 rfl (by decide) ?_
      obtain ⟨d6, P6, hd6, hC6, h⟩ := h
      refine z_callV (pc' := 32) (M' := mX9_begins) (As := [.int (81 : Int32)]) dX9_tellsAs_29 rfl ml_X9_338 me_X9_begins hC6 rfl (by decide) rfl rfl hd6 (Nat.le_of_ble_eq_true rfl) ⟨Nat.le_refl _, Nat.le_refl _⟩ rfl ?_
      rintro _ _ ⟨I6, L6, rfl, rfl, hP6⟩
      replace h := h I6 L6 hP6
      refine z_aload_n (pc' := 33) (x := 44) dX9_tellsAs_32 rfl rfl ?_
      refine z_iconst (pc' := 34) (v := 4) dX9_tellsAs_33 rfl (by decide) ?_
      refine z_iload_n (pc' := 35) (x := x2) dX9_tellsAs_34 rfl rfl ?_
      obtain ⟨d7, P7, hd7, hC7, h⟩ := h
      refine z_callV (pc' := 38) (M' := mX9_tellsAs) (As := [.int (4 : Int32), .int x2]) dX9_tellsAs_35 rfl ml_X9_356 me_X9_tellsAs hC7 rfl (by decide) rfl rfl hd7 (Nat.le_of_ble_eq_true rfl) ⟨Nat.le_refl _, Nat.le_refl _⟩ rfl ?_
      rintro _ _ ⟨y7, I7, L7, rfl, rfl, hP7⟩
      replace h := h y7 I7 L7 hP7
      refine z_iconst (pc' := 39) (v := 1) dX9_tellsAs_38 rfl (by decide) ?_
      refine z_isub (pc' := 40) dX9_tellsAs_39 rfl ?_
      exact z_iret dX9_tellsAs_40 rfl rfl ⟨Nat.le_refl _, Nat.le_refl _⟩ ⟨_, _, _, rfl, rfl, h⟩
  · replace h := h.2 c1
    refine z_aload_n (pc' := 6) (x := 44) dX9_tellsAs_5 rfl rfl ?_
    refine z_bipush (pc' := 8) (v := 60) dX9_tellsAs_6 rfl (by decide) ?_
    obtain ⟨d8, P8, hd8, hC8, h⟩ := h
    refine z_callV (pc' := 11) (M' := mX9_begins) (As := [.int (60 : Int32)]) dX9_tellsAs_8 rfl ml_X9_338 me_X9_begins hC8 rfl (by decide) rfl rfl hd8 (Nat.le_of_ble_eq_true rfl) ⟨Nat.le_refl _, Nat.le_refl _⟩ rfl ?_
    rintro _ _ ⟨I8, L8, rfl, rfl, hP8⟩
    replace h := h I8 L8 hP8
    refine z_aload_n (pc' := 12) (x := 44) dX9_tellsAs_11 rfl rfl ?_
    refine z_iconst (pc' := 13) (v := 3) dX9_tellsAs_12 rfl (by decide) ?_
    refine z_iload_n (pc' := 14) (x := x2) dX9_tellsAs_13 rfl rfl ?_
    obtain ⟨d9, P9, hd9, hC9, h⟩ := h
    refine z_callV (pc' := 17) (M' := mX9_tellsAs) (As := [.int (3 : Int32), .int x2]) dX9_tellsAs_14 rfl ml_X9_356 me_X9_tellsAs hC9 rfl (by decide) rfl rfl hd9 (Nat.le_of_ble_eq_true rfl) ⟨Nat.le_refl _, Nat.le_refl _⟩ rfl ?_
    rintro _ _ ⟨y9, I9, L9, rfl, rfl, hP9⟩
    replace h := h y9 I9 L9 hP9
    refine z_iconst (pc' := 18) (v := 5) dX9_tellsAs_17 rfl (by decide) ?_
    refine z_ixor (pc' := 19) dX9_tellsAs_18 rfl ?_
    exact z_iret dX9_tellsAs_19 rfl rfl ⟨Nat.le_refl _, Nat.le_refl _⟩ ⟨_, _, _, rfl, rfl, h⟩
set_option maxHeartbeats 4000000 in
set_option maxRecDepth 100000 in
theorem t_X9_act {l : Launch} {G : zG} {d : Nat} {P : Int32 → zIM → zLM → Prop} {I : zIM} {L : zLM} {x1 : Int32} {x2 : Int32} {x3 : Int32}  (h : ∃ (d1 : Nat) (P1 : Int32 → zIM → zLM → Prop), d1 + 1 ≤ d ∧ zCi l G d1 mX9_isBody [.ref 44, .int x1] (xI I 44 43 (0 : Int32)) L P1 ∧ ∀ (y1 : Int32) (I1 : zIM) (L1 : zLM), P1 y1 I1 L1 → (((¬ y1 = 0 → (∃ j3 : Nat, x1 = nI j3 ∧ j3 < 50 ∧ (((x2 = (0 : Int32) → (∃ (d5 : Nat) (P5 : Int32 → zIM → zLM → Prop), d5 + 1 ≤ d ∧ zCi l G d5 mX9_aimsAs [.ref 44, .int (I1 63 j3), .int x3] (xI (xI I1 44 44 (I1 63 j3)) 44 45 x1) L1 P5 ∧ ∀ (y5 : Int32) (I5 : zIM) (L5 : zLM), P5 y5 I5 L5 → (P y5 I5 L5))) ∧ (x2 = (1 : Int32) → (∃ (d6 : Nat) (P6 : Int32 → zIM → zLM → Prop), d6 + 1 ≤ d ∧ zCi l G d6 mX9_throwsAs [.ref 44, .int (I1 63 j3), .int x3] (xI (xI I1 44 44 (I1 63 j3)) 44 45 x1) L1 P6 ∧ ∀ (y6 : Int32) (I6 : zIM) (L6 : zLM), P6 y6 I6 L6 → (P y6 I6 L6))) ∧ (x2 = (2 : Int32) → (∃ (d7 : Nat) (P7 : Int32 → zIM → zLM → Prop), d7 + 1 ≤ d ∧ zCi l G d7 mX9_hitsAs [.ref 44, .int (I1 63 j3), .int x3] (xI (xI I1 44 44 (I1 63 j3)) 44 45 x1) L1 P7 ∧ ∀ (y7 : Int32) (I7 : zIM) (L7 : zLM), P7 y7 I7 L7 → (P y7 I7 L7))) ∧ (x2 = (3 : Int32) → (∃ (d8 : Nat) (P8 : Int32 → zIM → zLM → Prop), d8 + 1 ≤ d ∧ zCi l G d8 mX9_tellsAs [.ref 44, .int (I1 63 j3), .int x3] (xI (xI I1 44 44 (I1 63 j3)) 44 45 x1) L1 P8 ∧ ∀ (y8 : Int32) (I8 : zIM) (L8 : zLM), P8 y8 I8 L8 → (P y8 I8 L8))) ∧ (¬ x2 = (0 : Int32) → ¬ x2 = (1 : Int32) → ¬ x2 = (2 : Int32) → ¬ x2 = (3 : Int32) → (P (0 : Int32) (xI (xI I1 44 44 (I1 63 j3)) 44 45 x1) L1)))))) ∧ (y1 = 0 → (P (0 : Int32) I1 L1))))) : zCi l G d mX9_act [.ref 44, .int x1, .int x2, .int x3] I L P := by
  refine zCn.of (ls := [some (.ref 44), some (.int x1), some (.int x2), some (.int x3)]) (by decide) (Nat.le_of_ble_eq_true rfl) rfl ?_
  refine z_aload_n (pc' := 1) (x := 44) dX9_act_0 rfl rfl ?_
  refine z_iconst (pc' := 2) (v := 0) dX9_act_1 rfl (by decide) ?_
  refine z_puti (pc' := 5) (w' := zs (xI I 44 43 (0 : Int32)) L) dX9_act_2 rfl fl_X9_335 rfl rfl rfl rfl rfl rfl ?_
  refine z_aload_n (pc' := 6) (x := 44) dX9_act_5 rfl rfl ?_
  refine z_iload_n (pc' := 7) (x := x1) dX9_act_6 rfl rfl ?_
  obtain ⟨d1, P1, hd1, hC1, h⟩ := h
  refine z_callV (pc' := 10) (M' := mX9_isBody) (As := [.int x1]) dX9_act_7 rfl ml_X9_359 me_X9_isBody hC1 rfl (by decide) rfl rfl hd1 (Nat.le_of_ble_eq_true rfl) ⟨Nat.le_refl _, Nat.le_refl _⟩ rfl ?_
  rintro _ _ ⟨y1, I1, L1, rfl, rfl, hP1⟩
  replace h := h y1 I1 L1 hP1
  refine z_if_ne (pc' := 13) (tgt := 15) dX9_act_10 rfl (by decide) (fun c2 => ?_) (fun c2 => ?_)
  · replace h := h.1 c2
    refine z_aload_n (pc' := 16) (x := 44) dX9_act_15 rfl rfl ?_
    refine z_aload_n (pc' := 17) (x := 44) dX9_act_16 rfl rfl ?_
    refine z_getr (pc' := 20) (x := 63) dX9_act_17 rfl fl_X9_65 rfl rfl rfl ?_
    refine z_iload_n (pc' := 21) (x := x1) dX9_act_20 rfl rfl ?_
    obtain ⟨j3, ha3, hb3, h⟩ := h
    refine z_iald (pc' := 22) (x := (I1 63 j3)) (j := j3) dX9_act_21 rfl rfl (by decide) ha3 hb3 rfl ?_
    refine z_puti (pc' := 25) (w' := zs (xI I1 44 44 (I1 63 j3)) L1) dX9_act_22 rfl fl_X9_350 rfl rfl rfl rfl rfl rfl ?_
    refine z_aload_n (pc' := 26) (x := 44) dX9_act_25 rfl rfl ?_
    refine z_iload_n (pc' := 27) (x := x1) dX9_act_26 rfl rfl ?_
    refine z_puti (pc' := 30) (w' := zs (xI (xI I1 44 44 (I1 63 j3)) 44 45 x1) L1) dX9_act_27 rfl fl_X9_344 rfl rfl rfl rfl rfl rfl ?_
    refine z_iload_n (pc' := 31) (x := x2) dX9_act_30 rfl rfl ?_
    by_cases c4_0 : x2 = (0 : Int32)
    · replace h := h.1 c4_0
      refine z_tableIn (pc' := 60) dX9_act_31 (by rw [c4_0]; decide) (by rw [c4_0]; decide) (by rw [c4_0]; rfl) (by decide) ?_
      refine z_aload_n (pc' := 61) (x := 44) dX9_act_60 rfl rfl ?_
      refine z_aload_n (pc' := 62) (x := 44) dX9_act_61 rfl rfl ?_
      refine z_geti (pc' := 65) (x := (I1 63 j3)) dX9_act_62 rfl fl_X9_350 rfl rfl rfl ?_
      refine z_iload_n (pc' := 66) (x := x3) dX9_act_65 rfl rfl ?_
      obtain ⟨d5, P5, hd5, hC5, h⟩ := h
      refine z_callV (pc' := 69) (M' := mX9_aimsAs) (As := [.int (I1 63 j3), .int x3]) dX9_act_66 rfl ml_X9_341 me_X9_aimsAs hC5 rfl (by decide) rfl rfl hd5 (Nat.le_of_ble_eq_true rfl) ⟨Nat.le_refl _, Nat.le_refl _⟩ rfl ?_
      rintro _ _ ⟨y5, I5, L5, rfl, rfl, hP5⟩
      replace h := h y5 I5 L5 hP5
      exact z_iret dX9_act_69 rfl rfl ⟨Nat.le_refl _, Nat.le_refl _⟩ ⟨_, _, _, rfl, rfl, h⟩
    by_cases c4_1 : x2 = (1 : Int32)
    · replace h := h.2.1 c4_1
      refine z_tableIn (pc' := 70) dX9_act_31 (by rw [c4_1]; decide) (by rw [c4_1]; decide) (by rw [c4_1]; rfl) (by decide) ?_
      refine z_aload_n (pc' := 71) (x := 44) dX9_act_70 rfl rfl ?_
      refine z_aload_n (pc' := 72) (x := 44) dX9_act_71 rfl rfl ?_
      refine z_geti (pc' := 75) (x := (I1 63 j3)) dX9_act_72 rfl fl_X9_350 rfl rfl rfl ?_
      refine z_iload_n (pc' := 76) (x := x3) dX9_act_75 rfl rfl ?_
      obtain ⟨d6, P6, hd6, hC6, h⟩ := h
      refine z_callV (pc' := 79) (M' := mX9_throwsAs) (As := [.int (I1 63 j3), .int x3]) dX9_act_76 rfl ml_X9_347 me_X9_throwsAs hC6 rfl (by decide) rfl rfl hd6 (Nat.le_of_ble_eq_true rfl) ⟨Nat.le_refl _, Nat.le_refl _⟩ rfl ?_
      rintro _ _ ⟨y6, I6, L6, rfl, rfl, hP6⟩
      replace h := h y6 I6 L6 hP6
      exact z_iret dX9_act_79 rfl rfl ⟨Nat.le_refl _, Nat.le_refl _⟩ ⟨_, _, _, rfl, rfl, h⟩
    by_cases c4_2 : x2 = (2 : Int32)
    · replace h := h.2.2.1 c4_2
      refine z_tableIn (pc' := 80) dX9_act_31 (by rw [c4_2]; decide) (by rw [c4_2]; decide) (by rw [c4_2]; rfl) (by decide) ?_
      refine z_aload_n (pc' := 81) (x := 44) dX9_act_80 rfl rfl ?_
      refine z_aload_n (pc' := 82) (x := 44) dX9_act_81 rfl rfl ?_
      refine z_geti (pc' := 85) (x := (I1 63 j3)) dX9_act_82 rfl fl_X9_350 rfl rfl rfl ?_
      refine z_iload_n (pc' := 86) (x := x3) dX9_act_85 rfl rfl ?_
      obtain ⟨d7, P7, hd7, hC7, h⟩ := h
      refine z_callV (pc' := 89) (M' := mX9_hitsAs) (As := [.int (I1 63 j3), .int x3]) dX9_act_86 rfl ml_X9_353 me_X9_hitsAs hC7 rfl (by decide) rfl rfl hd7 (Nat.le_of_ble_eq_true rfl) ⟨Nat.le_refl _, Nat.le_refl _⟩ rfl ?_
      rintro _ _ ⟨y7, I7, L7, rfl, rfl, hP7⟩
      replace h := h y7 I7 L7 hP7
      exact z_iret dX9_act_89 rfl rfl ⟨Nat.le_refl _, Nat.le_refl _⟩ ⟨_, _, _, rfl, rfl, h⟩
    by_cases c4_3 : x2 = (3 : Int32)
    · replace h := h.2.2.2.1 c4_3
      refine z_tableIn (pc' := 90) dX9_act_31 (by rw [c4_3]; decide) (by rw [c4_3]; decide) (by rw [c4_3]; rfl) (by decide) ?_
      refine z_aload_n (pc' := 91) (x := 44) dX9_act_90 rfl rfl ?_
      refine z_aload_n (pc' := 92) (x := 44) dX9_act_91 rfl rfl ?_
      refine z_geti (pc' := 95) (x := (I1 63 j3)) dX9_act_92 rfl fl_X9_350 rfl rfl rfl ?_
      refine z_iload_n (pc' := 96) (x := x3) dX9_act_95 rfl rfl ?_
      obtain ⟨d8, P8, hd8, hC8, h⟩ := h
      refine z_callV (pc' := 99) (M' := mX9_tellsAs) (As := [.int (I1 63 j3), .int x3]) dX9_act_96 rfl ml_X9_356 me_X9_tellsAs hC8 rfl (by decide) rfl rfl hd8 (Nat.le_of_ble_eq_true rfl) ⟨Nat.le_refl _, Nat.le_refl _⟩ rfl ?_
      rintro _ _ ⟨y8, I8, L8, rfl, rfl, hP8⟩
      replace h := h y8 I8 L8 hP8
      exact z_iret dX9_act_99 rfl rfl ⟨Nat.le_refl _, Nat.le_refl _⟩ ⟨_, _, _, rfl, rfl, h⟩
    replace h := h.2.2.2.2 c4_0 c4_1 c4_2 c4_3
    have hne4 : x2.toInt < 0 ∨ 3 < x2.toInt := by
      have nc4_0 := lv_neT c4_0 (a := 0) (by decide); have nc4_1 := lv_neT c4_1 (a := 1) (by decide); have nc4_2 := lv_neT c4_2 (a := 2) (by decide); have nc4_3 := lv_neT c4_3 (a := 3) (by decide); omega
    refine z_tableOut (pc' := 100) dX9_act_31 hne4 (by decide) ?_
    refine z_iconst (pc' := 101) (v := 0) dX9_act_100 rfl (by decide) ?_
    exact z_iret dX9_act_101 rfl rfl ⟨Nat.le_refl _, Nat.le_refl _⟩ ⟨_, _, _, rfl, rfl, h⟩
  · replace h := h.2 c2
    refine z_iconst (pc' := 14) (v := 0) dX9_act_13 rfl (by decide) ?_
    exact z_iret dX9_act_14 rfl rfl ⟨Nat.le_refl _, Nat.le_refl _⟩ ⟨_, _, _, rfl, rfl, h⟩
set_option maxHeartbeats 4000000 in
set_option maxRecDepth 100000 in
theorem t_X9_trace {l : Launch} {G : zG} {d : Nat} {P : Int32 → zIM → zLM → Prop} {I : zIM} {L : zLM} {x1 : Int32}  (h : ((x1 < 0 → (P (-1 : Int32) I L)) ∧ (¬ x1 < 0 → ((((I 44 43) ≤ x1 → (P (-1 : Int32) I L)) ∧ (¬ (I 44 43) ≤ x1 → ((((24 : Int32) ≤ x1 → (P (-1 : Int32) I L)) ∧ (¬ (24 : Int32) ≤ x1 → (∃ j4 : Nat, x1 = nI j4 ∧ j4 < 24 ∧ (P (I 64 j4) I L))))))))))) : zCi l G d mX9_trace [.ref 44, .int x1] I L P := by
  refine zCn.of (ls := [some (.ref 44), some (.int x1)]) (by decide) (Nat.le_of_ble_eq_true rfl) rfl ?_
  refine z_iload_n (pc' := 1) (x := x1) dX9_trace_0 rfl rfl ?_
  refine z_if_lt (pc' := 4) (tgt := 27) dX9_trace_1 rfl (by decide) (fun c1 => ?_) (fun c1 => ?_)
  · replace h := h.1 c1
    refine z_iconst (pc' := 28) (v := -1) dX9_trace_27 rfl (by decide) ?_
    exact z_iret dX9_trace_28 rfl rfl ⟨Nat.le_refl _, Nat.le_refl _⟩ ⟨_, _, _, rfl, rfl, h⟩
  · replace h := h.2 c1
    refine z_iload_n (pc' := 5) (x := x1) dX9_trace_4 rfl rfl ?_
    refine z_aload_n (pc' := 6) (x := 44) dX9_trace_5 rfl rfl ?_
    refine z_geti (pc' := 9) (x := (I 44 43)) dX9_trace_6 rfl fl_X9_335 rfl rfl rfl ?_
    refine z_icmp_ge (pc' := 12) (tgt := 27) dX9_trace_9 rfl (by decide) (fun c2 => ?_) (fun c2 => ?_)
    · replace h := h.1 c2
      refine z_iconst (pc' := 28) (v := -1) dX9_trace_27 rfl (by decide) ?_
      exact z_iret dX9_trace_28 rfl rfl ⟨Nat.le_refl _, Nat.le_refl _⟩ ⟨_, _, _, rfl, rfl, h⟩
    · replace h := h.2 c2
      refine z_iload_n (pc' := 13) (x := x1) dX9_trace_12 rfl rfl ?_
      refine z_bipush (pc' := 15) (v := 24) dX9_trace_13 rfl (by decide) ?_
      refine z_icmp_ge (pc' := 18) (tgt := 27) dX9_trace_15 rfl (by decide) (fun c3 => ?_) (fun c3 => ?_)
      · replace h := h.1 c3
        refine z_iconst (pc' := 28) (v := -1) dX9_trace_27 rfl (by decide) ?_
        exact z_iret dX9_trace_28 rfl rfl ⟨Nat.le_refl _, Nat.le_refl _⟩ ⟨_, _, _, rfl, rfl, h⟩
      · replace h := h.2 c3
        refine z_aload_n (pc' := 19) (x := 44) dX9_trace_18 rfl rfl ?_
        refine z_getr (pc' := 22) (x := 64) dX9_trace_19 rfl fl_X9_68 rfl rfl rfl ?_
        refine z_iload_n (pc' := 23) (x := x1) dX9_trace_22 rfl rfl ?_
        obtain ⟨j4, ha4, hb4, h⟩ := h
        refine z_iald (pc' := 24) (x := (I 64 j4)) (j := j4) dX9_trace_23 rfl rfl (by decide) ha4 hb4 rfl ?_
        refine z_goto (pc' := 28) dX9_trace_24 (by decide) ?_
        exact z_iret dX9_trace_28 rfl rfl ⟨Nat.le_refl _, Nat.le_refl _⟩ ⟨_, _, _, rfl, rfl, h⟩
set_option maxHeartbeats 4000000 in
set_option maxRecDepth 100000 in
theorem t_X9_isShelf {l : Launch} {G : zG} {d : Nat} {P : Int32 → zIM → zLM → Prop} {I : zIM} {L : zLM} {x0 : Int32}  (h : ∃ (d1 : Nat) (P1 : Int32 → zIM → zLM → Prop), d1 + 1 ≤ d ∧ zCi l G d1 mX9_within [.long (x0.toInt64), .long (0 : Int64), .long (5 : Int64)] I L P1 ∧ ∀ (y1 : Int32) (I1 : zIM) (L1 : zLM), P1 y1 I1 L1 → ((y1 = 0 ∨ y1 = 1) ∧ P y1 I1 L1)) : zCi l G d mX9_isShelf [.int x0] I L P := by
  refine zCn.of (ls := [some (.int x0)]) (by decide) (Nat.le_of_ble_eq_true rfl) rfl ?_
  refine z_iload_n (pc' := 1) (x := x0) dX9_isShelf_0 rfl rfl ?_
  refine z_i2l (pc' := 2) dX9_isShelf_1 rfl ?_
  refine z_lconst (pc' := 3) (v := 0) dX9_isShelf_2 rfl (by decide) ?_
  refine z_ldc2 (pc' := 6) (v := 5) dX9_isShelf_3 rfl kl_X9_105 ?_
  obtain ⟨d1, P1, hd1, hC1, h⟩ := h
  refine z_callS (pc' := 9) (M' := mX9_within) (As := [.long (x0.toInt64), .long (0 : Int64), .long (5 : Int64)]) dX9_isShelf_6 rfl ml_X9_99 me_X9_within hC1 rfl hd1 (Nat.le_of_ble_eq_true rfl) ⟨Nat.le_refl _, Nat.le_refl _⟩ rfl ?_
  rintro _ _ ⟨y1, I1, L1, rfl, rfl, hP1⟩
  replace h := h y1 I1 L1 hP1
  exact z_iret dX9_isShelf_9 rfl (znb h.1) ⟨Nat.le_refl _, Nat.le_refl _⟩ ⟨_, _, _, rfl, rfl, h.2⟩
set_option maxHeartbeats 4000000 in
set_option maxRecDepth 100000 in
theorem t_X9_keep {l : Launch} {G : zG} {d : Nat} {P : Int32 → zIM → zLM → Prop} {I : zIM} {L : zLM} {x1 : Int32} {x2 : Int32}  (h : ∃ (d1 : Nat) (P1 : Int32 → zIM → zLM → Prop), d1 + 1 ≤ d ∧ zCi l G d1 mX9_isShelf [.int x1] I L P1 ∧ ∀ (y1 : Int32) (I1 : zIM) (L1 : zLM), P1 y1 I1 L1 → (((y1 = 0 → (P (-1 : Int32) I1 L1)) ∧ (¬ y1 = 0 → (((x2 = (-1 : Int32) → (∃ j4 : Nat, x1 = nI j4 ∧ j4 < 6 ∧ (P (1 : Int32) (xI (xI I1 65 j4 x2) 66 j4 (0 : Int32)) L1))) ∧ (¬ x2 = (-1 : Int32) → (∃ (d5 : Nat) (P5 : Int32 → zIM → zLM → Prop), d5 + 1 ≤ d ∧ zCi l G d5 mX9_isBody [.ref 44, .int x2] I1 L1 P5 ∧ ∀ (y5 : Int32) (I5 : zIM) (L5 : zLM), P5 y5 I5 L5 → (((¬ y5 = 0 → (∃ j7 : Nat, x1 = nI j7 ∧ j7 < 6 ∧ (P (1 : Int32) (xI (xI I5 65 j7 x2) 66 j7 (0 : Int32)) L5))) ∧ (y5 = 0 → (P (-1 : Int32) I5 L5)))))))))))) : zCi l G d mX9_keep [.ref 44, .int x1, .int x2] I L P := by
  refine zCn.of (ls := [some (.ref 44), some (.int x1), some (.int x2)]) (by decide) (Nat.le_of_ble_eq_true rfl) rfl ?_
  refine z_iload_n (pc' := 1) (x := x1) dX9_keep_0 rfl rfl ?_
  obtain ⟨d1, P1, hd1, hC1, h⟩ := h
  refine z_callS (pc' := 4) (M' := mX9_isShelf) (As := [.int x1]) dX9_keep_1 rfl ml_X9_118 me_X9_isShelf hC1 rfl hd1 (Nat.le_of_ble_eq_true rfl) ⟨Nat.le_refl _, Nat.le_refl _⟩ rfl ?_
  rintro _ _ ⟨y1, I1, L1, rfl, rfl, hP1⟩
  replace h := h y1 I1 L1 hP1
  refine z_if_eq (pc' := 7) (tgt := 20) dX9_keep_4 rfl (by decide) (fun c2 => ?_) (fun c2 => ?_)
  · replace h := h.1 c2
    refine z_iconst (pc' := 21) (v := -1) dX9_keep_20 rfl (by decide) ?_
    exact z_iret dX9_keep_21 rfl rfl ⟨Nat.le_refl _, Nat.le_refl _⟩ ⟨_, _, _, rfl, rfl, h⟩
  · replace h := h.2 c2
    refine z_iload_n (pc' := 8) (x := x2) dX9_keep_7 rfl rfl ?_
    refine z_iconst (pc' := 9) (v := -1) dX9_keep_8 rfl (by decide) ?_
    refine z_icmp_eq (pc' := 12) (tgt := 22) dX9_keep_9 rfl (by decide) (fun c3 => ?_) (fun c3 => ?_)
    · replace h := h.1 c3
      refine z_aload_n (pc' := 23) (x := 44) dX9_keep_22 rfl rfl ?_
      refine z_getr (pc' := 26) (x := 65) dX9_keep_23 rfl fl_X9_71 rfl rfl rfl ?_
      refine z_iload_n (pc' := 27) (x := x1) dX9_keep_26 rfl rfl ?_
      refine z_iload_n (pc' := 28) (x := x2) dX9_keep_27 rfl rfl ?_
      obtain ⟨j4, ha4, hb4, h⟩ := h
      refine z_iast (pc' := 29) (j := j4) (w' := zs (xI I1 65 j4 x2) L1) dX9_keep_28 rfl rfl (by decide) ha4 hb4 rfl ?_
      refine z_aload_n (pc' := 30) (x := 44) dX9_keep_29 rfl rfl ?_
      refine z_getr (pc' := 33) (x := 66) dX9_keep_30 rfl fl_X9_74 rfl rfl rfl ?_
      refine z_iload_n (pc' := 34) (x := x1) dX9_keep_33 rfl rfl ?_
      refine z_iconst (pc' := 35) (v := 0) dX9_keep_34 rfl (by decide) ?_
      refine z_iast (pc' := 36) (j := j4) (w' := zs (xI (xI I1 65 j4 x2) 66 j4 (0 : Int32)) L1) dX9_keep_35 rfl rfl (by decide) ha4 hb4 rfl ?_
      refine z_iconst (pc' := 37) (v := 1) dX9_keep_36 rfl (by decide) ?_
      exact z_iret dX9_keep_37 rfl rfl ⟨Nat.le_refl _, Nat.le_refl _⟩ ⟨_, _, _, rfl, rfl, h⟩
    · replace h := h.2 c3
      refine z_aload_n (pc' := 13) (x := 44) dX9_keep_12 rfl rfl ?_
      refine z_iload_n (pc' := 14) (x := x2) dX9_keep_13 rfl rfl ?_
      obtain ⟨d5, P5, hd5, hC5, h⟩ := h
      refine z_callV (pc' := 17) (M' := mX9_isBody) (As := [.int x2]) dX9_keep_14 rfl ml_X9_359 me_X9_isBody hC5 rfl (by decide) rfl rfl hd5 (Nat.le_of_ble_eq_true rfl) ⟨Nat.le_refl _, Nat.le_refl _⟩ rfl ?_
      rintro _ _ ⟨y5, I5, L5, rfl, rfl, hP5⟩
      replace h := h y5 I5 L5 hP5
      refine z_if_ne (pc' := 20) (tgt := 22) dX9_keep_17 rfl (by decide) (fun c6 => ?_) (fun c6 => ?_)
      · replace h := h.1 c6
        refine z_aload_n (pc' := 23) (x := 44) dX9_keep_22 rfl rfl ?_
        refine z_getr (pc' := 26) (x := 65) dX9_keep_23 rfl fl_X9_71 rfl rfl rfl ?_
        refine z_iload_n (pc' := 27) (x := x1) dX9_keep_26 rfl rfl ?_
        refine z_iload_n (pc' := 28) (x := x2) dX9_keep_27 rfl rfl ?_
        obtain ⟨j7, ha7, hb7, h⟩ := h
        refine z_iast (pc' := 29) (j := j7) (w' := zs (xI I5 65 j7 x2) L5) dX9_keep_28 rfl rfl (by decide) ha7 hb7 rfl ?_
        refine z_aload_n (pc' := 30) (x := 44) dX9_keep_29 rfl rfl ?_
        refine z_getr (pc' := 33) (x := 66) dX9_keep_30 rfl fl_X9_74 rfl rfl rfl ?_
        refine z_iload_n (pc' := 34) (x := x1) dX9_keep_33 rfl rfl ?_
        refine z_iconst (pc' := 35) (v := 0) dX9_keep_34 rfl (by decide) ?_
        refine z_iast (pc' := 36) (j := j7) (w' := zs (xI (xI I5 65 j7 x2) 66 j7 (0 : Int32)) L5) dX9_keep_35 rfl rfl (by decide) ha7 hb7 rfl ?_
        refine z_iconst (pc' := 37) (v := 1) dX9_keep_36 rfl (by decide) ?_
        exact z_iret dX9_keep_37 rfl rfl ⟨Nat.le_refl _, Nat.le_refl _⟩ ⟨_, _, _, rfl, rfl, h⟩
      · replace h := h.2 c6
        refine z_iconst (pc' := 21) (v := -1) dX9_keep_20 rfl (by decide) ?_
        exact z_iret dX9_keep_21 rfl rfl ⟨Nat.le_refl _, Nat.le_refl _⟩ ⟨_, _, _, rfl, rfl, h⟩
set_option maxHeartbeats 4000000 in
set_option maxRecDepth 100000 in
theorem t_X9_row {l : Launch} {G : zG} {d : Nat} {P : Int32 → zIM → zLM → Prop} {I : zIM} {L : zLM} {x1 : Int32} {x2 : Int32} {x3 : Int32}  (h : ∃ (d1 : Nat) (P1 : Int32 → zIM → zLM → Prop), d1 + 1 ≤ d ∧ zCi l G d1 mX9_isShelf [.int x1] I L P1 ∧ ∀ (y1 : Int32) (I1 : zIM) (L1 : zLM), P1 y1 I1 L1 → (((y1 = 0 → (P (-1 : Int32) I1 L1)) ∧ (¬ y1 = 0 → (∃ (d3 : Nat) (P3 : Int32 → zIM → zLM → Prop), d3 + 1 ≤ d ∧ zCi l G d3 mX9_within [.long (x2.toInt64), .long (0 : Int64), .long (4 : Int64)] I1 L1 P3 ∧ ∀ (y3 : Int32) (I3 : zIM) (L3 : zLM), P3 y3 I3 L3 → (((y3 = 0 → (P (-1 : Int32) I3 L3)) ∧ (¬ y3 = 0 → (((x3 ≤ (60 : Int32) → (((0 ≤ x3 → (∃ j7 : Nat, x1 = nI j7 ∧ j7 < 6 ∧ (K_X9_row_57 l G d P (xI (xI I3 65 j7 ((50 : Int32) + x2)) 66 j7 x3) L3 x1 ((60 : Int32) * x1)))) ∧ (¬ 0 ≤ x3 → (P (-14 : Int32) I3 L3))))) ∧ (¬ x3 ≤ (60 : Int32) → (P (-1 : Int32) I3 L3)))))))))))) : zCi l G d mX9_row [.ref 44, .int x1, .int x2, .int x3] I L P := by
  refine zCn.of (ls := [some (.ref 44), some (.int x1), some (.int x2), some (.int x3), none]) (by decide) (Nat.le_of_ble_eq_true rfl) rfl ?_
  refine z_iload_n (pc' := 1) (x := x1) dX9_row_0 rfl rfl ?_
  obtain ⟨d1, P1, hd1, hC1, h⟩ := h
  refine z_callS (pc' := 4) (M' := mX9_isShelf) (As := [.int x1]) dX9_row_1 rfl ml_X9_118 me_X9_isShelf hC1 rfl hd1 (Nat.le_of_ble_eq_true rfl) ⟨Nat.le_refl _, Nat.le_refl _⟩ rfl ?_
  rintro _ _ ⟨y1, I1, L1, rfl, rfl, hP1⟩
  replace h := h y1 I1 L1 hP1
  refine z_if_eq (pc' := 7) (tgt := 25) dX9_row_4 rfl (by decide) (fun c2 => ?_) (fun c2 => ?_)
  · replace h := h.1 c2
    refine z_iconst (pc' := 26) (v := -1) dX9_row_25 rfl (by decide) ?_
    exact z_iret dX9_row_26 rfl rfl ⟨Nat.le_refl _, Nat.le_refl _⟩ ⟨_, _, _, rfl, rfl, h⟩
  · replace h := h.2 c2
    refine z_iload_n (pc' := 8) (x := x2) dX9_row_7 rfl rfl ?_
    refine z_i2l (pc' := 9) dX9_row_8 rfl ?_
    refine z_lconst (pc' := 10) (v := 0) dX9_row_9 rfl (by decide) ?_
    refine z_ldc2 (pc' := 13) (v := 4) dX9_row_10 rfl kl_X9_122 ?_
    obtain ⟨d3, P3, hd3, hC3, h⟩ := h
    refine z_callS (pc' := 16) (M' := mX9_within) (As := [.long (x2.toInt64), .long (0 : Int64), .long (4 : Int64)]) dX9_row_13 rfl ml_X9_99 me_X9_within hC3 rfl hd3 (Nat.le_of_ble_eq_true rfl) ⟨Nat.le_refl _, Nat.le_refl _⟩ rfl ?_
    rintro _ _ ⟨y3, I3, L3, rfl, rfl, hP3⟩
    replace h := h y3 I3 L3 hP3
    refine z_if_eq (pc' := 19) (tgt := 25) dX9_row_16 rfl (by decide) (fun c4 => ?_) (fun c4 => ?_)
    · replace h := h.1 c4
      refine z_iconst (pc' := 26) (v := -1) dX9_row_25 rfl (by decide) ?_
      exact z_iret dX9_row_26 rfl rfl ⟨Nat.le_refl _, Nat.le_refl _⟩ ⟨_, _, _, rfl, rfl, h⟩
    · replace h := h.2 c4
      refine z_iload_n (pc' := 20) (x := x3) dX9_row_19 rfl rfl ?_
      refine z_bipush (pc' := 22) (v := 60) dX9_row_20 rfl (by decide) ?_
      refine z_icmp_le (pc' := 25) (tgt := 27) dX9_row_22 rfl (by decide) (fun c5 => ?_) (fun c5 => ?_)
      · replace h := h.1 c5
        refine z_iload_n (pc' := 28) (x := x3) dX9_row_27 rfl rfl ?_
        refine z_if_ge (pc' := 31) (tgt := 34) dX9_row_28 rfl (by decide) (fun c6 => ?_) (fun c6 => ?_)
        · replace h := h.1 c6
          refine z_aload_n (pc' := 35) (x := 44) dX9_row_34 rfl rfl ?_
          refine z_getr (pc' := 38) (x := 65) dX9_row_35 rfl fl_X9_71 rfl rfl rfl ?_
          refine z_iload_n (pc' := 39) (x := x1) dX9_row_38 rfl rfl ?_
          refine z_bipush (pc' := 41) (v := 50) dX9_row_39 rfl (by decide) ?_
          refine z_iload_n (pc' := 42) (x := x2) dX9_row_41 rfl rfl ?_
          refine z_iadd (pc' := 43) dX9_row_42 rfl ?_
          obtain ⟨j7, ha7, hb7, h⟩ := h
          refine z_iast (pc' := 44) (j := j7) (w' := zs (xI I3 65 j7 ((50 : Int32) + x2)) L3) dX9_row_43 rfl rfl (by decide) ha7 hb7 rfl ?_
          refine z_aload_n (pc' := 45) (x := 44) dX9_row_44 rfl rfl ?_
          refine z_getr (pc' := 48) (x := 66) dX9_row_45 rfl fl_X9_74 rfl rfl rfl ?_
          refine z_iload_n (pc' := 49) (x := x1) dX9_row_48 rfl rfl ?_
          refine z_iload_n (pc' := 50) (x := x3) dX9_row_49 rfl rfl ?_
          refine z_iast (pc' := 51) (j := j7) (w' := zs (xI (xI I3 65 j7 ((50 : Int32) + x2)) 66 j7 x3) L3) dX9_row_50 rfl rfl (by decide) ha7 hb7 rfl ?_
          refine z_bipush (pc' := 53) (v := 60) dX9_row_51 rfl (by decide) ?_
          refine z_iload_n (pc' := 54) (x := x1) dX9_row_53 rfl rfl ?_
          refine z_imul (pc' := 55) dX9_row_54 rfl ?_
          refine z_istore (pc' := 57) (ls' := [some (.ref 44), some (.int x1), some (.int x2), some (.int x3), some (.int ((60 : Int32) * x1))]) dX9_row_55 rfl (by decide) rfl ?_
          refine z_sub (pc' := 0) [some (.ref 44), some (.int x1), none, none, some (.int ((60 : Int32) * x1))] (zsub_s (zsub_s (zsub_n (zsub_n (zsub_s zsub_nil))))) ?_
          exact h
        · replace h := h.2 c6
          refine z_bipush (pc' := 33) (v := -14) dX9_row_31 rfl (by decide) ?_
          exact z_iret dX9_row_33 rfl rfl ⟨Nat.le_refl _, Nat.le_refl _⟩ ⟨_, _, _, rfl, rfl, h⟩
      · replace h := h.2 c5
        refine z_iconst (pc' := 26) (v := -1) dX9_row_25 rfl (by decide) ?_
        exact z_iret dX9_row_26 rfl rfl ⟨Nat.le_refl _, Nat.le_refl _⟩ ⟨_, _, _, rfl, rfl, h⟩
set_option maxHeartbeats 4000000 in
set_option maxRecDepth 100000 in
theorem t_X9_row_57 {l : Launch} {G : zG} {d : Nat} {P : Int32 → zIM → zLM → Prop} {I : zIM} {L : zLM} {x1 : Int32} {x4 : Int32}   (h : (((((60 : Int32) * x1) + (60 : Int32)) ≤ x4 → (P (1 : Int32) I L)) ∧ (¬ (((60 : Int32) * x1) + (60 : Int32)) ≤ x4 → (∃ j2 : Nat, x4 = nI j2 ∧ j2 < 360 ∧ (K_X9_row_57 l G d P I (xL L 67 j2 (0 : Int64)) x1 (x4 + (1 : Int32))))))) : K_X9_row_57 l G d P I L x1 x4  := by
  refine z_iload (pc' := 59) (x := x4) dX9_row_57 rfl rfl ?_
  refine z_bipush (pc' := 61) (v := 60) dX9_row_59 rfl (by decide) ?_
  refine z_iload_n (pc' := 62) (x := x1) dX9_row_61 rfl rfl ?_
  refine z_imul (pc' := 63) dX9_row_62 rfl ?_
  refine z_bipush (pc' := 65) (v := 60) dX9_row_63 rfl (by decide) ?_
  refine z_iadd (pc' := 66) dX9_row_65 rfl ?_
  refine z_icmp_ge (pc' := 69) (tgt := 83) dX9_row_66 rfl (by decide) (fun c1 => ?_) (fun c1 => ?_)
  · replace h := h.1 c1
    refine z_iconst (pc' := 84) (v := 1) dX9_row_83 rfl (by decide) ?_
    exact z_iret dX9_row_84 rfl rfl ⟨Nat.le_refl _, Nat.le_refl _⟩ ⟨_, _, _, rfl, rfl, h⟩
  · replace h := h.2 c1
    refine z_aload_n (pc' := 70) (x := 44) dX9_row_69 rfl rfl ?_
    refine z_getr (pc' := 73) (x := 67) dX9_row_70 rfl fl_X9_77 rfl rfl rfl ?_
    refine z_iload (pc' := 75) (x := x4) dX9_row_73 rfl rfl ?_
    refine z_lconst (pc' := 76) (v := 0) dX9_row_75 rfl (by decide) ?_
    obtain ⟨j2, ha2, hb2, h⟩ := h
    refine z_last (pc' := 77) (j := j2) (w' := zs I (xL L 67 j2 (0 : Int64))) dX9_row_76 rfl rfl (by decide) ha2 hb2 rfl ?_
    refine z_iinc (pc' := 80) (x := x4) (v := (x4 + (1 : Int32))) (ls' := [some (.ref 44), some (.int x1), none, none, some (.int (x4 + (1 : Int32)))]) dX9_row_77 rfl rfl (by rfl) (by decide) rfl ?_
    refine z_goto (pc' := 57) dX9_row_80 (by decide) ?_
    exact h
set_option maxHeartbeats 4000000 in
set_option maxRecDepth 100000 in
theorem t_X9_refusal {l : Launch} {G : zG} {d : Nat} {P : Int32 → zIM → zLM → Prop} {I : zIM} {L : zLM} {x1 : Int32} {x2 : Int32}  (h : ∃ (d1 : Nat) (P1 : Int32 → zIM → zLM → Prop), d1 + 1 ≤ d ∧ zCi l G d1 mX9_isShelf [.int x1] I L P1 ∧ ∀ (y1 : Int32) (I1 : zIM) (L1 : zLM), P1 y1 I1 L1 → (((¬ y1 = 0 → (∃ j3 : Nat, x1 = nI j3 ∧ j3 < 6 ∧ (((0 ≤ (I1 65 j3) → ((((50 : Int32) ≤ (I1 65 j3) → (((x2 < 0 → (P (-13 : Int32) I1 L1)) ∧ (¬ x2 < 0 → ((((I1 66 j3) ≤ x2 → (P (-13 : Int32) I1 L1)) ∧ (¬ (I1 66 j3) ≤ x2 → (P (0 : Int32) I1 L1)))))))) ∧ (¬ (50 : Int32) ≤ (I1 65 j3) → (P (-12 : Int32) I1 L1))))) ∧ (¬ 0 ≤ (I1 65 j3) → (P (-11 : Int32) I1 L1)))))) ∧ (y1 = 0 → (P (-1 : Int32) I1 L1))))) : zCi l G d mX9_refusal [.ref 44, .int x1, .int x2] I L P := by
  refine zCn.of (ls := [some (.ref 44), some (.int x1), some (.int x2)]) (by decide) (Nat.le_of_ble_eq_true rfl) rfl ?_
  refine z_iload_n (pc' := 1) (x := x1) dX9_refusal_0 rfl rfl ?_
  obtain ⟨d1, P1, hd1, hC1, h⟩ := h
  refine z_callS (pc' := 4) (M' := mX9_isShelf) (As := [.int x1]) dX9_refusal_1 rfl ml_X9_118 me_X9_isShelf hC1 rfl hd1 (Nat.le_of_ble_eq_true rfl) ⟨Nat.le_refl _, Nat.le_refl _⟩ rfl ?_
  rintro _ _ ⟨y1, I1, L1, rfl, rfl, hP1⟩
  replace h := h y1 I1 L1 hP1
  refine z_if_ne (pc' := 7) (tgt := 9) dX9_refusal_4 rfl (by decide) (fun c2 => ?_) (fun c2 => ?_)
  · replace h := h.1 c2
    refine z_aload_n (pc' := 10) (x := 44) dX9_refusal_9 rfl rfl ?_
    refine z_getr (pc' := 13) (x := 65) dX9_refusal_10 rfl fl_X9_71 rfl rfl rfl ?_
    refine z_iload_n (pc' := 14) (x := x1) dX9_refusal_13 rfl rfl ?_
    obtain ⟨j3, ha3, hb3, h⟩ := h
    refine z_iald (pc' := 15) (x := (I1 65 j3)) (j := j3) dX9_refusal_14 rfl rfl (by decide) ha3 hb3 rfl ?_
    refine z_if_ge (pc' := 18) (tgt := 21) dX9_refusal_15 rfl (by decide) (fun c4 => ?_) (fun c4 => ?_)
    · replace h := h.1 c4
      refine z_aload_n (pc' := 22) (x := 44) dX9_refusal_21 rfl rfl ?_
      refine z_getr (pc' := 25) (x := 65) dX9_refusal_22 rfl fl_X9_71 rfl rfl rfl ?_
      refine z_iload_n (pc' := 26) (x := x1) dX9_refusal_25 rfl rfl ?_
      refine z_iald (pc' := 27) (x := (I1 65 j3)) (j := j3) dX9_refusal_26 rfl rfl (by decide) ha3 hb3 rfl ?_
      refine z_bipush (pc' := 29) (v := 50) dX9_refusal_27 rfl (by decide) ?_
      refine z_icmp_ge (pc' := 32) (tgt := 35) dX9_refusal_29 rfl (by decide) (fun c5 => ?_) (fun c5 => ?_)
      · replace h := h.1 c5
        refine z_iload_n (pc' := 36) (x := x2) dX9_refusal_35 rfl rfl ?_
        refine z_if_lt (pc' := 39) (tgt := 53) dX9_refusal_36 rfl (by decide) (fun c6 => ?_) (fun c6 => ?_)
        · replace h := h.1 c6
          refine z_bipush (pc' := 55) (v := -13) dX9_refusal_53 rfl (by decide) ?_
          exact z_iret dX9_refusal_55 rfl rfl ⟨Nat.le_refl _, Nat.le_refl _⟩ ⟨_, _, _, rfl, rfl, h⟩
        · replace h := h.2 c6
          refine z_iload_n (pc' := 40) (x := x2) dX9_refusal_39 rfl rfl ?_
          refine z_aload_n (pc' := 41) (x := 44) dX9_refusal_40 rfl rfl ?_
          refine z_getr (pc' := 44) (x := 66) dX9_refusal_41 rfl fl_X9_74 rfl rfl rfl ?_
          refine z_iload_n (pc' := 45) (x := x1) dX9_refusal_44 rfl rfl ?_
          refine z_iald (pc' := 46) (x := (I1 66 j3)) (j := j3) dX9_refusal_45 rfl rfl (by decide) ha3 hb3 rfl ?_
          refine z_icmp_ge (pc' := 49) (tgt := 53) dX9_refusal_46 rfl (by decide) (fun c7 => ?_) (fun c7 => ?_)
          · replace h := h.1 c7
            refine z_bipush (pc' := 55) (v := -13) dX9_refusal_53 rfl (by decide) ?_
            exact z_iret dX9_refusal_55 rfl rfl ⟨Nat.le_refl _, Nat.le_refl _⟩ ⟨_, _, _, rfl, rfl, h⟩
          · replace h := h.2 c7
            refine z_iconst (pc' := 50) (v := 0) dX9_refusal_49 rfl (by decide) ?_
            refine z_goto (pc' := 55) dX9_refusal_50 (by decide) ?_
            exact z_iret dX9_refusal_55 rfl rfl ⟨Nat.le_refl _, Nat.le_refl _⟩ ⟨_, _, _, rfl, rfl, h⟩
      · replace h := h.2 c5
        refine z_bipush (pc' := 34) (v := -12) dX9_refusal_32 rfl (by decide) ?_
        exact z_iret dX9_refusal_34 rfl rfl ⟨Nat.le_refl _, Nat.le_refl _⟩ ⟨_, _, _, rfl, rfl, h⟩
    · replace h := h.2 c4
      refine z_bipush (pc' := 20) (v := -11) dX9_refusal_18 rfl (by decide) ?_
      exact z_iret dX9_refusal_20 rfl rfl ⟨Nat.le_refl _, Nat.le_refl _⟩ ⟨_, _, _, rfl, rfl, h⟩
  · replace h := h.2 c2
    refine z_iconst (pc' := 8) (v := -1) dX9_refusal_7 rfl (by decide) ?_
    exact z_iret dX9_refusal_8 rfl rfl ⟨Nat.le_refl _, Nat.le_refl _⟩ ⟨_, _, _, rfl, rfl, h⟩
set_option maxHeartbeats 4000000 in
set_option maxRecDepth 100000 in
theorem t_X9_asSort {l : Launch} {G : zG} {d : Nat} {P : Int64 → zIM → zLM → Prop} {I : zIM} {L : zLM} {x0 : Int32} {x1 : Int64}  (h : ((¬ x0 = 0 → (((¬ x0 = (1 : Int32) → (((¬ x0 = (2 : Int32) → (((¬ x0 = (4 : Int32) → (P x1 I L)) ∧ (x0 = (4 : Int32) → (((x1 = (0 : Int64) → (P (0 : Int64) I L)) ∧ (¬ x1 = (0 : Int64) → (P (1 : Int64) I L)))))))) ∧ (x0 = (2 : Int32) → (P ((x1.toInt32).toInt64) I L))))) ∧ (x0 = (1 : Int32) → (P (((x1.toInt32).toInt16.toInt32).toInt64) I L))))) ∧ (x0 = 0 → (P (((x1.toInt32).toInt8.toInt32).toInt64) I L)))) : zCl l G d mX9_asSort [.int x0, .long x1] I L P := by
  refine zCn.of (ls := [some (.int x0), some (.long x1), none]) (by decide) (Nat.le_of_ble_eq_true rfl) rfl ?_
  refine z_iload_n (pc' := 1) (x := x0) dX9_asSort_0 rfl rfl ?_
  refine z_if_ne (pc' := 4) (tgt := 11) dX9_asSort_1 rfl (by decide) (fun c1 => ?_) (fun c1 => ?_)
  · replace h := h.1 c1
    refine z_iload_n (pc' := 12) (x := x0) dX9_asSort_11 rfl rfl ?_
    refine z_iconst (pc' := 13) (v := 1) dX9_asSort_12 rfl (by decide) ?_
    refine z_icmp_ne (pc' := 16) (tgt := 23) dX9_asSort_13 rfl (by decide) (fun c2 => ?_) (fun c2 => ?_)
    · replace h := h.1 c2
      refine z_iload_n (pc' := 24) (x := x0) dX9_asSort_23 rfl rfl ?_
      refine z_iconst (pc' := 25) (v := 2) dX9_asSort_24 rfl (by decide) ?_
      refine z_icmp_ne (pc' := 28) (tgt := 34) dX9_asSort_25 rfl (by decide) (fun c3 => ?_) (fun c3 => ?_)
      · replace h := h.1 c3
        refine z_iload_n (pc' := 35) (x := x0) dX9_asSort_34 rfl rfl ?_
        refine z_iconst (pc' := 36) (v := 4) dX9_asSort_35 rfl (by decide) ?_
        refine z_icmp_ne (pc' := 39) (tgt := 53) dX9_asSort_36 rfl (by decide) (fun c4 => ?_) (fun c4 => ?_)
        · replace h := h.1 c4
          refine z_lload_n (pc' := 54) (x := x1) dX9_asSort_53 rfl rfl ?_
          exact z_lret dX9_asSort_54 rfl ⟨Nat.le_refl _, Nat.le_refl _⟩ ⟨_, _, _, rfl, rfl, h⟩
        · replace h := h.2 c4
          refine z_lload_n (pc' := 40) (x := x1) dX9_asSort_39 rfl rfl ?_
          refine z_lconst (pc' := 41) (v := 0) dX9_asSort_40 rfl (by decide) ?_
          refine z_lc_eq (pc' := 45) (tgt := 49) dX9_asSort_41 dX9_asSort_42 rfl (by decide) (fun c5 => ?_) (fun c5 => ?_)
          · replace h := h.1 c5
            refine z_lconst (pc' := 50) (v := 0) dX9_asSort_49 rfl (by decide) ?_
            refine z_goto (pc' := 54) dX9_asSort_50 (by decide) ?_
            exact z_lret dX9_asSort_54 rfl ⟨Nat.le_refl _, Nat.le_refl _⟩ ⟨_, _, _, rfl, rfl, h⟩
          · replace h := h.2 c5
            refine z_lconst (pc' := 46) (v := 1) dX9_asSort_45 rfl (by decide) ?_
            refine z_goto (pc' := 54) dX9_asSort_46 (by decide) ?_
            exact z_lret dX9_asSort_54 rfl ⟨Nat.le_refl _, Nat.le_refl _⟩ ⟨_, _, _, rfl, rfl, h⟩
      · replace h := h.2 c3
        refine z_lload_n (pc' := 29) (x := x1) dX9_asSort_28 rfl rfl ?_
        refine z_l2i (pc' := 30) dX9_asSort_29 rfl ?_
        refine z_i2l (pc' := 31) dX9_asSort_30 rfl ?_
        refine z_goto (pc' := 54) dX9_asSort_31 (by decide) ?_
        exact z_lret dX9_asSort_54 rfl ⟨Nat.le_refl _, Nat.le_refl _⟩ ⟨_, _, _, rfl, rfl, h⟩
    · replace h := h.2 c2
      refine z_lload_n (pc' := 17) (x := x1) dX9_asSort_16 rfl rfl ?_
      refine z_l2i (pc' := 18) dX9_asSort_17 rfl ?_
      refine z_i2s (pc' := 19) dX9_asSort_18 rfl ?_
      refine z_i2l (pc' := 20) dX9_asSort_19 rfl ?_
      refine z_goto (pc' := 54) dX9_asSort_20 (by decide) ?_
      exact z_lret dX9_asSort_54 rfl ⟨Nat.le_refl _, Nat.le_refl _⟩ ⟨_, _, _, rfl, rfl, h⟩
  · replace h := h.2 c1
    refine z_lload_n (pc' := 5) (x := x1) dX9_asSort_4 rfl rfl ?_
    refine z_l2i (pc' := 6) dX9_asSort_5 rfl ?_
    refine z_i2b (pc' := 7) dX9_asSort_6 rfl ?_
    refine z_i2l (pc' := 8) dX9_asSort_7 rfl ?_
    refine z_goto (pc' := 54) dX9_asSort_8 (by decide) ?_
    exact z_lret dX9_asSort_54 rfl ⟨Nat.le_refl _, Nat.le_refl _⟩ ⟨_, _, _, rfl, rfl, h⟩
set_option maxHeartbeats 4000000 in
set_option maxRecDepth 100000 in
theorem t_X9_put {l : Launch} {G : zG} {d : Nat} {P : Int32 → zIM → zLM → Prop} {I : zIM} {L : zLM} {x1 : Int32} {x2 : Int32} {x3 : Int64}  (h : ∃ (d1 : Nat) (P1 : Int32 → zIM → zLM → Prop), d1 + 1 ≤ d ∧ zCi l G d1 mX9_refusal [.ref 44, .int x1, .int x2] I L P1 ∧ ∀ (y1 : Int32) (I1 : zIM) (L1 : zLM), P1 y1 I1 L1 → (((¬ y1 = 0 → (((¬ y1 = 0 → (P y1 I1 L1)) ∧ (y1 = 0 → (P (1 : Int32) I1 L1))))) ∧ (y1 = 0 → (∃ j4 : Nat, x1 = nI j4 ∧ j4 < 6 ∧ (∃ (d5 : Nat) (P5 : Int64 → zIM → zLM → Prop), d5 + 1 ≤ d ∧ zCl l G d5 mX9_asSort [.int ((I1 65 j4) - (50 : Int32)), .long x3] I1 L1 P5 ∧ ∀ (y5 : Int64) (I5 : zIM) (L5 : zLM), P5 y5 I5 L5 → (∃ j6 : Nat, (((60 : Int32) * x1) + x2) = nI j6 ∧ j6 < 360 ∧ (((¬ y1 = 0 → (P y1 I5 (xL L5 67 j6 y5))) ∧ (y1 = 0 → (P (1 : Int32) I5 (xL L5 67 j6 y5)))))))))))) : zCi l G d mX9_put [.ref 44, .int x1, .int x2, .long x3] I L P := by
  refine zCn.of (ls := [some (.ref 44), some (.int x1), some (.int x2), some (.long x3), none, none]) (by decide) (Nat.le_of_ble_eq_true rfl) rfl ?_
  refine z_aload_n (pc' := 1) (x := 44) dX9_put_0 rfl rfl ?_
  refine z_iload_n (pc' := 2) (x := x1) dX9_put_1 rfl rfl ?_
  refine z_iload_n (pc' := 3) (x := x2) dX9_put_2 rfl rfl ?_
  obtain ⟨d1, P1, hd1, hC1, h⟩ := h
  refine z_callV (pc' := 6) (M' := mX9_refusal) (As := [.int x1, .int x2]) dX9_put_3 rfl ml_X9_362 me_X9_refusal hC1 rfl (by decide) rfl rfl hd1 (Nat.le_of_ble_eq_true rfl) ⟨Nat.le_refl _, Nat.le_refl _⟩ rfl ?_
  rintro _ _ ⟨y1, I1, L1, rfl, rfl, hP1⟩
  replace h := h y1 I1 L1 hP1
  refine z_istore (pc' := 8) (ls' := [some (.ref 44), some (.int x1), some (.int x2), some (.long x3), none, some (.int y1)]) dX9_put_6 rfl (by decide) rfl ?_
  refine z_iload (pc' := 10) (x := y1) dX9_put_8 rfl rfl ?_
  refine z_if_ne (pc' := 13) (tgt := 37) dX9_put_10 rfl (by decide) (fun c2 => ?_) (fun c2 => ?_)
  · replace h := h.1 c2
    refine z_iload (pc' := 39) (x := y1) dX9_put_37 rfl rfl ?_
    refine z_if_ne (pc' := 42) (tgt := 46) dX9_put_39 rfl (by decide) (fun c3 => ?_) (fun c3 => ?_)
    · replace h := h.1 c3
      refine z_iload (pc' := 48) (x := y1) dX9_put_46 rfl rfl ?_
      exact z_iret dX9_put_48 rfl rfl ⟨Nat.le_refl _, Nat.le_refl _⟩ ⟨_, _, _, rfl, rfl, h⟩
    · replace h := h.2 c3
      refine z_iconst (pc' := 43) (v := 1) dX9_put_42 rfl (by decide) ?_
      refine z_goto (pc' := 48) dX9_put_43 (by decide) ?_
      exact z_iret dX9_put_48 rfl rfl ⟨Nat.le_refl _, Nat.le_refl _⟩ ⟨_, _, _, rfl, rfl, h⟩
  · replace h := h.2 c2
    refine z_aload_n (pc' := 14) (x := 44) dX9_put_13 rfl rfl ?_
    refine z_getr (pc' := 17) (x := 67) dX9_put_14 rfl fl_X9_77 rfl rfl rfl ?_
    refine z_bipush (pc' := 19) (v := 60) dX9_put_17 rfl (by decide) ?_
    refine z_iload_n (pc' := 20) (x := x1) dX9_put_19 rfl rfl ?_
    refine z_imul (pc' := 21) dX9_put_20 rfl ?_
    refine z_iload_n (pc' := 22) (x := x2) dX9_put_21 rfl rfl ?_
    refine z_iadd (pc' := 23) dX9_put_22 rfl ?_
    refine z_aload_n (pc' := 24) (x := 44) dX9_put_23 rfl rfl ?_
    refine z_getr (pc' := 27) (x := 65) dX9_put_24 rfl fl_X9_71 rfl rfl rfl ?_
    refine z_iload_n (pc' := 28) (x := x1) dX9_put_27 rfl rfl ?_
    obtain ⟨j4, ha4, hb4, h⟩ := h
    refine z_iald (pc' := 29) (x := (I1 65 j4)) (j := j4) dX9_put_28 rfl rfl (by decide) ha4 hb4 rfl ?_
    refine z_bipush (pc' := 31) (v := 50) dX9_put_29 rfl (by decide) ?_
    refine z_isub (pc' := 32) dX9_put_31 rfl ?_
    refine z_lload_n (pc' := 33) (x := x3) dX9_put_32 rfl rfl ?_
    obtain ⟨d5, P5, hd5, hC5, h⟩ := h
    refine z_callS (pc' := 36) (M' := mX9_asSort) (As := [.int ((I1 65 j4) - (50 : Int32)), .long x3]) dX9_put_33 rfl ml_X9_365 me_X9_asSort hC5 rfl hd5 (Nat.le_of_ble_eq_true rfl) ⟨Nat.le_refl _, Nat.le_refl _⟩ rfl ?_
    rintro _ _ ⟨y5, I5, L5, rfl, rfl, hP5⟩
    replace h := h y5 I5 L5 hP5
    obtain ⟨j6, ha6, hb6, h⟩ := h
    refine z_last (pc' := 37) (j := j6) (w' := zs I5 (xL L5 67 j6 y5)) dX9_put_36 rfl rfl (by decide) ha6 hb6 rfl ?_
    refine z_iload (pc' := 39) (x := y1) dX9_put_37 rfl rfl ?_
    refine z_if_ne (pc' := 42) (tgt := 46) dX9_put_39 rfl (by decide) (fun c7 => ?_) (fun c7 => ?_)
    · replace h := h.1 c7
      refine z_iload (pc' := 48) (x := y1) dX9_put_46 rfl rfl ?_
      exact z_iret dX9_put_48 rfl rfl ⟨Nat.le_refl _, Nat.le_refl _⟩ ⟨_, _, _, rfl, rfl, h⟩
    · replace h := h.2 c7
      refine z_iconst (pc' := 43) (v := 1) dX9_put_42 rfl (by decide) ?_
      refine z_goto (pc' := 48) dX9_put_43 (by decide) ?_
      exact z_iret dX9_put_48 rfl rfl ⟨Nat.le_refl _, Nat.le_refl _⟩ ⟨_, _, _, rfl, rfl, h⟩
set_option maxHeartbeats 4000000 in
set_option maxRecDepth 100000 in
theorem t_X9_element {l : Launch} {G : zG} {d : Nat} {P : Int64 → zIM → zLM → Prop} {I : zIM} {L : zLM} {x1 : Int32} {x2 : Int32}  (h : ∃ (d1 : Nat) (P1 : Int32 → zIM → zLM → Prop), d1 + 1 ≤ d ∧ zCi l G d1 mX9_refusal [.ref 44, .int x1, .int x2] I L P1 ∧ ∀ (y1 : Int32) (I1 : zIM) (L1 : zLM), P1 y1 I1 L1 → (((y1 = 0 → (∃ j3 : Nat, (((60 : Int32) * x1) + x2) = nI j3 ∧ j3 < 360 ∧ (P (L1 67 j3) I1 L1))) ∧ (¬ y1 = 0 → (P (-9223372036854775808 : Int64) I1 L1))))) : zCl l G d mX9_element [.ref 44, .int x1, .int x2] I L P := by
  refine zCn.of (ls := [some (.ref 44), some (.int x1), some (.int x2)]) (by decide) (Nat.le_of_ble_eq_true rfl) rfl ?_
  refine z_aload_n (pc' := 1) (x := 44) dX9_element_0 rfl rfl ?_
  refine z_iload_n (pc' := 2) (x := x1) dX9_element_1 rfl rfl ?_
  refine z_iload_n (pc' := 3) (x := x2) dX9_element_2 rfl rfl ?_
  obtain ⟨d1, P1, hd1, hC1, h⟩ := h
  refine z_callV (pc' := 6) (M' := mX9_refusal) (As := [.int x1, .int x2]) dX9_element_3 rfl ml_X9_362 me_X9_refusal hC1 rfl (by decide) rfl rfl hd1 (Nat.le_of_ble_eq_true rfl) ⟨Nat.le_refl _, Nat.le_refl _⟩ rfl ?_
  rintro _ _ ⟨y1, I1, L1, rfl, rfl, hP1⟩
  replace h := h y1 I1 L1 hP1
  refine z_if_eq (pc' := 9) (tgt := 15) dX9_element_6 rfl (by decide) (fun c2 => ?_) (fun c2 => ?_)
  · replace h := h.1 c2
    refine z_aload_n (pc' := 16) (x := 44) dX9_element_15 rfl rfl ?_
    refine z_getr (pc' := 19) (x := 67) dX9_element_16 rfl fl_X9_77 rfl rfl rfl ?_
    refine z_bipush (pc' := 21) (v := 60) dX9_element_19 rfl (by decide) ?_
    refine z_iload_n (pc' := 22) (x := x1) dX9_element_21 rfl rfl ?_
    refine z_imul (pc' := 23) dX9_element_22 rfl ?_
    refine z_iload_n (pc' := 24) (x := x2) dX9_element_23 rfl rfl ?_
    refine z_iadd (pc' := 25) dX9_element_24 rfl ?_
    obtain ⟨j3, ha3, hb3, h⟩ := h
    refine z_lald (pc' := 26) (x := (L1 67 j3)) (j := j3) dX9_element_25 rfl rfl (by decide) ha3 hb3 rfl ?_
    exact z_lret dX9_element_26 rfl ⟨Nat.le_refl _, Nat.le_refl _⟩ ⟨_, _, _, rfl, rfl, h⟩
  · replace h := h.2 c2
    refine z_ldc2 (pc' := 12) (v := -9223372036854775808) dX9_element_9 rfl kl_X9_260 ?_
    refine z_goto (pc' := 26) dX9_element_12 (by decide) ?_
    exact z_lret dX9_element_26 rfl ⟨Nat.le_refl _, Nat.le_refl _⟩ ⟨_, _, _, rfl, rfl, h⟩
set_option maxHeartbeats 4000000 in
set_option maxRecDepth 100000 in
theorem t_X9_shift {l : Launch} {G : zG} {d : Nat} {P : Int32 → zIM → zLM → Prop} {I : zIM} {L : zLM} {x1 : Int32} {x2 : Int32} {x3 : Int32} {x4 : Int32} {x5 : Int32}  (h : ∃ (d1 : Nat) (P1 : Int32 → zIM → zLM → Prop), d1 + 1 ≤ d ∧ zCi l G d1 mX9_isShelf [.int x1] I L P1 ∧ ∀ (y1 : Int32) (I1 : zIM) (L1 : zLM), P1 y1 I1 L1 → (((y1 = 0 → (K_X9_shift_14 l G d P I1 L1)) ∧ (¬ y1 = 0 → (∃ (d3 : Nat) (P3 : Int32 → zIM → zLM → Prop), d3 + 1 ≤ d ∧ zCi l G d3 mX9_isShelf [.int x3] I1 L1 P3 ∧ ∀ (y3 : Int32) (I3 : zIM) (L3 : zLM), P3 y3 I3 L3 → (((¬ y3 = 0 → (∃ j5 : Nat, x1 = nI j5 ∧ j5 < 6 ∧ ((((I3 65 j5) < 0 → (K_X9_shift_34 l G d P I3 L3)) ∧ (¬ (I3 65 j5) < 0 → (∃ j7 : Nat, x3 = nI j7 ∧ j7 < 6 ∧ (((0 ≤ (I3 65 j7) → ((((I3 65 j5) < (50 : Int32) → (K_X9_shift_63 l G d P I3 L3)) ∧ (¬ (I3 65 j5) < (50 : Int32) → ((((I3 65 j5) = (I3 65 j7) → (((x5 < 0 → (K_X9_shift_107 l G d P I3 L3)) ∧ (¬ x5 < 0 → (((x2 < 0 → (K_X9_shift_107 l G d P I3 L3)) ∧ (¬ x2 < 0 → (((x4 < 0 → (K_X9_shift_107 l G d P I3 L3)) ∧ (¬ x4 < 0 → (((((I3 66 j5) - x5) < x2 → (K_X9_shift_107 l G d P I3 L3)) ∧ (¬ ((I3 66 j5) - x5) < x2 → (((x4 ≤ ((I3 66 j7) - x5) → (K_X9_shift_113 l G d P I3 L3 x1 x2 x3 x4 x5 (0 : Int32))) ∧ (¬ x4 ≤ ((I3 66 j7) - x5) → (K_X9_shift_107 l G d P I3 L3))))))))))))))))) ∧ (¬ (I3 65 j5) = (I3 65 j7) → (K_X9_shift_63 l G d P I3 L3)))))))) ∧ (¬ 0 ≤ (I3 65 j7) → (K_X9_shift_34 l G d P I3 L3)))))))))) ∧ (y3 = 0 → (K_X9_shift_14 l G d P I3 L3))))))))) : zCi l G d mX9_shift [.ref 44, .int x1, .int x2, .int x3, .int x4, .int x5] I L P := by
  refine zCn.of (ls := [some (.ref 44), some (.int x1), some (.int x2), some (.int x3), some (.int x4), some (.int x5), none]) (by decide) (Nat.le_of_ble_eq_true rfl) rfl ?_
  refine z_iload_n (pc' := 1) (x := x1) dX9_shift_0 rfl rfl ?_
  obtain ⟨d1, P1, hd1, hC1, h⟩ := h
  refine z_callS (pc' := 4) (M' := mX9_isShelf) (As := [.int x1]) dX9_shift_1 rfl ml_X9_118 me_X9_isShelf hC1 rfl hd1 (Nat.le_of_ble_eq_true rfl) ⟨Nat.le_refl _, Nat.le_refl _⟩ rfl ?_
  rintro _ _ ⟨y1, I1, L1, rfl, rfl, hP1⟩
  replace h := h y1 I1 L1 hP1
  refine z_if_eq (pc' := 7) (tgt := 14) dX9_shift_4 rfl (by decide) (fun c2 => ?_) (fun c2 => ?_)
  · replace h := h.1 c2
    refine z_sub (pc' := 0) [none, none, none, none, none, none, none] (zsub_n (zsub_n (zsub_n (zsub_n (zsub_n (zsub_n (zsub_n zsub_nil))))))) ?_
    exact h
  · replace h := h.2 c2
    refine z_iload_n (pc' := 8) (x := x3) dX9_shift_7 rfl rfl ?_
    obtain ⟨d3, P3, hd3, hC3, h⟩ := h
    refine z_callS (pc' := 11) (M' := mX9_isShelf) (As := [.int x3]) dX9_shift_8 rfl ml_X9_118 me_X9_isShelf hC3 rfl hd3 (Nat.le_of_ble_eq_true rfl) ⟨Nat.le_refl _, Nat.le_refl _⟩ rfl ?_
    rintro _ _ ⟨y3, I3, L3, rfl, rfl, hP3⟩
    replace h := h y3 I3 L3 hP3
    refine z_if_ne (pc' := 14) (tgt := 16) dX9_shift_11 rfl (by decide) (fun c4 => ?_) (fun c4 => ?_)
    · replace h := h.1 c4
      refine z_aload_n (pc' := 17) (x := 44) dX9_shift_16 rfl rfl ?_
      refine z_getr (pc' := 20) (x := 65) dX9_shift_17 rfl fl_X9_71 rfl rfl rfl ?_
      refine z_iload_n (pc' := 21) (x := x1) dX9_shift_20 rfl rfl ?_
      obtain ⟨j5, ha5, hb5, h⟩ := h
      refine z_iald (pc' := 22) (x := (I3 65 j5)) (j := j5) dX9_shift_21 rfl rfl (by decide) ha5 hb5 rfl ?_
      refine z_if_lt (pc' := 25) (tgt := 34) dX9_shift_22 rfl (by decide) (fun c6 => ?_) (fun c6 => ?_)
      · replace h := h.1 c6
        refine z_sub (pc' := 0) [none, none, none, none, none, none, none] (zsub_n (zsub_n (zsub_n (zsub_n (zsub_n (zsub_n (zsub_n zsub_nil))))))) ?_
        exact h
      · replace h := h.2 c6
        refine z_aload_n (pc' := 26) (x := 44) dX9_shift_25 rfl rfl ?_
        refine z_getr (pc' := 29) (x := 65) dX9_shift_26 rfl fl_X9_71 rfl rfl rfl ?_
        refine z_iload_n (pc' := 30) (x := x3) dX9_shift_29 rfl rfl ?_
        obtain ⟨j7, ha7, hb7, h⟩ := h
        refine z_iald (pc' := 31) (x := (I3 65 j7)) (j := j7) dX9_shift_30 rfl rfl (by decide) ha7 hb7 rfl ?_
        refine z_if_ge (pc' := 34) (tgt := 37) dX9_shift_31 rfl (by decide) (fun c8 => ?_) (fun c8 => ?_)
        · replace h := h.1 c8
          refine z_aload_n (pc' := 38) (x := 44) dX9_shift_37 rfl rfl ?_
          refine z_getr (pc' := 41) (x := 65) dX9_shift_38 rfl fl_X9_71 rfl rfl rfl ?_
          refine z_iload_n (pc' := 42) (x := x1) dX9_shift_41 rfl rfl ?_
          refine z_iald (pc' := 43) (x := (I3 65 j5)) (j := j5) dX9_shift_42 rfl rfl (by decide) ha5 hb5 rfl ?_
          refine z_bipush (pc' := 45) (v := 50) dX9_shift_43 rfl (by decide) ?_
          refine z_icmp_lt (pc' := 48) (tgt := 63) dX9_shift_45 rfl (by decide) (fun c9 => ?_) (fun c9 => ?_)
          · replace h := h.1 c9
            refine z_sub (pc' := 0) [none, none, none, none, none, none, none] (zsub_n (zsub_n (zsub_n (zsub_n (zsub_n (zsub_n (zsub_n zsub_nil))))))) ?_
            exact h
          · replace h := h.2 c9
            refine z_aload_n (pc' := 49) (x := 44) dX9_shift_48 rfl rfl ?_
            refine z_getr (pc' := 52) (x := 65) dX9_shift_49 rfl fl_X9_71 rfl rfl rfl ?_
            refine z_iload_n (pc' := 53) (x := x1) dX9_shift_52 rfl rfl ?_
            refine z_iald (pc' := 54) (x := (I3 65 j5)) (j := j5) dX9_shift_53 rfl rfl (by decide) ha5 hb5 rfl ?_
            refine z_aload_n (pc' := 55) (x := 44) dX9_shift_54 rfl rfl ?_
            refine z_getr (pc' := 58) (x := 65) dX9_shift_55 rfl fl_X9_71 rfl rfl rfl ?_
            refine z_iload_n (pc' := 59) (x := x3) dX9_shift_58 rfl rfl ?_
            refine z_iald (pc' := 60) (x := (I3 65 j7)) (j := j7) dX9_shift_59 rfl rfl (by decide) ha7 hb7 rfl ?_
            refine z_icmp_eq (pc' := 63) (tgt := 66) dX9_shift_60 rfl (by decide) (fun c10 => ?_) (fun c10 => ?_)
            · replace h := h.1 c10
              refine z_iload (pc' := 68) (x := x5) dX9_shift_66 rfl rfl ?_
              refine z_if_lt (pc' := 71) (tgt := 107) dX9_shift_68 rfl (by decide) (fun c11 => ?_) (fun c11 => ?_)
              · replace h := h.1 c11
                refine z_sub (pc' := 0) [none, none, none, none, none, none, none] (zsub_n (zsub_n (zsub_n (zsub_n (zsub_n (zsub_n (zsub_n zsub_nil))))))) ?_
                exact h
              · replace h := h.2 c11
                refine z_iload_n (pc' := 72) (x := x2) dX9_shift_71 rfl rfl ?_
                refine z_if_lt (pc' := 75) (tgt := 107) dX9_shift_72 rfl (by decide) (fun c12 => ?_) (fun c12 => ?_)
                · replace h := h.1 c12
                  refine z_sub (pc' := 0) [none, none, none, none, none, none, none] (zsub_n (zsub_n (zsub_n (zsub_n (zsub_n (zsub_n (zsub_n zsub_nil))))))) ?_
                  exact h
                · replace h := h.2 c12
                  refine z_iload (pc' := 77) (x := x4) dX9_shift_75 rfl rfl ?_
                  refine z_if_lt (pc' := 80) (tgt := 107) dX9_shift_77 rfl (by decide) (fun c13 => ?_) (fun c13 => ?_)
                  · replace h := h.1 c13
                    refine z_sub (pc' := 0) [none, none, none, none, none, none, none] (zsub_n (zsub_n (zsub_n (zsub_n (zsub_n (zsub_n (zsub_n zsub_nil))))))) ?_
                    exact h
                  · replace h := h.2 c13
                    refine z_iload_n (pc' := 81) (x := x2) dX9_shift_80 rfl rfl ?_
                    refine z_aload_n (pc' := 82) (x := 44) dX9_shift_81 rfl rfl ?_
                    refine z_getr (pc' := 85) (x := 66) dX9_shift_82 rfl fl_X9_74 rfl rfl rfl ?_
                    refine z_iload_n (pc' := 86) (x := x1) dX9_shift_85 rfl rfl ?_
                    refine z_iald (pc' := 87) (x := (I3 66 j5)) (j := j5) dX9_shift_86 rfl rfl (by decide) ha5 hb5 rfl ?_
                    refine z_iload (pc' := 89) (x := x5) dX9_shift_87 rfl rfl ?_
                    refine z_isub (pc' := 90) dX9_shift_89 rfl ?_
                    refine z_icmp_gt (pc' := 93) (tgt := 107) dX9_shift_90 rfl (by decide) (fun c14 => ?_) (fun c14 => ?_)
                    · replace h := h.1 c14
                      refine z_sub (pc' := 0) [none, none, none, none, none, none, none] (zsub_n (zsub_n (zsub_n (zsub_n (zsub_n (zsub_n (zsub_n zsub_nil))))))) ?_
                      exact h
                    · replace h := h.2 c14
                      refine z_iload (pc' := 95) (x := x4) dX9_shift_93 rfl rfl ?_
                      refine z_aload_n (pc' := 96) (x := 44) dX9_shift_95 rfl rfl ?_
                      refine z_getr (pc' := 99) (x := 66) dX9_shift_96 rfl fl_X9_74 rfl rfl rfl ?_
                      refine z_iload_n (pc' := 100) (x := x3) dX9_shift_99 rfl rfl ?_
                      refine z_iald (pc' := 101) (x := (I3 66 j7)) (j := j7) dX9_shift_100 rfl rfl (by decide) ha7 hb7 rfl ?_
                      refine z_iload (pc' := 103) (x := x5) dX9_shift_101 rfl rfl ?_
                      refine z_isub (pc' := 104) dX9_shift_103 rfl ?_
                      refine z_icmp_le (pc' := 107) (tgt := 110) dX9_shift_104 rfl (by decide) (fun c15 => ?_) (fun c15 => ?_)
                      · replace h := h.1 c15
                        refine z_iconst (pc' := 111) (v := 0) dX9_shift_110 rfl (by decide) ?_
                        refine z_istore (pc' := 113) (ls' := [some (.ref 44), some (.int x1), some (.int x2), some (.int x3), some (.int x4), some (.int x5), some (.int (0 : Int32))]) dX9_shift_111 rfl (by decide) rfl ?_
                        exact h
                      · replace h := h.2 c15
                        refine z_sub (pc' := 0) [none, none, none, none, none, none, none] (zsub_n (zsub_n (zsub_n (zsub_n (zsub_n (zsub_n (zsub_n zsub_nil))))))) ?_
                        exact h
            · replace h := h.2 c10
              refine z_sub (pc' := 0) [none, none, none, none, none, none, none] (zsub_n (zsub_n (zsub_n (zsub_n (zsub_n (zsub_n (zsub_n zsub_nil))))))) ?_
              exact h
        · replace h := h.2 c8
          refine z_sub (pc' := 0) [none, none, none, none, none, none, none] (zsub_n (zsub_n (zsub_n (zsub_n (zsub_n (zsub_n (zsub_n zsub_nil))))))) ?_
          exact h
    · replace h := h.2 c4
      refine z_sub (pc' := 0) [none, none, none, none, none, none, none] (zsub_n (zsub_n (zsub_n (zsub_n (zsub_n (zsub_n (zsub_n zsub_nil))))))) ?_
      exact h
set_option maxHeartbeats 4000000 in
set_option maxRecDepth 100000 in
theorem t_X9_shift_14 {l : Launch} {G : zG} {d : Nat} {P : Int32 → zIM → zLM → Prop} {I : zIM} {L : zLM}    (h : P (-1 : Int32) I L) : K_X9_shift_14 l G d P I L   := by
  refine z_iconst (pc' := 15) (v := -1) dX9_shift_14 rfl (by decide) ?_
  exact z_iret dX9_shift_15 rfl rfl ⟨Nat.le_refl _, Nat.le_refl _⟩ ⟨_, _, _, rfl, rfl, h⟩
set_option maxHeartbeats 4000000 in
set_option maxRecDepth 100000 in
theorem t_X9_shift_34 {l : Launch} {G : zG} {d : Nat} {P : Int32 → zIM → zLM → Prop} {I : zIM} {L : zLM}    (h : P (-11 : Int32) I L) : K_X9_shift_34 l G d P I L   := by
  refine z_bipush (pc' := 36) (v := -11) dX9_shift_34 rfl (by decide) ?_
  exact z_iret dX9_shift_36 rfl rfl ⟨Nat.le_refl _, Nat.le_refl _⟩ ⟨_, _, _, rfl, rfl, h⟩
set_option maxHeartbeats 4000000 in
set_option maxRecDepth 100000 in
theorem t_X9_shift_63 {l : Launch} {G : zG} {d : Nat} {P : Int32 → zIM → zLM → Prop} {I : zIM} {L : zLM}    (h : P (-12 : Int32) I L) : K_X9_shift_63 l G d P I L   := by
  refine z_bipush (pc' := 65) (v := -12) dX9_shift_63 rfl (by decide) ?_
  exact z_iret dX9_shift_65 rfl rfl ⟨Nat.le_refl _, Nat.le_refl _⟩ ⟨_, _, _, rfl, rfl, h⟩
set_option maxHeartbeats 4000000 in
set_option maxRecDepth 100000 in
theorem t_X9_shift_107 {l : Launch} {G : zG} {d : Nat} {P : Int32 → zIM → zLM → Prop} {I : zIM} {L : zLM}    (h : P (-13 : Int32) I L) : K_X9_shift_107 l G d P I L   := by
  refine z_bipush (pc' := 109) (v := -13) dX9_shift_107 rfl (by decide) ?_
  exact z_iret dX9_shift_109 rfl rfl ⟨Nat.le_refl _, Nat.le_refl _⟩ ⟨_, _, _, rfl, rfl, h⟩
set_option maxHeartbeats 4000000 in
set_option maxRecDepth 100000 in
theorem t_X9_shift_113 {l : Launch} {G : zG} {d : Nat} {P : Int32 → zIM → zLM → Prop} {I : zIM} {L : zLM} {x1 : Int32} {x2 : Int32} {x3 : Int32} {x4 : Int32} {x5 : Int32} {x6 : Int32}   (h : ((x5 ≤ x6 → (K_X9_shift_150 l G d P I L x3 x4 x5 (0 : Int32))) ∧ (¬ x5 ≤ x6 → (∃ j2 : Nat, ((((60 : Int32) * x1) + x2) + x6) = nI j2 ∧ j2 < 360 ∧ (∃ j3 : Nat, x6 = nI j3 ∧ j3 < 60 ∧ (K_X9_shift_113 l G d P I (xL L 68 j3 (L 67 j2)) x1 x2 x3 x4 x5 (x6 + (1 : Int32)))))))) : K_X9_shift_113 l G d P I L x1 x2 x3 x4 x5 x6  := by
  refine z_iload (pc' := 115) (x := x6) dX9_shift_113 rfl rfl ?_
  refine z_iload (pc' := 117) (x := x5) dX9_shift_115 rfl rfl ?_
  refine z_icmp_ge (pc' := 120) (tgt := 147) dX9_shift_117 rfl (by decide) (fun c1 => ?_) (fun c1 => ?_)
  · replace h := h.1 c1
    refine z_iconst (pc' := 148) (v := 0) dX9_shift_147 rfl (by decide) ?_
    refine z_istore (pc' := 150) (ls' := [some (.ref 44), some (.int x1), some (.int x2), some (.int x3), some (.int x4), some (.int x5), some (.int (0 : Int32))]) dX9_shift_148 rfl (by decide) rfl ?_
    refine z_sub (pc' := 0) [some (.ref 44), none, none, some (.int x3), some (.int x4), some (.int x5), some (.int (0 : Int32))] (zsub_s (zsub_n (zsub_n (zsub_s (zsub_s (zsub_s (zsub_s zsub_nil))))))) ?_
    exact h
  · replace h := h.2 c1
    refine z_aload_n (pc' := 121) (x := 44) dX9_shift_120 rfl rfl ?_
    refine z_getr (pc' := 124) (x := 68) dX9_shift_121 rfl fl_X9_80 rfl rfl rfl ?_
    refine z_iload (pc' := 126) (x := x6) dX9_shift_124 rfl rfl ?_
    refine z_aload_n (pc' := 127) (x := 44) dX9_shift_126 rfl rfl ?_
    refine z_getr (pc' := 130) (x := 67) dX9_shift_127 rfl fl_X9_77 rfl rfl rfl ?_
    refine z_bipush (pc' := 132) (v := 60) dX9_shift_130 rfl (by decide) ?_
    refine z_iload_n (pc' := 133) (x := x1) dX9_shift_132 rfl rfl ?_
    refine z_imul (pc' := 134) dX9_shift_133 rfl ?_
    refine z_iload_n (pc' := 135) (x := x2) dX9_shift_134 rfl rfl ?_
    refine z_iadd (pc' := 136) dX9_shift_135 rfl ?_
    refine z_iload (pc' := 138) (x := x6) dX9_shift_136 rfl rfl ?_
    refine z_iadd (pc' := 139) dX9_shift_138 rfl ?_
    obtain ⟨j2, ha2, hb2, h⟩ := h
    refine z_lald (pc' := 140) (x := (L 67 j2)) (j := j2) dX9_shift_139 rfl rfl (by decide) ha2 hb2 rfl ?_
    obtain ⟨j3, ha3, hb3, h⟩ := h
    refine z_last (pc' := 141) (j := j3) (w' := zs I (xL L 68 j3 (L 67 j2))) dX9_shift_140 rfl rfl (by decide) ha3 hb3 rfl ?_
    refine z_iinc (pc' := 144) (x := x6) (v := (x6 + (1 : Int32))) (ls' := [some (.ref 44), some (.int x1), some (.int x2), some (.int x3), some (.int x4), some (.int x5), some (.int (x6 + (1 : Int32)))]) dX9_shift_141 rfl rfl (by rfl) (by decide) rfl ?_
    refine z_goto (pc' := 113) dX9_shift_144 (by decide) ?_
    exact h
set_option maxHeartbeats 4000000 in
set_option maxRecDepth 100000 in
theorem t_X9_shift_150 {l : Launch} {G : zG} {d : Nat} {P : Int32 → zIM → zLM → Prop} {I : zIM} {L : zLM} {x3 : Int32} {x4 : Int32} {x5 : Int32} {x6 : Int32}   (h : ((x5 ≤ x6 → (P x5 I L)) ∧ (¬ x5 ≤ x6 → (∃ j2 : Nat, x6 = nI j2 ∧ j2 < 60 ∧ (∃ j3 : Nat, ((((60 : Int32) * x3) + x4) + x6) = nI j3 ∧ j3 < 360 ∧ (K_X9_shift_150 l G d P I (xL L 67 j3 (L 68 j2)) x3 x4 x5 (x6 + (1 : Int32)))))))) : K_X9_shift_150 l G d P I L x3 x4 x5 x6  := by
  refine z_iload (pc' := 152) (x := x6) dX9_shift_150 rfl rfl ?_
  refine z_iload (pc' := 154) (x := x5) dX9_shift_152 rfl rfl ?_
  refine z_icmp_ge (pc' := 157) (tgt := 185) dX9_shift_154 rfl (by decide) (fun c1 => ?_) (fun c1 => ?_)
  · replace h := h.1 c1
    refine z_iload (pc' := 187) (x := x5) dX9_shift_185 rfl rfl ?_
    exact z_iret dX9_shift_187 rfl rfl ⟨Nat.le_refl _, Nat.le_refl _⟩ ⟨_, _, _, rfl, rfl, h⟩
  · replace h := h.2 c1
    refine z_aload_n (pc' := 158) (x := 44) dX9_shift_157 rfl rfl ?_
    refine z_getr (pc' := 161) (x := 67) dX9_shift_158 rfl fl_X9_77 rfl rfl rfl ?_
    refine z_bipush (pc' := 163) (v := 60) dX9_shift_161 rfl (by decide) ?_
    refine z_iload_n (pc' := 164) (x := x3) dX9_shift_163 rfl rfl ?_
    refine z_imul (pc' := 165) dX9_shift_164 rfl ?_
    refine z_iload (pc' := 167) (x := x4) dX9_shift_165 rfl rfl ?_
    refine z_iadd (pc' := 168) dX9_shift_167 rfl ?_
    refine z_iload (pc' := 170) (x := x6) dX9_shift_168 rfl rfl ?_
    refine z_iadd (pc' := 171) dX9_shift_170 rfl ?_
    refine z_aload_n (pc' := 172) (x := 44) dX9_shift_171 rfl rfl ?_
    refine z_getr (pc' := 175) (x := 68) dX9_shift_172 rfl fl_X9_80 rfl rfl rfl ?_
    refine z_iload (pc' := 177) (x := x6) dX9_shift_175 rfl rfl ?_
    obtain ⟨j2, ha2, hb2, h⟩ := h
    refine z_lald (pc' := 178) (x := (L 68 j2)) (j := j2) dX9_shift_177 rfl rfl (by decide) ha2 hb2 rfl ?_
    obtain ⟨j3, ha3, hb3, h⟩ := h
    refine z_last (pc' := 179) (j := j3) (w' := zs I (xL L 67 j3 (L 68 j2))) dX9_shift_178 rfl rfl (by decide) ha3 hb3 rfl ?_
    refine z_iinc (pc' := 182) (x := x6) (v := (x6 + (1 : Int32))) (ls' := [some (.ref 44), none, none, some (.int x3), some (.int x4), some (.int x5), some (.int (x6 + (1 : Int32)))]) dX9_shift_179 rfl rfl (by rfl) (by decide) rfl ?_
    refine z_goto (pc' := 150) dX9_shift_182 (by decide) ?_
    exact h
set_option maxHeartbeats 4000000 in
set_option maxRecDepth 100000 in
theorem t_X9_taken {l : Launch} {G : zG} {d : Nat} {P : Int32 → zIM → zLM → Prop} {I : zIM} {L : zLM} {x1 : Int32} {x2 : Int32}  (h : ∃ (d1 : Nat) (P1 : Int32 → zIM → zLM → Prop), d1 + 1 ≤ d ∧ zCi l G d1 mX9_isShelf [.int x1] I L P1 ∧ ∀ (y1 : Int32) (I1 : zIM) (L1 : zLM), P1 y1 I1 L1 → (((y1 = 0 → (P (-1 : Int32) I1 L1)) ∧ (¬ y1 = 0 → (∃ (d3 : Nat) (P3 : Int32 → zIM → zLM → Prop), d3 + 1 ≤ d ∧ zCi l G d3 mX9_within [.long (x2.toInt64), .long (0 : Int64), .long (7 : Int64)] I1 L1 P3 ∧ ∀ (y3 : Int32) (I3 : zIM) (L3 : zLM), P3 y3 I3 L3 → (((¬ y3 = 0 → (∃ j5 : Nat, x1 = nI j5 ∧ j5 < 6 ∧ (((0 ≤ (I3 65 j5) → ((((I3 65 j5) < (50 : Int32) → (∃ (d8 : Nat) (P8 : Int32 → zIM → zLM → Prop), d8 + 1 ≤ d ∧ zCi l G d8 mX9_kindOf [.ref 44, .int (I3 65 j5)] I3 L3 P8 ∧ ∀ (y8 : Int32) (I8 : zIM) (L8 : zLM), P8 y8 I8 L8 → (K_X9_taken_58 l G d P I8 L8 x1 x2 y8))) ∧ (¬ (I3 65 j5) < (50 : Int32) → (P (-12 : Int32) I3 L3))))) ∧ (¬ 0 ≤ (I3 65 j5) → (P (-11 : Int32) I3 L3)))))) ∧ (y3 = 0 → (P (-1 : Int32) I3 L3))))))))) : zCi l G d mX9_taken [.ref 44, .int x1, .int x2] I L P := by
  refine zCn.of (ls := [some (.ref 44), some (.int x1), some (.int x2), none]) (by decide) (Nat.le_of_ble_eq_true rfl) rfl ?_
  refine z_iload_n (pc' := 1) (x := x1) dX9_taken_0 rfl rfl ?_
  obtain ⟨d1, P1, hd1, hC1, h⟩ := h
  refine z_callS (pc' := 4) (M' := mX9_isShelf) (As := [.int x1]) dX9_taken_1 rfl ml_X9_118 me_X9_isShelf hC1 rfl hd1 (Nat.le_of_ble_eq_true rfl) ⟨Nat.le_refl _, Nat.le_refl _⟩ rfl ?_
  rintro _ _ ⟨y1, I1, L1, rfl, rfl, hP1⟩
  replace h := h y1 I1 L1 hP1
  refine z_if_eq (pc' := 7) (tgt := 19) dX9_taken_4 rfl (by decide) (fun c2 => ?_) (fun c2 => ?_)
  · replace h := h.1 c2
    refine z_iconst (pc' := 20) (v := -1) dX9_taken_19 rfl (by decide) ?_
    exact z_iret dX9_taken_20 rfl rfl ⟨Nat.le_refl _, Nat.le_refl _⟩ ⟨_, _, _, rfl, rfl, h⟩
  · replace h := h.2 c2
    refine z_iload_n (pc' := 8) (x := x2) dX9_taken_7 rfl rfl ?_
    refine z_i2l (pc' := 9) dX9_taken_8 rfl ?_
    refine z_lconst (pc' := 10) (v := 0) dX9_taken_9 rfl (by decide) ?_
    refine z_ldc2 (pc' := 13) (v := 7) dX9_taken_10 rfl kl_X9_333 ?_
    obtain ⟨d3, P3, hd3, hC3, h⟩ := h
    refine z_callS (pc' := 16) (M' := mX9_within) (As := [.long (x2.toInt64), .long (0 : Int64), .long (7 : Int64)]) dX9_taken_13 rfl ml_X9_99 me_X9_within hC3 rfl hd3 (Nat.le_of_ble_eq_true rfl) ⟨Nat.le_refl _, Nat.le_refl _⟩ rfl ?_
    rintro _ _ ⟨y3, I3, L3, rfl, rfl, hP3⟩
    replace h := h y3 I3 L3 hP3
    refine z_if_ne (pc' := 19) (tgt := 21) dX9_taken_16 rfl (by decide) (fun c4 => ?_) (fun c4 => ?_)
    · replace h := h.1 c4
      refine z_aload_n (pc' := 22) (x := 44) dX9_taken_21 rfl rfl ?_
      refine z_getr (pc' := 25) (x := 65) dX9_taken_22 rfl fl_X9_71 rfl rfl rfl ?_
      refine z_iload_n (pc' := 26) (x := x1) dX9_taken_25 rfl rfl ?_
      obtain ⟨j5, ha5, hb5, h⟩ := h
      refine z_iald (pc' := 27) (x := (I3 65 j5)) (j := j5) dX9_taken_26 rfl rfl (by decide) ha5 hb5 rfl ?_
      refine z_if_ge (pc' := 30) (tgt := 33) dX9_taken_27 rfl (by decide) (fun c6 => ?_) (fun c6 => ?_)
      · replace h := h.1 c6
        refine z_aload_n (pc' := 34) (x := 44) dX9_taken_33 rfl rfl ?_
        refine z_getr (pc' := 37) (x := 65) dX9_taken_34 rfl fl_X9_71 rfl rfl rfl ?_
        refine z_iload_n (pc' := 38) (x := x1) dX9_taken_37 rfl rfl ?_
        refine z_iald (pc' := 39) (x := (I3 65 j5)) (j := j5) dX9_taken_38 rfl rfl (by decide) ha5 hb5 rfl ?_
        refine z_bipush (pc' := 41) (v := 50) dX9_taken_39 rfl (by decide) ?_
        refine z_icmp_lt (pc' := 44) (tgt := 47) dX9_taken_41 rfl (by decide) (fun c7 => ?_) (fun c7 => ?_)
        · replace h := h.1 c7
          refine z_aload_n (pc' := 48) (x := 44) dX9_taken_47 rfl rfl ?_
          refine z_aload_n (pc' := 49) (x := 44) dX9_taken_48 rfl rfl ?_
          refine z_getr (pc' := 52) (x := 65) dX9_taken_49 rfl fl_X9_71 rfl rfl rfl ?_
          refine z_iload_n (pc' := 53) (x := x1) dX9_taken_52 rfl rfl ?_
          refine z_iald (pc' := 54) (x := (I3 65 j5)) (j := j5) dX9_taken_53 rfl rfl (by decide) ha5 hb5 rfl ?_
          obtain ⟨d8, P8, hd8, hC8, h⟩ := h
          refine z_callV (pc' := 57) (M' := mX9_kindOf) (As := [.int (I3 65 j5)]) dX9_taken_54 rfl ml_X9_369 me_X9_kindOf hC8 rfl (by decide) rfl rfl hd8 (Nat.le_of_ble_eq_true rfl) ⟨Nat.le_refl _, Nat.le_refl _⟩ rfl ?_
          rintro _ _ ⟨y8, I8, L8, rfl, rfl, hP8⟩
          replace h := h y8 I8 L8 hP8
          refine z_istore_n (pc' := 58) (ls' := [some (.ref 44), some (.int x1), some (.int x2), some (.int y8)]) dX9_taken_57 rfl (by decide) rfl ?_
          exact h
        · replace h := h.2 c7
          refine z_bipush (pc' := 46) (v := -12) dX9_taken_44 rfl (by decide) ?_
          exact z_iret dX9_taken_46 rfl rfl ⟨Nat.le_refl _, Nat.le_refl _⟩ ⟨_, _, _, rfl, rfl, h⟩
      · replace h := h.2 c6
        refine z_bipush (pc' := 32) (v := -11) dX9_taken_30 rfl (by decide) ?_
        exact z_iret dX9_taken_32 rfl rfl ⟨Nat.le_refl _, Nat.le_refl _⟩ ⟨_, _, _, rfl, rfl, h⟩
    · replace h := h.2 c4
      refine z_iconst (pc' := 20) (v := -1) dX9_taken_19 rfl (by decide) ?_
      exact z_iret dX9_taken_20 rfl rfl ⟨Nat.le_refl _, Nat.le_refl _⟩ ⟨_, _, _, rfl, rfl, h⟩
set_option maxHeartbeats 4000000 in
set_option maxRecDepth 100000 in
theorem t_X9_taken_58 {l : Launch} {G : zG} {d : Nat} {P : Int32 → zIM → zLM → Prop} {I : zIM} {L : zLM} {x1 : Int32} {x2 : Int32} {x3 : Int32}   (h : ((x3 = x2 → (((¬ x3 = x2 → (P (-12 : Int32) I L)) ∧ (x3 = x2 → (∃ j3 : Nat, x1 = nI j3 ∧ j3 < 6 ∧ (∃ (d4 : Nat) (P4 : Int32 → zIM → zLM → Prop), d4 + 1 ≤ d ∧ zCi l G d4 mX9_kindOf [.ref 44, .int (I 65 j3)] I L P4 ∧ ∀ (y4 : Int32) (I4 : zIM) (L4 : zLM), P4 y4 I4 L4 → (P y4 I4 L4))))))) ∧ (¬ x3 = x2 → (((x3 ≤ 0 → (((¬ x3 = x2 → (P (-12 : Int32) I L)) ∧ (x3 = x2 → (∃ j7 : Nat, x1 = nI j7 ∧ j7 < 6 ∧ (∃ (d8 : Nat) (P8 : Int32 → zIM → zLM → Prop), d8 + 1 ≤ d ∧ zCi l G d8 mX9_kindOf [.ref 44, .int (I 65 j7)] I L P8 ∧ ∀ (y8 : Int32) (I8 : zIM) (L8 : zLM), P8 y8 I8 L8 → (P y8 I8 L8))))))) ∧ (¬ x3 ≤ 0 → (∃ (d9 : Nat) (P9 : Int32 → zIM → zLM → Prop), d9 + 1 ≤ d ∧ zCi l G d9 mX9_above [.int x3] I L P9 ∧ ∀ (y9 : Int32) (I9 : zIM) (L9 : zLM), P9 y9 I9 L9 → (K_X9_taken_58 l G d P I9 L9 x1 x2 y9)))))))) : K_X9_taken_58 l G d P I L x1 x2 x3  := by
  refine z_iload_n (pc' := 59) (x := x3) dX9_taken_58 rfl rfl ?_
  refine z_iload_n (pc' := 60) (x := x2) dX9_taken_59 rfl rfl ?_
  refine z_icmp_eq (pc' := 63) (tgt := 75) dX9_taken_60 rfl (by decide) (fun c1 => ?_) (fun c1 => ?_)
  · replace h := h.1 c1
    refine z_iload_n (pc' := 76) (x := x3) dX9_taken_75 rfl rfl ?_
    refine z_iload_n (pc' := 77) (x := x2) dX9_taken_76 rfl rfl ?_
    refine z_icmp_ne (pc' := 80) (tgt := 93) dX9_taken_77 rfl (by decide) (fun c2 => ?_) (fun c2 => ?_)
    · replace h := h.1 c2
      refine z_bipush (pc' := 95) (v := -12) dX9_taken_93 rfl (by decide) ?_
      exact z_iret dX9_taken_95 rfl rfl ⟨Nat.le_refl _, Nat.le_refl _⟩ ⟨_, _, _, rfl, rfl, h⟩
    · replace h := h.2 c2
      refine z_aload_n (pc' := 81) (x := 44) dX9_taken_80 rfl rfl ?_
      refine z_aload_n (pc' := 82) (x := 44) dX9_taken_81 rfl rfl ?_
      refine z_getr (pc' := 85) (x := 65) dX9_taken_82 rfl fl_X9_71 rfl rfl rfl ?_
      refine z_iload_n (pc' := 86) (x := x1) dX9_taken_85 rfl rfl ?_
      obtain ⟨j3, ha3, hb3, h⟩ := h
      refine z_iald (pc' := 87) (x := (I 65 j3)) (j := j3) dX9_taken_86 rfl rfl (by decide) ha3 hb3 rfl ?_
      obtain ⟨d4, P4, hd4, hC4, h⟩ := h
      refine z_callV (pc' := 90) (M' := mX9_kindOf) (As := [.int (I 65 j3)]) dX9_taken_87 rfl ml_X9_369 me_X9_kindOf hC4 rfl (by decide) rfl rfl hd4 (Nat.le_of_ble_eq_true rfl) ⟨Nat.le_refl _, Nat.le_refl _⟩ rfl ?_
      rintro _ _ ⟨y4, I4, L4, rfl, rfl, hP4⟩
      replace h := h y4 I4 L4 hP4
      refine z_goto (pc' := 95) dX9_taken_90 (by decide) ?_
      exact z_iret dX9_taken_95 rfl rfl ⟨Nat.le_refl _, Nat.le_refl _⟩ ⟨_, _, _, rfl, rfl, h⟩
  · replace h := h.2 c1
    refine z_iload_n (pc' := 64) (x := x3) dX9_taken_63 rfl rfl ?_
    refine z_if_le (pc' := 67) (tgt := 75) dX9_taken_64 rfl (by decide) (fun c5 => ?_) (fun c5 => ?_)
    · replace h := h.1 c5
      refine z_iload_n (pc' := 76) (x := x3) dX9_taken_75 rfl rfl ?_
      refine z_iload_n (pc' := 77) (x := x2) dX9_taken_76 rfl rfl ?_
      refine z_icmp_ne (pc' := 80) (tgt := 93) dX9_taken_77 rfl (by decide) (fun c6 => ?_) (fun c6 => ?_)
      · replace h := h.1 c6
        refine z_bipush (pc' := 95) (v := -12) dX9_taken_93 rfl (by decide) ?_
        exact z_iret dX9_taken_95 rfl rfl ⟨Nat.le_refl _, Nat.le_refl _⟩ ⟨_, _, _, rfl, rfl, h⟩
      · replace h := h.2 c6
        refine z_aload_n (pc' := 81) (x := 44) dX9_taken_80 rfl rfl ?_
        refine z_aload_n (pc' := 82) (x := 44) dX9_taken_81 rfl rfl ?_
        refine z_getr (pc' := 85) (x := 65) dX9_taken_82 rfl fl_X9_71 rfl rfl rfl ?_
        refine z_iload_n (pc' := 86) (x := x1) dX9_taken_85 rfl rfl ?_
        obtain ⟨j7, ha7, hb7, h⟩ := h
        refine z_iald (pc' := 87) (x := (I 65 j7)) (j := j7) dX9_taken_86 rfl rfl (by decide) ha7 hb7 rfl ?_
        obtain ⟨d8, P8, hd8, hC8, h⟩ := h
        refine z_callV (pc' := 90) (M' := mX9_kindOf) (As := [.int (I 65 j7)]) dX9_taken_87 rfl ml_X9_369 me_X9_kindOf hC8 rfl (by decide) rfl rfl hd8 (Nat.le_of_ble_eq_true rfl) ⟨Nat.le_refl _, Nat.le_refl _⟩ rfl ?_
        rintro _ _ ⟨y8, I8, L8, rfl, rfl, hP8⟩
        replace h := h y8 I8 L8 hP8
        refine z_goto (pc' := 95) dX9_taken_90 (by decide) ?_
        exact z_iret dX9_taken_95 rfl rfl ⟨Nat.le_refl _, Nat.le_refl _⟩ ⟨_, _, _, rfl, rfl, h⟩
    · replace h := h.2 c5
      refine z_iload_n (pc' := 68) (x := x3) dX9_taken_67 rfl rfl ?_
      obtain ⟨d9, P9, hd9, hC9, h⟩ := h
      refine z_callS (pc' := 71) (M' := mX9_above) (As := [.int x3]) dX9_taken_68 rfl ml_X9_372 me_X9_above hC9 rfl hd9 (Nat.le_of_ble_eq_true rfl) ⟨Nat.le_refl _, Nat.le_refl _⟩ rfl ?_
      rintro _ _ ⟨y9, I9, L9, rfl, rfl, hP9⟩
      replace h := h y9 I9 L9 hP9
      refine z_istore_n (pc' := 72) (ls' := [some (.ref 44), some (.int x1), some (.int x2), some (.int y9)]) dX9_taken_71 rfl (by decide) rfl ?_
      refine z_goto (pc' := 58) dX9_taken_72 (by decide) ?_
      exact h
set_option maxHeartbeats 4000000 in
set_option maxRecDepth 100000 in
theorem t_X9_count {l : Launch} {G : zG} {d : Nat} {P : Int32 → zIM → zLM → Prop} {I : zIM} {L : zLM} {x1 : Int32}  (h : ((x1 = (0 : Int32) → (P (I 44 6) I L)) ∧ (x1 = (1 : Int32) → (P (I 44 33) I L)) ∧ (x1 = (2 : Int32) → (P (I 44 35) I L)) ∧ (x1 = (3 : Int32) → (P (I 44 13) I L)) ∧ (x1 = (4 : Int32) → (P (I 44 5) I L)) ∧ (x1 = (5 : Int32) → (P (I 44 40) I L)) ∧ (x1 = (6 : Int32) → (P (I 44 43) I L)) ∧ (¬ x1 = (0 : Int32) → ¬ x1 = (1 : Int32) → ¬ x1 = (2 : Int32) → ¬ x1 = (3 : Int32) → ¬ x1 = (4 : Int32) → ¬ x1 = (5 : Int32) → ¬ x1 = (6 : Int32) → (P (-1 : Int32) I L)))) : zCi l G d mX9_count [.ref 44, .int x1] I L P := by
  refine zCn.of (ls := [some (.ref 44), some (.int x1)]) (by decide) (Nat.le_of_ble_eq_true rfl) rfl ?_
  refine z_iload_n (pc' := 1) (x := x1) dX9_count_0 rfl rfl ?_
  by_cases c1_0 : x1 = (0 : Int32)
  · replace h := h.1 c1_0
    refine z_tableIn (pc' := 44) dX9_count_1 (by rw [c1_0]; decide) (by rw [c1_0]; decide) (by rw [c1_0]; rfl) (by decide) ?_
    refine z_aload_n (pc' := 45) (x := 44) dX9_count_44 rfl rfl ?_
    refine z_geti (pc' := 48) (x := (I 44 6)) dX9_count_45 rfl fl_X9_96 rfl rfl rfl ?_
    exact z_iret dX9_count_48 rfl rfl ⟨Nat.le_refl _, Nat.le_refl _⟩ ⟨_, _, _, rfl, rfl, h⟩
  by_cases c1_1 : x1 = (1 : Int32)
  · replace h := h.2.1 c1_1
    refine z_tableIn (pc' := 49) dX9_count_1 (by rw [c1_1]; decide) (by rw [c1_1]; decide) (by rw [c1_1]; rfl) (by decide) ?_
    refine z_aload_n (pc' := 50) (x := 44) dX9_count_49 rfl rfl ?_
    refine z_geti (pc' := 53) (x := (I 44 33)) dX9_count_50 rfl fl_X9_139 rfl rfl rfl ?_
    exact z_iret dX9_count_53 rfl rfl ⟨Nat.le_refl _, Nat.le_refl _⟩ ⟨_, _, _, rfl, rfl, h⟩
  by_cases c1_2 : x1 = (2 : Int32)
  · replace h := h.2.2.1 c1_2
    refine z_tableIn (pc' := 54) dX9_count_1 (by rw [c1_2]; decide) (by rw [c1_2]; decide) (by rw [c1_2]; rfl) (by decide) ?_
    refine z_aload_n (pc' := 55) (x := 44) dX9_count_54 rfl rfl ?_
    refine z_geti (pc' := 58) (x := (I 44 35)) dX9_count_55 rfl fl_X9_316 rfl rfl rfl ?_
    exact z_iret dX9_count_58 rfl rfl ⟨Nat.le_refl _, Nat.le_refl _⟩ ⟨_, _, _, rfl, rfl, h⟩
  by_cases c1_3 : x1 = (3 : Int32)
  · replace h := h.2.2.2.1 c1_3
    refine z_tableIn (pc' := 59) dX9_count_1 (by rw [c1_3]; decide) (by rw [c1_3]; decide) (by rw [c1_3]; rfl) (by decide) ?_
    refine z_aload_n (pc' := 60) (x := 44) dX9_count_59 rfl rfl ?_
    refine z_geti (pc' := 63) (x := (I 44 13)) dX9_count_60 rfl fl_X9_144 rfl rfl rfl ?_
    exact z_iret dX9_count_63 rfl rfl ⟨Nat.le_refl _, Nat.le_refl _⟩ ⟨_, _, _, rfl, rfl, h⟩
  by_cases c1_4 : x1 = (4 : Int32)
  · replace h := h.2.2.2.2.1 c1_4
    refine z_tableIn (pc' := 64) dX9_count_1 (by rw [c1_4]; decide) (by rw [c1_4]; decide) (by rw [c1_4]; rfl) (by decide) ?_
    refine z_aload_n (pc' := 65) (x := 44) dX9_count_64 rfl rfl ?_
    refine z_geti (pc' := 68) (x := (I 44 5)) dX9_count_65 rfl fl_X9_90 rfl rfl rfl ?_
    exact z_iret dX9_count_68 rfl rfl ⟨Nat.le_refl _, Nat.le_refl _⟩ ⟨_, _, _, rfl, rfl, h⟩
  by_cases c1_5 : x1 = (5 : Int32)
  · replace h := h.2.2.2.2.2.1 c1_5
    refine z_tableIn (pc' := 69) dX9_count_1 (by rw [c1_5]; decide) (by rw [c1_5]; decide) (by rw [c1_5]; rfl) (by decide) ?_
    refine z_aload_n (pc' := 70) (x := 44) dX9_count_69 rfl rfl ?_
    refine z_geti (pc' := 73) (x := (I 44 40)) dX9_count_70 rfl fl_X9_330 rfl rfl rfl ?_
    exact z_iret dX9_count_73 rfl rfl ⟨Nat.le_refl _, Nat.le_refl _⟩ ⟨_, _, _, rfl, rfl, h⟩
  by_cases c1_6 : x1 = (6 : Int32)
  · replace h := h.2.2.2.2.2.2.1 c1_6
    refine z_tableIn (pc' := 74) dX9_count_1 (by rw [c1_6]; decide) (by rw [c1_6]; decide) (by rw [c1_6]; rfl) (by decide) ?_
    refine z_aload_n (pc' := 75) (x := 44) dX9_count_74 rfl rfl ?_
    refine z_geti (pc' := 78) (x := (I 44 43)) dX9_count_75 rfl fl_X9_335 rfl rfl rfl ?_
    exact z_iret dX9_count_78 rfl rfl ⟨Nat.le_refl _, Nat.le_refl _⟩ ⟨_, _, _, rfl, rfl, h⟩
  replace h := h.2.2.2.2.2.2.2 c1_0 c1_1 c1_2 c1_3 c1_4 c1_5 c1_6
  have hne1 : x1.toInt < 0 ∨ 6 < x1.toInt := by
    have nc1_0 := lv_neT c1_0 (a := 0) (by decide); have nc1_1 := lv_neT c1_1 (a := 1) (by decide); have nc1_2 := lv_neT c1_2 (a := 2) (by decide); have nc1_3 := lv_neT c1_3 (a := 3) (by decide); have nc1_4 := lv_neT c1_4 (a := 4) (by decide); have nc1_5 := lv_neT c1_5 (a := 5) (by decide); have nc1_6 := lv_neT c1_6 (a := 6) (by decide); omega
  refine z_tableOut (pc' := 79) dX9_count_1 hne1 (by decide) ?_
  refine z_iconst (pc' := 80) (v := -1) dX9_count_79 rfl (by decide) ?_
  exact z_iret dX9_count_80 rfl rfl ⟨Nat.le_refl _, Nat.le_refl _⟩ ⟨_, _, _, rfl, rfl, h⟩
