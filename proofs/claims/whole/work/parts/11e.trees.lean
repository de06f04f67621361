/-! ===== trees (written by wip/whole/gen/emit.py) ===== -/
abbrev K_X9_bitsOf_4 (l : Launch) (G : zG) (d : Nat) (P : Int32 → zIM → zLM → Prop) (I : zIM) (L : zLM) (x1 : Int32) (x2 : Int32) : Prop := zWp (zXi l G d P) mX9_bitsOf (0, 0) 4 [none, some (.int x1), some (.int x2)] [] (zs I L)
abbrev K_X9_becomes_26 (l : Launch) (G : zG) (d : Nat) (P : Int32 → zIM → zLM → Prop) (I : zIM) (L : zLM) (x1 : Int32) (x2 : Int32) (x3 : Int32) (x4 : Int32) : Prop := zWp (zXi l G d P) mX9_becomes (0, 0) 26 [some (.ref 44), some (.int x1), some (.int x2), some (.int x3), some (.int x4)] [] (zs I L)
abbrev K_X9_players_69 (l : Launch) (G : zG) (d : Nat) (P : Int32 → zIM → zLM → Prop) (I : zIM) (L : zLM) (x1 : Int32) (x2 : Int32) (x3 : Int32) (x4 : Int32) (x5 : Int32) : Prop := zWp (zXi l G d P) mX9_players (0, 0) 69 [some (.ref 44), some (.int x1), some (.int x2), some (.int x3), some (.int x4), some (.int x5), none] [] (zs I L)
abbrev K_X9_order_12 (l : Launch) (G : zG) (d : Nat) (P : Int32 → zIM → zLM → Prop) (I : zIM) (L : zLM) (x2 : Int32) (x3 : Int32) (x4 : Int32) : Prop := zWp (zXi l G d P) mX9_order (0, 0) 12 [some (.ref 44), none, some (.int x2), some (.int x3), some (.int x4), none] [] (zs I L)
abbrev K_X9_order_85 (l : Launch) (G : zG) (d : Nat) (P : Int32 → zIM → zLM → Prop) (I : zIM) (L : zLM) (x4 : Int32) : Prop := zWp (zXi l G d P) mX9_order (0, 0) 85 [some (.ref 44), none, none, none, some (.int x4), none] [] (zs I L)
abbrev K_X9_either_5 (l : Launch) (G : zG) (d : Nat) (P : Int32 → zIM → zLM → Prop) (I : zIM) (L : zLM) (x1 : Int32) : Prop := zWp (zXi l G d P) mX9_either (0, 0) 5 [some (.ref 44), some (.int x1), none] [] (zs I L)
abbrev K_X9_both_5 (l : Launch) (G : zG) (d : Nat) (P : Int32 → zIM → zLM → Prop) (I : zIM) (L : zLM) (x1 : Int32) : Prop := zWp (zXi l G d P) mX9_both (0, 0) 5 [some (.ref 44), some (.int x1), none] [] (zs I L)
abbrev K_X9_compared_37 (l : Launch) (G : zG) (d : Nat) (P : Int32 → zIM → zLM → Prop) (I : zIM) (L : zLM) (x1 : Int32) (x2 : Int32) : Prop := zWp (zXi l G d P) mX9_compared (0, 0) 37 [some (.ref 44), some (.int x1), some (.int x2), none] [] (zs I L)
abbrev K_X9_compared_89 (l : Launch) (G : zG) (d : Nat) (P : Int32 → zIM → zLM → Prop) (I : zIM) (L : zLM)  : Prop := zWp (zXi l G d P) mX9_compared (0, 0) 89 [none, none, none, none] [] (zs I L)
abbrev K_X9_compared_85 (l : Launch) (G : zG) (d : Nat) (P : Int32 → zIM → zLM → Prop) (I : zIM) (L : zLM)  : Prop := zWp (zXi l G d P) mX9_compared (0, 0) 85 [none, none, none, none] [] (zs I L)
abbrev K_X9_compared_90 (l : Launch) (G : zG) (d : Nat) (P : Int32 → zIM → zLM → Prop) (I : zIM) (L : zLM) (s0 : Int32) : Prop := zWp (zXi l G d P) mX9_compared (0, 0) 90 [none, none, none, none] [.int s0] (zs I L)
abbrev K_X9_sums_5 (l : Launch) (G : zG) (d : Nat) (P : Int32 → zIM → zLM → Prop) (I : zIM) (L : zLM) (x1 : Int32) : Prop := zWp (zXi l G d P) mX9_sums (0, 0) 5 [some (.ref 44), some (.int x1), none, none] [] (zs I L)
abbrev K_X9_product_10 (l : Launch) (G : zG) (d : Nat) (P : Int32 → zIM → zLM → Prop) (I : zIM) (L : zLM) (x1 : Int32) (x2 : Int32) : Prop := zWp (zXi l G d P) mX9_product (0, 0) 10 [some (.ref 44), some (.int x1), some (.int x2), none] [] (zs I L)
abbrev K_X9_product_35 (l : Launch) (G : zG) (d : Nat) (P : Int32 → zIM → zLM → Prop) (I : zIM) (L : zLM) (x1 : Int32) (x2 : Int32) : Prop := zWp (zXi l G d P) mX9_product (0, 0) 35 [some (.ref 44), some (.int x1), some (.int x2), none] [] (zs I L)
abbrev K_X9_product_85 (l : Launch) (G : zG) (d : Nat) (P : Int32 → zIM → zLM → Prop) (I : zIM) (L : zLM) (s0 : Int32) : Prop := zWp (zXi l G d P) mX9_product (0, 0) 85 [some (.ref 44), none, none, none] [.int s0] (zs I L)
abbrev K_X9_one_32 (l : Launch) (G : zG) (d : Nat) (P : Int32 → zIM → zLM → Prop) (I : zIM) (L : zLM) (x1 : Int32) : Prop := zWp (zXi l G d P) mX9_one (0, 0) 32 [some (.ref 44), some (.int x1), none, none, none] [] (zs I L)
abbrev K_X9_one_176 (l : Launch) (G : zG) (d : Nat) (P : Int32 → zIM → zLM → Prop) (I : zIM) (L : zLM) (x3 : Int32) (x4 : Int32) : Prop := zWp (zXi l G d P) mX9_one (0, 0) 176 [some (.ref 44), none, none, some (.int x3), some (.int x4)] [] (zs I L)
abbrev K_X9_one_83 (l : Launch) (G : zG) (d : Nat) (P : Int32 → zIM → zLM → Prop) (I : zIM) (L : zLM) (x1 : Int32) (s0 : Int32) : Prop := zWp (zXi l G d P) mX9_one (0, 0) 83 [some (.ref 44), some (.int x1), none, none, none] [.int s0] (zs I L)
abbrev K_X9_one_242 (l : Launch) (G : zG) (d : Nat) (P : Int32 → zIM → zLM → Prop) (I : zIM) (L : zLM) (s0 : Int32) : Prop := zWp (zXi l G d P) mX9_one (0, 0) 242 [none, none, none, none, none] [.int s0] (zs I L)
abbrev K_X9_one_104 (l : Launch) (G : zG) (d : Nat) (P : Int32 → zIM → zLM → Prop) (I : zIM) (L : zLM) (x1 : Int32) (x2 : Int32) : Prop := zWp (zXi l G d P) mX9_one (0, 0) 104 [some (.ref 44), some (.int x1), some (.int x2), none, none] [] (zs I L)
abbrev K_X9_one_144 (l : Launch) (G : zG) (d : Nat) (P : Int32 → zIM → zLM → Prop) (I : zIM) (L : zLM) (s0 : Int32) : Prop := zWp (zXi l G d P) mX9_one (0, 0) 144 [none, none, none, none, none] [.int s0] (zs I L)
abbrev K_X9_workOut_33 (l : Launch) (G : zG) (d : Nat) (P : Int32 → zIM → zLM → Prop) (I : zIM) (L : zLM) (x3 : Int32) (x4 : Int32) (x5 : Int32) : Prop := zWp (zXi l G d P) mX9_workOut (0, 0) 33 [some (.ref 44), none, none, some (.int x3), some (.int x4), some (.int x5), none, none] [] (zs I L)
abbrev K_X9_workOut_74 (l : Launch) (G : zG) (d : Nat) (P : Int32 → zIM → zLM → Prop) (I : zIM) (L : zLM) (x3 : Int32) (x4 : Int32) (x6 : Int32) (x7 : Int32) : Prop := zWp (zXi l G d P) mX9_workOut (0, 0) 74 [some (.ref 44), none, none, some (.int x3), some (.int x4), none, some (.int x6), some (.int x7)] [] (zs I L)
abbrev K_X9_workOut_96 (l : Launch) (G : zG) (d : Nat) (P : Int32 → zIM → zLM → Prop) (I : zIM) (L : zLM) (x3 : Int32) (x4 : Int32) : Prop := zWp (zXi l G d P) mX9_workOut (0, 0) 96 [some (.ref 44), none, none, some (.int x3), some (.int x4), none, none, none] [] (zs I L)
abbrev K_X9_law_37 (l : Launch) (G : zG) (d : Nat) (P : Int32 → zIM → zLM → Prop) (I : zIM) (L : zLM) (x2 : Int32) (x3 : Int32) : Prop := zWp (zXi l G d P) mX9_law (0, 0) 37 [some (.ref 44), none, some (.int x2), some (.int x3)] [] (zs I L)
abbrev K_X9_nextOf_2 (l : Launch) (G : zG) (d : Nat) (P : Int32 → zIM → zLM → Prop) (I : zIM) (L : zLM) (x1 : Int32) (x2 : Int32) (x3 : Int32) : Prop := zWp (zXi l G d P) mX9_nextOf (0, 0) 2 [some (.ref 44), some (.int x1), some (.int x2), some (.int x3), none] [] (zs I L)
abbrev K_X9_byHits_7 (l : Launch) (G : zG) (d : Nat) (P : Int32 → zIM → zLM → Prop) (I : zIM) (L : zLM) (x1 : Int32) (x2 : Int32) (x3 : Int32) (x4 : Int32) (x5 : Int32) : Prop := zWp (zXi l G d P) mX9_byHits (0, 0) 7 [some (.ref 44), some (.int x1), some (.int x2), some (.int x3), some (.int x4), some (.int x5), none, none] [] (zs I L)
abbrev K_X9_worthBy_60 (l : Launch) (G : zG) (d : Nat) (P : zIM → zLM → Prop) (I : zIM) (L : zLM) (x5 : Int32) (x6 : Int32) (x8 : Int32) (x9 : Int32) : Prop := zWp (zXv l G d P) mX9_worthBy (0, 0) 60 [some (.ref 44), none, none, none, none, some (.int x5), some (.int x6), none, some (.int x8), some (.int x9)] [] (zs I L)
abbrev K_X9_settles_190 (l : Launch) (G : zG) (d : Nat) (P : zIM → zLM → Prop) (I : zIM) (L : zLM) (x4 : Int32) (x6 : Int32) : Prop := zWp (zXv l G d P) mX9_settles (0, 0) 190 [some (.ref 44), none, none, none, some (.int x4), none, some (.int x6), none, none] [] (zs I L)
abbrev K_X9_settles_49 (l : Launch) (G : zG) (d : Nat) (P : zIM → zLM → Prop) (I : zIM) (L : zLM) (x1 : Int32) (x2 : Int32) (x3 : Int32) (x4 : Int32) (x5 : Int32) (x6 : Int64) (x8 : Int32) : Prop := zWp (zXv l G d P) mX9_settles (0, 0) 49 [some (.ref 44), some (.int x1), some (.int x2), some (.int x3), some (.int x4), some (.int x5), some (.long x6), none, some (.int x8)] [] (zs I L)
abbrev K_X9_ends1_28 (l : Launch) (G : zG) (d : Nat) (P : zIM → zLM → Prop) (I : zIM) (L : zLM) (x1 : Int32) (x2 : Int32) (x4 : Int32) (x5 : Int32) : Prop := zWp (zXv l G d P) mX9_ends1 (0, 0) 28 [some (.ref 44), some (.int x1), some (.int x2), none, some (.int x4), some (.int x5)] [] (zs I L)
abbrev K_X9_solves_9 (l : Launch) (G : zG) (d : Nat) (P : zIM → zLM → Prop) (I : zIM) (L : zLM) (x1 : Int32) : Prop := zWp (zXv l G d P) mX9_solves (0, 0) 9 [some (.ref 44), some (.int x1), none, none] [] (zs I L)
abbrev K_X9_solves_44 (l : Launch) (G : zG) (d : Nat) (P : zIM → zLM → Prop) (I : zIM) (L : zLM) (x1 : Int32) : Prop := zWp (zXv l G d P) mX9_solves (0, 0) 44 [some (.ref 44), some (.int x1), none, none] [] (zs I L)
abbrev K_X9_solves_50 (l : Launch) (G : zG) (d : Nat) (P : zIM → zLM → Prop) (I : zIM) (L : zLM) (x1 : Int32) (x2 : Int32) : Prop := zWp (zXv l G d P) mX9_solves (0, 0) 50 [some (.ref 44), some (.int x1), some (.int x2), none] [] (zs I L)
abbrev K_X9_solves_60 (l : Launch) (G : zG) (d : Nat) (P : zIM → zLM → Prop) (I : zIM) (L : zLM) (x1 : Int32) (x2 : Int32) (x3 : Int32) : Prop := zWp (zXv l G d P) mX9_solves (0, 0) 60 [some (.ref 44), some (.int x1), some (.int x2), some (.int x3)] [] (zs I L)
abbrev K_X9_startOf_2 (l : Launch) (G : zG) (d : Nat) (P : Int32 → zIM → zLM → Prop) (I : zIM) (L : zLM) (x1 : Int32) (x2 : Int32) (x3 : Int32) : Prop := zWp (zXi l G d P) mX9_startOf (0, 0) 2 [some (.ref 44), some (.int x1), some (.int x2), some (.int x3), none] [] (zs I L)
abbrev K_X9_valueOf_35 (l : Launch) (G : zG) (d : Nat) (P : Int64 → zIM → zLM → Prop) (I : zIM) (L : zLM) (x1 : Int32) (x2 : Int32) (x3 : Int32) : Prop := zWp (zXl2 l G d P) mX9_valueOf (0, 0) 35 [some (.ref 44), some (.int x1), some (.int x2), some (.int x3), none, none, none, none, none] [] (zs I L)
abbrev K_X9_valueOf_42 (l : Launch) (G : zG) (d : Nat) (P : Int64 → zIM → zLM → Prop) (I : zIM) (L : zLM) (x1 : Int32) (x2 : Int32) (x3 : Int32) (x4 : Int32) : Prop := zWp (zXl2 l G d P) mX9_valueOf (0, 0) 42 [some (.ref 44), some (.int x1), some (.int x2), some (.int x3), some (.int x4), none, none, none, none] [] (zs I L)
abbrev K_X9_valueOf_54 (l : Launch) (G : zG) (d : Nat) (P : Int64 → zIM → zLM → Prop) (I : zIM) (L : zLM) (x1 : Int32) (x2 : Int32) (x3 : Int32) (x4 : Int32) (x5 : Int32) : Prop := zWp (zXl2 l G d P) mX9_valueOf (0, 0) 54 [some (.ref 44), some (.int x1), some (.int x2), some (.int x3), some (.int x4), some (.int x5), none, none, none] [] (zs I L)
set_option maxHeartbeats 4000000 in
set_option maxRecDepth 100000 in
theorem t_X9_within {l : Launch} {G : zG} {d : Nat} {P : Int32 → zIM → zLM → Prop} {I : zIM} {L : zLM} {x0 : Int64} {x2 : Int64} {x4 : Int64}  (h : ((x0 < x2 → (P (0 : Int32) I L)) ∧ (¬ x0 < x2 → (((x4 < x0 → (P (0 : Int32) I L)) ∧ (¬ x4 < x0 → (P (1 : Int32) I L))))))) : zCi l G d mX9_within [.long x0, .long x2, .long x4] I L P := by
  refine zCn.of (ls := [some (.long x0), none, some (.long x2), none, some (.long x4), none]) (by decide) (Nat.le_of_ble_eq_true rfl) rfl ?_
  refine z_lload_n (pc' := 1) (x := x0) dX9_within_0 rfl rfl ?_
  refine z_lload_n (pc' := 2) (x := x2) dX9_within_1 rfl rfl ?_
  refine z_lc_lt (pc' := 6) (tgt := 17) dX9_within_2 dX9_within_3 rfl (by decide) (fun c1 => ?_) (fun c1 => ?_)
  · replace h := h.1 c1
    refine z_iconst (pc' := 18) (v := 0) dX9_within_17 rfl (by decide) ?_
    exact z_iret dX9_within_18 rfl rfl ⟨Nat.le_refl _, Nat.le_refl _⟩ ⟨_, _, _, rfl, rfl, h⟩
  · replace h := h.2 c1
    refine z_lload_n (pc' := 7) (x := x0) dX9_within_6 rfl rfl ?_
    refine z_lload (pc' := 9) (x := x4) dX9_within_7 rfl rfl ?_
    refine z_lc_gt (pc' := 13) (tgt := 17) dX9_within_9 dX9_within_10 rfl (by decide) (fun c2 => ?_) (fun c2 => ?_)
    · replace h := h.1 c2
      refine z_iconst (pc' := 18) (v := 0) dX9_within_17 rfl (by decide) ?_
      exact z_iret dX9_within_18 rfl rfl ⟨Nat.le_refl _, Nat.le_refl _⟩ ⟨_, _, _, rfl, rfl, h⟩
    · replace h := h.2 c2
      refine z_iconst (pc' := 14) (v := 1) dX9_within_13 rfl (by decide) ?_
      refine z_goto (pc' := 18) dX9_within_14 (by decide) ?_
      exact z_iret dX9_within_18 rfl rfl ⟨Nat.le_refl _, Nat.le_refl _⟩ ⟨_, _, _, rfl, rfl, h⟩
set_option maxHeartbeats 4000000 in
set_option maxRecDepth 100000 in
theorem t_X9_bitsOf {l : Launch} {G : zG} {d : Nat} {P : Int32 → zIM → zLM → Prop} {I : zIM} {L : zLM} {x0 : Int32}  (h : K_X9_bitsOf_4 l G d P I L (0 : Int32) x0) : zCi l G d mX9_bitsOf [.int x0] I L P := by
  refine zCn.of (ls := [some (.int x0), none, none]) (by decide) (Nat.le_of_ble_eq_true rfl) rfl ?_
  refine z_iconst (pc' := 1) (v := 0) dX9_bitsOf_0 rfl (by decide) ?_
  refine z_istore_n (pc' := 2) (ls' := [some (.int x0), some (.int (0 : Int32)), none]) dX9_bitsOf_1 rfl (by decide) rfl ?_
  refine z_iload_n (pc' := 3) (x := x0) dX9_bitsOf_2 rfl rfl ?_
  refine z_istore_n (pc' := 4) (ls' := [some (.int x0), some (.int (0 : Int32)), some (.int x0)]) dX9_bitsOf_3 rfl (by decide) rfl ?_
  refine z_sub (pc' := 0) [none, some (.int (0 : Int32)), some (.int x0)] (zsub_n (zsub_s (zsub_s zsub_nil))) ?_
  exact h
set_option maxHeartbeats 4000000 in
set_option maxRecDepth 100000 in
theorem t_X9_bitsOf_4 {l : Launch} {G : zG} {d : Nat} {P : Int32 → zIM → zLM → Prop} {I : zIM} {L : zLM} {x1 : Int32} {x2 : Int32}   (h : ((x2 = 0 → (P x1 I L)) ∧ (¬ x2 = 0 → (K_X9_bitsOf_4 l G d P I L (x1 + (1 : Int32)) (x2 &&& (x2 - (1 : Int32))))))) : K_X9_bitsOf_4 l G d P I L x1 x2  := by
  refine z_iload_n (pc' := 5) (x := x2) dX9_bitsOf_4 rfl rfl ?_
  refine z_if_eq (pc' := 8) (tgt := 20) dX9_bitsOf_5 rfl (by decide) (fun c1 => ?_) (fun c1 => ?_)
  · replace h := h.1 c1
    refine z_iload_n (pc' := 21) (x := x1) dX9_bitsOf_20 rfl rfl ?_
    exact z_iret dX9_bitsOf_21 rfl rfl ⟨Nat.le_refl _, Nat.le_refl _⟩ ⟨_, _, _, rfl, rfl, h⟩
  · replace h := h.2 c1
    refine z_iinc (pc' := 11) (x := x1) (v := (x1 + (1 : Int32))) (ls' := [none, some (.int (x1 + (1 : Int32))), some (.int x2)]) dX9_bitsOf_8 rfl rfl (by rfl) (by decide) rfl ?_
    refine z_iload_n (pc' := 12) (x := x2) dX9_bitsOf_11 rfl rfl ?_
    refine z_iload_n (pc' := 13) (x := x2) dX9_bitsOf_12 rfl rfl ?_
    refine z_iconst (pc' := 14) (v := 1) dX9_bitsOf_13 rfl (by decide) ?_
    refine z_isub (pc' := 15) dX9_bitsOf_14 rfl ?_
    refine z_iand (pc' := 16) dX9_bitsOf_15 rfl ?_
    refine z_istore_n (pc' := 17) (ls' := [none, some (.int (x1 + (1 : Int32))), some (.int (x2 &&& (x2 - (1 : Int32))))]) dX9_bitsOf_16 rfl (by decide) rfl ?_
    refine z_goto (pc' := 4) dX9_bitsOf_17 (by decide) ?_
    exact h
set_option maxHeartbeats 4000000 in
set_option maxRecDepth 100000 in
theorem t_X9_isIn {l : Launch} {G : zG} {d : Nat} {P : Int32 → zIM → zLM → Prop} {I : zIM} {L : zLM} {x0 : Int32} {x1 : Int32}  (h : ((¬ ((x0 >>> (x1 &&& 31)) &&& (1 : Int32)) = (1 : Int32) → (P (0 : Int32) I L)) ∧ (((x0 >>> (x1 &&& 31)) &&& (1 : Int32)) = (1 : Int32) → (P (1 : Int32) I L)))) : zCi l G d mX9_isIn [.int x0, .int x1] I L P := by
  refine zCn.of (ls := [some (.int x0), some (.int x1)]) (by decide) (Nat.le_of_ble_eq_true rfl) rfl ?_
  refine z_iload_n (pc' := 1) (x := x0) dX9_isIn_0 rfl rfl ?_
  refine z_iload_n (pc' := 2) (x := x1) dX9_isIn_1 rfl rfl ?_
  refine z_ishr (pc' := 3) dX9_isIn_2 rfl ?_
  refine z_iconst (pc' := 4) (v := 1) dX9_isIn_3 rfl (by decide) ?_
  refine z_iand (pc' := 5) dX9_isIn_4 rfl ?_
  refine z_iconst (pc' := 6) (v := 1) dX9_isIn_5 rfl (by decide) ?_
  refine z_icmp_ne (pc' := 9) (tgt := 13) dX9_isIn_6 rfl (by decide) (fun c1 => ?_) (fun c1 => ?_)
  · replace h := h.1 c1
    refine z_iconst (pc' := 14) (v := 0) dX9_isIn_13 rfl (by decide) ?_
    exact z_iret dX9_isIn_14 rfl rfl ⟨Nat.le_refl _, Nat.le_refl _⟩ ⟨_, _, _, rfl, rfl, h⟩
  · replace h := h.2 c1
    refine z_iconst (pc' := 10) (v := 1) dX9_isIn_9 rfl (by decide) ?_
    refine z_goto (pc' := 14) dX9_isIn_10 (by decide) ?_
    exact z_iret dX9_isIn_14 rfl rfl ⟨Nat.le_refl _, Nat.le_refl _⟩ ⟨_, _, _, rfl, rfl, h⟩
set_option maxHeartbeats 4000000 in
set_option maxRecDepth 100000 in
theorem t_X9_becomes {l : Launch} {G : zG} {d : Nat} {P : Int32 → zIM → zLM → Prop} {I : zIM} {L : zLM} {x1 : Int32} {x2 : Int32}  (h : ∃ j1 : Nat, x1 = nI j1 ∧ j1 < 12 ∧ (((¬ (I 45 j1) = x2 → (((¬ (I 44 5) = (40 : Int32) → (∃ j4 : Nat, (I 44 5) = nI j4 ∧ j4 < 40 ∧ (P (I 45 j1) (xI (xI (xI (xI (xI (xI I 46 j4 x1) 47 j4 (I 45 j1)) 48 j4 x2) 44 5 ((I 44 5) + (1 : Int32))) 44 4 ((I 44 5) + (1 : Int32))) 45 j1 x2) L))) ∧ ((I 44 5) = (40 : Int32) → (K_X9_becomes_26 l G d P I L x1 x2 (I 45 j1) (1 : Int32)))))) ∧ ((I 45 j1) = x2 → (P (I 45 j1) I L))))) : zCi l G d mX9_becomes [.ref 44, .int x1, .int x2] I L P := by
  refine zCn.of (ls := [some (.ref 44), some (.int x1), some (.int x2), none, none]) (by decide) (Nat.le_of_ble_eq_true rfl) rfl ?_
  refine z_aload_n (pc' := 1) (x := 44) dX9_becomes_0 rfl rfl ?_
  refine z_getr (pc' := 4) (x := 45) dX9_becomes_1 rfl fl_X9_9 rfl rfl rfl ?_
  refine z_iload_n (pc' := 5) (x := x1) dX9_becomes_4 rfl rfl ?_
  obtain ⟨j1, ha1, hb1, h⟩ := h
  refine z_iald (pc' := 6) (x := (I 45 j1)) (j := j1) dX9_becomes_5 rfl rfl (by decide) ha1 hb1 rfl ?_
  refine z_istore_n (pc' := 7) (ls' := [some (.ref 44), some (.int x1), some (.int x2), some (.int (I 45 j1)), none]) dX9_becomes_6 rfl (by decide) rfl ?_
  refine z_iload_n (pc' := 8) (x := (I 45 j1)) dX9_becomes_7 rfl rfl ?_
  refine z_iload_n (pc' := 9) (x := x2) dX9_becomes_8 rfl rfl ?_
  refine z_icmp_ne (pc' := 12) (tgt := 14) dX9_becomes_9 rfl (by decide) (fun c2 => ?_) (fun c2 => ?_)
  · replace h := h.1 c2
    refine z_aload_n (pc' := 15) (x := 44) dX9_becomes_14 rfl rfl ?_
    refine z_geti (pc' := 18) (x := (I 44 5)) dX9_becomes_15 rfl fl_X9_90 rfl rfl rfl ?_
    refine z_bipush (pc' := 20) (v := 40) dX9_becomes_18 rfl (by decide) ?_
    refine z_icmp_ne (pc' := 23) (tgt := 97) dX9_becomes_20 rfl (by decide) (fun c3 => ?_) (fun c3 => ?_)
    · replace h := h.1 c3
      refine z_aload_n (pc' := 98) (x := 44) dX9_becomes_97 rfl rfl ?_
      refine z_getr (pc' := 101) (x := 46) dX9_becomes_98 rfl fl_X9_13 rfl rfl rfl ?_
      refine z_aload_n (pc' := 102) (x := 44) dX9_becomes_101 rfl rfl ?_
      refine z_geti (pc' := 105) (x := (I 44 5)) dX9_becomes_102 rfl fl_X9_90 rfl rfl rfl ?_
      refine z_iload_n (pc' := 106) (x := x1) dX9_becomes_105 rfl rfl ?_
      obtain ⟨j4, ha4, hb4, h⟩ := h
      refine z_iast (pc' := 107) (j := j4) (w' := zs (xI I 46 j4 x1) L) dX9_becomes_106 rfl rfl (by decide) ha4 hb4 rfl ?_
      refine z_aload_n (pc' := 108) (x := 44) dX9_becomes_107 rfl rfl ?_
      refine z_getr (pc' := 111) (x := 47) dX9_becomes_108 rfl fl_X9_16 rfl rfl rfl ?_
      refine z_aload_n (pc' := 112) (x := 44) dX9_becomes_111 rfl rfl ?_
      refine z_geti (pc' := 115) (x := (I 44 5)) dX9_becomes_112 rfl fl_X9_90 rfl rfl rfl ?_
      refine z_iload_n (pc' := 116) (x := (I 45 j1)) dX9_becomes_115 rfl rfl ?_
      refine z_iast (pc' := 117) (j := j4) (w' := zs (xI (xI I 46 j4 x1) 47 j4 (I 45 j1)) L) dX9_becomes_116 rfl rfl (by decide) ha4 hb4 rfl ?_
      refine z_aload_n (pc' := 118) (x := 44) dX9_becomes_117 rfl rfl ?_
      refine z_getr (pc' := 121) (x := 48) dX9_becomes_118 rfl fl_X9_19 rfl rfl rfl ?_
      refine z_aload_n (pc' := 122) (x := 44) dX9_becomes_121 rfl rfl ?_
      refine z_geti (pc' := 125) (x := (I 44 5)) dX9_becomes_122 rfl fl_X9_90 rfl rfl rfl ?_
      refine z_iload_n (pc' := 126) (x := x2) dX9_becomes_125 rfl rfl ?_
      refine z_iast (pc' := 127) (j := j4) (w' := zs (xI (xI (xI I 46 j4 x1) 47 j4 (I 45 j1)) 48 j4 x2) L) dX9_becomes_126 rfl rfl (by decide) ha4 hb4 rfl ?_
      refine z_aload_n (pc' := 128) (x := 44) dX9_becomes_127 rfl rfl ?_
      refine z_dup (pc' := 129) dX9_becomes_128 rfl rfl ?_
      refine z_geti (pc' := 132) (x := (I 44 5)) dX9_becomes_129 rfl fl_X9_90 rfl rfl rfl ?_
      refine z_iconst (pc' := 133) (v := 1) dX9_becomes_132 rfl (by decide) ?_
      refine z_iadd (pc' := 134) dX9_becomes_133 rfl ?_
      refine z_puti (pc' := 137) (w' := zs (xI (xI (xI (xI I 46 j4 x1) 47 j4 (I 45 j1)) 48 j4 x2) 44 5 ((I 44 5) + (1 : Int32))) L) dX9_becomes_134 rfl fl_X9_90 rfl rfl rfl rfl rfl rfl ?_
      refine z_aload_n (pc' := 138) (x := 44) dX9_becomes_137 rfl rfl ?_
      refine z_aload_n (pc' := 139) (x := 44) dX9_becomes_138 rfl rfl ?_
      refine z_geti (pc' := 142) (x := ((I 44 5) + (1 : Int32))) dX9_becomes_139 rfl fl_X9_90 rfl rfl rfl ?_
      refine z_puti (pc' := 145) (w' := zs (xI (xI (xI (xI (xI I 46 j4 x1) 47 j4 (I 45 j1)) 48 j4 x2) 44 5 ((I 44 5) + (1 : Int32))) 44 4 ((I 44 5) + (1 : Int32))) L) dX9_becomes_142 rfl fl_X9_93 rfl rfl rfl rfl rfl rfl ?_
      refine z_aload_n (pc' := 146) (x := 44) dX9_becomes_145 rfl rfl ?_
      refine z_getr (pc' := 149) (x := 45) dX9_becomes_146 rfl fl_X9_9 rfl rfl rfl ?_
      refine z_iload_n (pc' := 150) (x := x1) dX9_becomes_149 rfl rfl ?_
      refine z_iload_n (pc' := 151) (x := x2) dX9_becomes_150 rfl rfl ?_
      refine z_iast (pc' := 152) (j := j1) (w' := zs (xI (xI (xI (xI (xI (xI I 46 j4 x1) 47 j4 (I 45 j1)) 48 j4 x2) 44 5 ((I 44 5) + (1 : Int32))) 44 4 ((I 44 5) + (1 : Int32))) 45 j1 x2) L) dX9_becomes_151 rfl rfl (by decide) ha1 hb1 rfl ?_
      refine z_iload_n (pc' := 153) (x := (I 45 j1)) dX9_becomes_152 rfl rfl ?_
      exact z_iret dX9_becomes_153 rfl rfl ⟨Nat.le_refl _, Nat.le_refl _⟩ ⟨_, _, _, rfl, rfl, h⟩
    · replace h := h.2 c3
      refine z_iconst (pc' := 24) (v := 1) dX9_becomes_23 rfl (by decide) ?_
      refine z_istore (pc' := 26) (ls' := [some (.ref 44), some (.int x1), some (.int x2), some (.int (I 45 j1)), some (.int (1 : Int32))]) dX9_becomes_24 rfl (by decide) rfl ?_
      exact h
  · replace h := h.2 c2
    refine z_iload_n (pc' := 13) (x := (I 45 j1)) dX9_becomes_12 rfl rfl ?_
    exact z_iret dX9_becomes_13 rfl rfl ⟨Nat.le_refl _, Nat.le_refl _⟩ ⟨_, _, _, rfl, rfl, h⟩
set_option maxHeartbeats 4000000 in
set_option maxRecDepth 100000 in
theorem t_X9_becomes_26 {l : Launch} {G : zG} {d : Nat} {P : Int32 → zIM → zLM → Prop} {I : zIM} {L : zLM} {x1 : Int32} {x2 : Int32} {x3 : Int32} {x4 : Int32}   (h : (((40 : Int32) ≤ x4 → (∃ j2 : Nat, ((I 44 5) - (1 : Int32)) = nI j2 ∧ j2 < 40 ∧ (∃ j3 : Nat, x1 = nI j3 ∧ j3 < 12 ∧ (P x3 (xI (xI (xI (xI (xI (xI (xI I 44 5 ((I 44 5) - (1 : Int32))) 46 j2 x1) 47 j2 x3) 48 j2 x2) 44 5 (((I 44 5) - (1 : Int32)) + (1 : Int32))) 44 4 (((I 44 5) - (1 : Int32)) + (1 : Int32))) 45 j3 x2) L)))) ∧ (¬ (40 : Int32) ≤ x4 → (∃ j4 : Nat, x4 = nI j4 ∧ j4 < 40 ∧ (∃ j5 : Nat, (x4 - (1 : Int32)) = nI j5 ∧ j5 < 40 ∧ (K_X9_becomes_26 l G d P (xI (xI (xI I 46 j5 (I 46 j4)) 47 j5 (I 47 j4)) 48 j5 (I 48 j4)) L x1 x2 x3 (x4 + (1 : Int32)))))))) : K_X9_becomes_26 l G d P I L x1 x2 x3 x4  := by
  refine z_iload (pc' := 28) (x := x4) dX9_becomes_26 rfl rfl ?_
  refine z_bipush (pc' := 30) (v := 40) dX9_becomes_28 rfl (by decide) ?_
  refine z_icmp_ge (pc' := 33) (tgt := 87) dX9_becomes_30 rfl (by decide) (fun c1 => ?_) (fun c1 => ?_)
  · replace h := h.1 c1
    refine z_aload_n (pc' := 88) (x := 44) dX9_becomes_87 rfl rfl ?_
    refine z_dup (pc' := 89) dX9_becomes_88 rfl rfl ?_
    refine z_geti (pc' := 92) (x := (I 44 5)) dX9_becomes_89 rfl fl_X9_90 rfl rfl rfl ?_
    refine z_iconst (pc' := 93) (v := 1) dX9_becomes_92 rfl (by decide) ?_
    refine z_isub (pc' := 94) dX9_becomes_93 rfl ?_
    refine z_puti (pc' := 97) (w' := zs (xI I 44 5 ((I 44 5) - (1 : Int32))) L) dX9_becomes_94 rfl fl_X9_90 rfl rfl rfl rfl rfl rfl ?_
    refine z_aload_n (pc' := 98) (x := 44) dX9_becomes_97 rfl rfl ?_
    refine z_getr (pc' := 101) (x := 46) dX9_becomes_98 rfl fl_X9_13 rfl rfl rfl ?_
    refine z_aload_n (pc' := 102) (x := 44) dX9_becomes_101 rfl rfl ?_
    refine z_geti (pc' := 105) (x := ((I 44 5) - (1 : Int32))) dX9_becomes_102 rfl fl_X9_90 rfl rfl rfl ?_
    refine z_iload_n (pc' := 106) (x := x1) dX9_becomes_105 rfl rfl ?_
    obtain ⟨j2, ha2, hb2, h⟩ := h
    refine z_iast (pc' := 107) (j := j2) (w' := zs (xI (xI I 44 5 ((I 44 5) - (1 : Int32))) 46 j2 x1) L) dX9_becomes_106 rfl rfl (by decide) ha2 hb2 rfl ?_
    refine z_aload_n (pc' := 108) (x := 44) dX9_becomes_107 rfl rfl ?_
    refine z_getr (pc' := 111) (x := 47) dX9_becomes_108 rfl fl_X9_16 rfl rfl rfl ?_
    refine z_aload_n (pc' := 112) (x := 44) dX9_becomes_111 rfl rfl ?_
    refine z_geti (pc' := 115) (x := ((I 44 5) - (1 : Int32))) dX9_becomes_112 rfl fl_X9_90 rfl rfl rfl ?_
    refine z_iload_n (pc' := 116) (x := x3) dX9_becomes_115 rfl rfl ?_
    refine z_iast (pc' := 117) (j := j2) (w' := zs (xI (xI (xI I 44 5 ((I 44 5) - (1 : Int32))) 46 j2 x1) 47 j2 x3) L) dX9_becomes_116 rfl rfl (by decide) ha2 hb2 rfl ?_
    refine z_aload_n (pc' := 118) (x := 44) dX9_becomes_117 rfl rfl ?_
    refine z_getr (pc' := 121) (x := 48) dX9_becomes_118 rfl fl_X9_19 rfl rfl rfl ?_
    refine z_aload_n (pc' := 122) (x := 44) dX9_becomes_121 rfl rfl ?_
    refine z_geti (pc' := 125) (x := ((I 44 5) - (1 : Int32))) dX9_becomes_122 rfl fl_X9_90 rfl rfl rfl ?_
    refine z_iload_n (pc' := 126) (x := x2) dX9_becomes_125 rfl rfl ?_
    refine z_iast (pc' := 127) (j := j2) (w' := zs (xI (xI (xI (xI I 44 5 ((I 44 5) - (1 : Int32))) 46 j2 x1) 47 j2 x3) 48 j2 x2) L) dX9_becomes_126 rfl rfl (by decide) ha2 hb2 rfl ?_
    refine z_aload_n (pc' := 128) (x := 44) dX9_becomes_127 rfl rfl ?_
    refine z_dup (pc' := 129) dX9_becomes_128 rfl rfl ?_
    refine z_geti (pc' := 132) (x := ((I 44 5) - (1 : Int32))) dX9_becomes_129 rfl fl_X9_90 rfl rfl rfl ?_
    refine z_iconst (pc' := 133) (v := 1) dX9_becomes_132 rfl (by decide) ?_
    refine z_iadd (pc' := 134) dX9_becomes_133 rfl ?_
    refine z_puti (pc' := 137) (w' := zs (xI (xI (xI (xI (xI I 44 5 ((I 44 5) - (1 : Int32))) 46 j2 x1) 47 j2 x3) 48 j2 x2) 44 5 (((I 44 5) - (1 : Int32)) + (1 : Int32))) L) dX9_becomes_134 rfl fl_X9_90 rfl rfl rfl rfl rfl rfl ?_
    refine z_aload_n (pc' := 138) (x := 44) dX9_becomes_137 rfl rfl ?_
    refine z_aload_n (pc' := 139) (x := 44) dX9_becomes_138 rfl rfl ?_
    refine z_geti (pc' := 142) (x := (((I 44 5) - (1 : Int32)) + (1 : Int32))) dX9_becomes_139 rfl fl_X9_90 rfl rfl rfl ?_
    refine z_puti (pc' := 145) (w' := zs (xI (xI (xI (xI (xI (xI I 44 5 ((I 44 5) - (1 : Int32))) 46 j2 x1) 47 j2 x3) 48 j2 x2) 44 5 (((I 44 5) - (1 : Int32)) + (1 : Int32))) 44 4 (((I 44 5) - (1 : Int32)) + (1 : Int32))) L) dX9_becomes_142 rfl fl_X9_93 rfl rfl rfl rfl rfl rfl ?_
    refine z_aload_n (pc' := 146) (x := 44) dX9_becomes_145 rfl rfl ?_
    refine z_getr (pc' := 149) (x := 45) dX9_becomes_146 rfl fl_X9_9 rfl rfl rfl ?_
    refine z_iload_n (pc' := 150) (x := x1) dX9_becomes_149 rfl rfl ?_
    refine z_iload_n (pc' := 151) (x := x2) dX9_becomes_150 rfl rfl ?_
    obtain ⟨j3, ha3, hb3, h⟩ := h
    refine z_iast (pc' := 152) (j := j3) (w' := zs (xI (xI (xI (xI (xI (xI (xI I 44 5 ((I 44 5) - (1 : Int32))) 46 j2 x1) 47 j2 x3) 48 j2 x2) 44 5 (((I 44 5) - (1 : Int32)) + (1 : Int32))) 44 4 (((I 44 5) - (1 : Int32)) + (1 : Int32))) 45 j3 x2) L) dX9_becomes_151 rfl rfl (by decide) ha3 hb3 rfl ?_
    refine z_iload_n (pc' := 153) (x := x3) dX9_becomes_152 rfl rfl ?_
    exact z_iret dX9_becomes_153 rfl rfl ⟨Nat.le_refl _, Nat.le_refl _⟩ ⟨_, _, _, rfl, rfl, h⟩
  · replace h := h.2 c1
    refine z_aload_n (pc' := 34) (x := 44) dX9_becomes_33 rfl rfl ?_
    refine z_getr (pc' := 37) (x := 46) dX9_becomes_34 rfl fl_X9_13 rfl rfl rfl ?_
    refine z_iload (pc' := 39) (x := x4) dX9_becomes_37 rfl rfl ?_
    refine z_iconst (pc' := 40) (v := 1) dX9_becomes_39 rfl (by decide) ?_
    refine z_isub (pc' := 41) dX9_becomes_40 rfl ?_
    refine z_aload_n (pc' := 42) (x := 44) dX9_becomes_41 rfl rfl ?_
    refine z_getr (pc' := 45) (x := 46) dX9_becomes_42 rfl fl_X9_13 rfl rfl rfl ?_
    refine z_iload (pc' := 47) (x := x4) dX9_becomes_45 rfl rfl ?_
    obtain ⟨j4, ha4, hb4, h⟩ := h
    refine z_iald (pc' := 48) (x := (I 46 j4)) (j := j4) dX9_becomes_47 rfl rfl (by decide) ha4 hb4 rfl ?_
    obtain ⟨j5, ha5, hb5, h⟩ := h
    refine z_iast (pc' := 49) (j := j5) (w' := zs (xI I 46 j5 (I 46 j4)) L) dX9_becomes_48 rfl rfl (by decide) ha5 hb5 rfl ?_
    refine z_aload_n (pc' := 50) (x := 44) dX9_becomes_49 rfl rfl ?_
    refine z_getr (pc' := 53) (x := 47) dX9_becomes_50 rfl fl_X9_16 rfl rfl rfl ?_
    refine z_iload (pc' := 55) (x := x4) dX9_becomes_53 rfl rfl ?_
    refine z_iconst (pc' := 56) (v := 1) dX9_becomes_55 rfl (by decide) ?_
    refine z_isub (pc' := 57) dX9_becomes_56 rfl ?_
    refine z_aload_n (pc' := 58) (x := 44) dX9_becomes_57 rfl rfl ?_
    refine z_getr (pc' := 61) (x := 47) dX9_becomes_58 rfl fl_X9_16 rfl rfl rfl ?_
    refine z_iload (pc' := 63) (x := x4) dX9_becomes_61 rfl rfl ?_
    refine z_iald (pc' := 64) (x := (I 47 j4)) (j := j4) dX9_becomes_63 rfl rfl (by decide) ha4 hb4 rfl ?_
    refine z_iast (pc' := 65) (j := j5) (w' := zs (xI (xI I 46 j5 (I 46 j4)) 47 j5 (I 47 j4)) L) dX9_becomes_64 rfl rfl (by decide) ha5 hb5 rfl ?_
    refine z_aload_n (pc' := 66) (x := 44) dX9_becomes_65 rfl rfl ?_
    refine z_getr (pc' := 69) (x := 48) dX9_becomes_66 rfl fl_X9_19 rfl rfl rfl ?_
    refine z_iload (pc' := 71) (x := x4) dX9_becomes_69 rfl rfl ?_
    refine z_iconst (pc' := 72) (v := 1) dX9_becomes_71 rfl (by decide) ?_
    refine z_isub (pc' := 73) dX9_becomes_72 rfl ?_
    refine z_aload_n (pc' := 74) (x := 44) dX9_becomes_73 rfl rfl ?_
    refine z_getr (pc' := 77) (x := 48) dX9_becomes_74 rfl fl_X9_19 rfl rfl rfl ?_
    refine z_iload (pc' := 79) (x := x4) dX9_becomes_77 rfl rfl ?_
    refine z_iald (pc' := 80) (x := (I 48 j4)) (j := j4) dX9_becomes_79 rfl rfl (by decide) ha4 hb4 rfl ?_
    refine z_iast (pc' := 81) (j := j5) (w' := zs (xI (xI (xI I 46 j5 (I 46 j4)) 47 j5 (I 47 j4)) 48 j5 (I 48 j4)) L) dX9_becomes_80 rfl rfl (by decide) ha5 hb5 rfl ?_
    refine z_iinc (pc' := 84) (x := x4) (v := (x4 + (1 : Int32))) (ls' := [some (.ref 44), some (.int x1), some (.int x2), some (.int x3), some (.int (x4 + (1 : Int32)))]) dX9_becomes_81 rfl rfl (by rfl) (by decide) rfl ?_
    refine z_goto (pc' := 26) dX9_becomes_84 (by decide) ?_
    exact h
set_option maxHeartbeats 4000000 in
set_option maxRecDepth 100000 in
theorem t_X9_undo {l : Launch} {G : zG} {d : Nat} {P : Int32 → zIM → zLM → Prop} {I : zIM} {L : zLM}   (h : ((¬ (I 44 5) = 0 → (∃ j2 : Nat, ((I 44 5) - (1 : Int32)) = nI j2 ∧ j2 < 40 ∧ (∃ j3 : Nat, (I 46 j2) = nI j3 ∧ j3 < 12 ∧ (P ((I 44 5) - (1 : Int32)) (xI (xI I 44 5 ((I 44 5) - (1 : Int32))) 45 j3 (I 47 j2)) L)))) ∧ ((I 44 5) = 0 → (P (-5 : Int32) I L)))) : zCi l G d mX9_undo [.ref 44] I L P := by
  refine zCn.of (ls := [some (.ref 44)]) (by decide) (Nat.le_of_ble_eq_true rfl) rfl ?_
  refine z_aload_n (pc' := 1) (x := 44) dX9_undo_0 rfl rfl ?_
  refine z_geti (pc' := 4) (x := (I 44 5)) dX9_undo_1 rfl fl_X9_90 rfl rfl rfl ?_
  refine z_if_ne (pc' := 7) (tgt := 10) dX9_undo_4 rfl (by decide) (fun c1 => ?_) (fun c1 => ?_)
  · replace h := h.1 c1
    refine z_aload_n (pc' := 11) (x := 44) dX9_undo_10 rfl rfl ?_
    refine z_dup (pc' := 12) dX9_undo_11 rfl rfl ?_
    refine z_geti (pc' := 15) (x := (I 44 5)) dX9_undo_12 rfl fl_X9_90 rfl rfl rfl ?_
    refine z_iconst (pc' := 16) (v := 1) dX9_undo_15 rfl (by decide) ?_
    refine z_isub (pc' := 17) dX9_undo_16 rfl ?_
    refine z_puti (pc' := 20) (w' := zs (xI I 44 5 ((I 44 5) - (1 : Int32))) L) dX9_undo_17 rfl fl_X9_90 rfl rfl rfl rfl rfl rfl ?_
    refine z_aload_n (pc' := 21) (x := 44) dX9_undo_20 rfl rfl ?_
    refine z_getr (pc' := 24) (x := 45) dX9_undo_21 rfl fl_X9_9 rfl rfl rfl ?_
    refine z_aload_n (pc' := 25) (x := 44) dX9_undo_24 rfl rfl ?_
    refine z_getr (pc' := 28) (x := 46) dX9_undo_25 rfl fl_X9_13 rfl rfl rfl ?_
    refine z_aload_n (pc' := 29) (x := 44) dX9_undo_28 rfl rfl ?_
    refine z_geti (pc' := 32) (x := ((I 44 5) - (1 : Int32))) dX9_undo_29 rfl fl_X9_90 rfl rfl rfl ?_
    obtain ⟨j2, ha2, hb2, h⟩ := h
    refine z_iald (pc' := 33) (x := (I 46 j2)) (j := j2) dX9_undo_32 rfl rfl (by decide) ha2 hb2 rfl ?_
    refine z_aload_n (pc' := 34) (x := 44) dX9_undo_33 rfl rfl ?_
    refine z_getr (pc' := 37) (x := 47) dX9_undo_34 rfl fl_X9_16 rfl rfl rfl ?_
    refine z_aload_n (pc' := 38) (x := 44) dX9_undo_37 rfl rfl ?_
    refine z_geti (pc' := 41) (x := ((I 44 5) - (1 : Int32))) dX9_undo_38 rfl fl_X9_90 rfl rfl rfl ?_
    refine z_iald (pc' := 42) (x := (I 47 j2)) (j := j2) dX9_undo_41 rfl rfl (by decide) ha2 hb2 rfl ?_
    obtain ⟨j3, ha3, hb3, h⟩ := h
    refine z_iast (pc' := 43) (j := j3) (w' := zs (xI (xI I 44 5 ((I 44 5) - (1 : Int32))) 45 j3 (I 47 j2)) L) dX9_undo_42 rfl rfl (by decide) ha3 hb3 rfl ?_
    refine z_aload_n (pc' := 44) (x := 44) dX9_undo_43 rfl rfl ?_
    refine z_geti (pc' := 47) (x := ((I 44 5) - (1 : Int32))) dX9_undo_44 rfl fl_X9_90 rfl rfl rfl ?_
    exact z_iret dX9_undo_47 rfl rfl ⟨Nat.le_refl _, Nat.le_refl _⟩ ⟨_, _, _, rfl, rfl, h⟩
  · replace h := h.2 c1
    refine z_bipush (pc' := 9) (v := -5) dX9_undo_7 rfl (by decide) ?_
    exact z_iret dX9_undo_9 rfl rfl ⟨Nat.le_refl _, Nat.le_refl _⟩ ⟨_, _, _, rfl, rfl, h⟩
set_option maxHeartbeats 4000000 in
set_option maxRecDepth 100000 in
theorem t_X9_redo {l : Launch} {G : zG} {d : Nat} {P : Int32 → zIM → zLM → Prop} {I : zIM} {L : zLM}   (h : ((¬ (I 44 5) = (I 44 4) → (∃ j2 : Nat, (I 44 5) = nI j2 ∧ j2 < 40 ∧ (∃ j3 : Nat, (I 46 j2) = nI j3 ∧ j3 < 12 ∧ (P ((I 44 4) - ((I 44 5) + (1 : Int32))) (xI (xI I 45 j3 (I 48 j2)) 44 5 ((I 44 5) + (1 : Int32))) L)))) ∧ ((I 44 5) = (I 44 4) → (P (-5 : Int32) I L)))) : zCi l G d mX9_redo [.ref 44] I L P := by
  refine zCn.of (ls := [some (.ref 44)]) (by decide) (Nat.le_of_ble_eq_true rfl) rfl ?_
  refine z_aload_n (pc' := 1) (x := 44) dX9_redo_0 rfl rfl ?_
  refine z_geti (pc' := 4) (x := (I 44 5)) dX9_redo_1 rfl fl_X9_90 rfl rfl rfl ?_
  refine z_aload_n (pc' := 5) (x := 44) dX9_redo_4 rfl rfl ?_
  refine z_geti (pc' := 8) (x := (I 44 4)) dX9_redo_5 rfl fl_X9_93 rfl rfl rfl ?_
  refine z_icmp_ne (pc' := 11) (tgt := 14) dX9_redo_8 rfl (by decide) (fun c1 => ?_) (fun c1 => ?_)
  · replace h := h.1 c1
    refine z_aload_n (pc' := 15) (x := 44) dX9_redo_14 rfl rfl ?_
    refine z_getr (pc' := 18) (x := 45) dX9_redo_15 rfl fl_X9_9 rfl rfl rfl ?_
    refine z_aload_n (pc' := 19) (x := 44) dX9_redo_18 rfl rfl ?_
    refine z_getr (pc' := 22) (x := 46) dX9_redo_19 rfl fl_X9_13 rfl rfl rfl ?_
    refine z_aload_n (pc' := 23) (x := 44) dX9_redo_22 rfl rfl ?_
    refine z_geti (pc' := 26) (x := (I 44 5)) dX9_redo_23 rfl fl_X9_90 rfl rfl rfl ?_
    obtain ⟨j2, ha2, hb2, h⟩ := h
    refine z_iald (pc' := 27) (x := (I 46 j2)) (j := j2) dX9_redo_26 rfl rfl (by decide) ha2 hb2 rfl ?_
    refine z_aload_n (pc' := 28) (x := 44) dX9_redo_27 rfl rfl ?_
    refine z_getr (pc' := 31) (x := 48) dX9_redo_28 rfl fl_X9_19 rfl rfl rfl ?_
    refine z_aload_n (pc' := 32) (x := 44) dX9_redo_31 rfl rfl ?_
    refine z_geti (pc' := 35) (x := (I 44 5)) dX9_redo_32 rfl fl_X9_90 rfl rfl rfl ?_
    refine z_iald (pc' := 36) (x := (I 48 j2)) (j := j2) dX9_redo_35 rfl rfl (by decide) ha2 hb2 rfl ?_
    obtain ⟨j3, ha3, hb3, h⟩ := h
    refine z_iast (pc' := 37) (j := j3) (w' := zs (xI I 45 j3 (I 48 j2)) L) dX9_redo_36 rfl rfl (by decide) ha3 hb3 rfl ?_
    refine z_aload_n (pc' := 38) (x := 44) dX9_redo_37 rfl rfl ?_
    refine z_dup (pc' := 39) dX9_redo_38 rfl rfl ?_
    refine z_geti (pc' := 42) (x := (I 44 5)) dX9_redo_39 rfl fl_X9_90 rfl rfl rfl ?_
    refine z_iconst (pc' := 43) (v := 1) dX9_redo_42 rfl (by decide) ?_
    refine z_iadd (pc' := 44) dX9_redo_43 rfl ?_
    refine z_puti (pc' := 47) (w' := zs (xI (xI I 45 j3 (I 48 j2)) 44 5 ((I 44 5) + (1 : Int32))) L) dX9_redo_44 rfl fl_X9_90 rfl rfl rfl rfl rfl rfl ?_
    refine z_aload_n (pc' := 48) (x := 44) dX9_redo_47 rfl rfl ?_
    refine z_geti (pc' := 51) (x := (I 44 4)) dX9_redo_48 rfl fl_X9_93 rfl rfl rfl ?_
    refine z_aload_n (pc' := 52) (x := 44) dX9_redo_51 rfl rfl ?_
    refine z_geti (pc' := 55) (x := ((I 44 5) + (1 : Int32))) dX9_redo_52 rfl fl_X9_90 rfl rfl rfl ?_
    refine z_isub (pc' := 56) dX9_redo_55 rfl ?_
    exact z_iret dX9_redo_56 rfl rfl ⟨Nat.le_refl _, Nat.le_refl _⟩ ⟨_, _, _, rfl, rfl, h⟩
  · replace h := h.2 c1
    refine z_bipush (pc' := 13) (v := -5) dX9_redo_11 rfl (by decide) ?_
    exact z_iret dX9_redo_13 rfl rfl ⟨Nat.le_refl _, Nat.le_refl _⟩ ⟨_, _, _, rfl, rfl, h⟩
set_option maxHeartbeats 4000000 in
set_option maxRecDepth 100000 in
theorem t_X9_isPlayer {l : Launch} {G : zG} {d : Nat} {P : Int32 → zIM → zLM → Prop} {I : zIM} {L : zLM} {x1 : Int32}  (h : ∃ (d1 : Nat) (P1 : Int32 → zIM → zLM → Prop), d1 + 1 ≤ d ∧ zCi l G d1 mX9_within [.long (x1.toInt64), .long (0 : Int64), .long (((I 44 6) - (1 : Int32)).toInt64)] I L P1 ∧ ∀ (y1 : Int32) (I1 : zIM) (L1 : zLM), P1 y1 I1 L1 → ((y1 = 0 ∨ y1 = 1) ∧ P y1 I1 L1)) : zCi l G d mX9_isPlayer [.ref 44, .int x1] I L P := by
  refine zCn.of (ls := [some (.ref 44), some (.int x1)]) (by decide) (Nat.le_of_ble_eq_true rfl) rfl ?_
  refine z_iload_n (pc' := 1) (x := x1) dX9_isPlayer_0 rfl rfl ?_
  refine z_i2l (pc' := 2) dX9_isPlayer_1 rfl ?_
  refine z_lconst (pc' := 3) (v := 0) dX9_isPlayer_2 rfl (by decide) ?_
  refine z_aload_n (pc' := 4) (x := 44) dX9_isPlayer_3 rfl rfl ?_
  refine z_geti (pc' := 7) (x := (I 44 6)) dX9_isPlayer_4 rfl fl_X9_96 rfl rfl rfl ?_
  refine z_iconst (pc' := 8) (v := 1) dX9_isPlayer_7 rfl (by decide) ?_
  refine z_isub (pc' := 9) dX9_isPlayer_8 rfl ?_
  refine z_i2l (pc' := 10) dX9_isPlayer_9 rfl ?_
  obtain ⟨d1, P1, hd1, hC1, h⟩ := h
  refine z_callS (pc' := 13) (M' := mX9_within) (As := [.long (x1.toInt64), .long (0 : Int64), .long (((I 44 6) - (1 : Int32)).toInt64)]) dX9_isPlayer_10 rfl ml_X9_99 me_X9_within hC1 rfl hd1 (Nat.le_of_ble_eq_true rfl) ⟨Nat.le_refl _, Nat.le_refl _⟩ rfl ?_
  rintro _ _ ⟨y1, I1, L1, rfl, rfl, hP1⟩
  replace h := h y1 I1 L1 hP1
  exact z_iret dX9_isPlayer_13 rfl (znb h.1) ⟨Nat.le_refl _, Nat.le_refl _⟩ ⟨_, _, _, rfl, rfl, h.2⟩
set_option maxHeartbeats 4000000 in
set_option maxRecDepth 100000 in
theorem t_X9_all {l : Launch} {G : zG} {d : Nat} {P : Int32 → zIM → zLM → Prop} {I : zIM} {L : zLM}   (h : P (((1 : Int32) <<< ((I 44 6) &&& 31)) - (1 : Int32)) I L) : zCi l G d mX9_all [.ref 44] I L P := by
  refine zCn.of (ls := [some (.ref 44)]) (by decide) (Nat.le_of_ble_eq_true rfl) rfl ?_
  refine z_iconst (pc' := 1) (v := 1) dX9_all_0 rfl (by decide) ?_
  refine z_aload_n (pc' := 2) (x := 44) dX9_all_1 rfl rfl ?_
  refine z_geti (pc' := 5) (x := (I 44 6)) dX9_all_2 rfl fl_X9_96 rfl rfl rfl ?_
  refine z_ishl (pc' := 6) dX9_all_5 rfl ?_
  refine z_iconst (pc' := 7) (v := 1) dX9_all_6 rfl (by decide) ?_
  refine z_isub (pc' := 8) dX9_all_7 rfl ?_
  exact z_iret dX9_all_8 rfl rfl ⟨Nat.le_refl _, Nat.le_refl _⟩ ⟨_, _, _, rfl, rfl, h⟩
set_option maxHeartbeats 4000000 in
set_option maxRecDepth 100000 in
theorem t_X9_isOne {l : Launch} {G : zG} {d : Nat} {P : Int32 → zIM → zLM → Prop} {I : zIM} {L : zLM} {x0 : Int64} {x2 : Int64}  (h : ∃ (d1 : Nat) (P1 : Int32 → zIM → zLM → Prop), d1 + 1 ≤ d ∧ zCi l G d1 mX9_within [.long x0, .long (0 : Int64), .long (12 : Int64)] I L P1 ∧ ∀ (y1 : Int32) (I1 : zIM) (L1 : zLM), P1 y1 I1 L1 → (((y1 = 0 → (P (0 : Int32) I1 L1)) ∧ (¬ y1 = 0 → (∃ (d3 : Nat) (P3 : Int32 → zIM → zLM → Prop), d3 + 1 ≤ d ∧ zCi l G d3 mX9_within [.long x2, .long (0 : Int64), .long (5 : Int64)] I1 L1 P3 ∧ ∀ (y3 : Int32) (I3 : zIM) (L3 : zLM), P3 y3 I3 L3 → (((y3 = 0 → (P (0 : Int32) I3 L3)) ∧ (¬ y3 = 0 → (P (1 : Int32) I3 L3))))))))) : zCi l G d mX9_isOne [.long x0, .long x2] I L P := by
  refine zCn.of (ls := [some (.long x0), none, some (.long x2), none]) (by decide) (Nat.le_of_ble_eq_true rfl) rfl ?_
  refine z_lload_n (pc' := 1) (x := x0) dX9_isOne_0 rfl rfl ?_
  refine z_lconst (pc' := 2) (v := 0) dX9_isOne_1 rfl (by decide) ?_
  refine z_ldc2 (pc' := 5) (v := 12) dX9_isOne_2 rfl kl_X9_103 ?_
  obtain ⟨d1, P1, hd1, hC1, h⟩ := h
  refine z_callS (pc' := 8) (M' := mX9_within) (As := [.long x0, .long (0 : Int64), .long (12 : Int64)]) dX9_isOne_5 rfl ml_X9_99 me_X9_within hC1 rfl hd1 (Nat.le_of_ble_eq_true rfl) ⟨Nat.le_refl _, Nat.le_refl _⟩ rfl ?_
  rintro _ _ ⟨y1, I1, L1, rfl, rfl, hP1⟩
  replace h := h y1 I1 L1 hP1
  refine z_if_eq (pc' := 11) (tgt := 26) dX9_isOne_8 rfl (by decide) (fun c2 => ?_) (fun c2 => ?_)
  · replace h := h.1 c2
    refine z_iconst (pc' := 27) (v := 0) dX9_isOne_26 rfl (by decide) ?_
    exact z_iret dX9_isOne_27 rfl rfl ⟨Nat.le_refl _, Nat.le_refl _⟩ ⟨_, _, _, rfl, rfl, h⟩
  · replace h := h.2 c2
    refine z_lload_n (pc' := 12) (x := x2) dX9_isOne_11 rfl rfl ?_
    refine z_lconst (pc' := 13) (v := 0) dX9_isOne_12 rfl (by decide) ?_
    refine z_ldc2 (pc' := 16) (v := 5) dX9_isOne_13 rfl kl_X9_105 ?_
    obtain ⟨d3, P3, hd3, hC3, h⟩ := h
    refine z_callS (pc' := 19) (M' := mX9_within) (As := [.long x2, .long (0 : Int64), .long (5 : Int64)]) dX9_isOne_16 rfl ml_X9_99 me_X9_within hC3 rfl hd3 (Nat.le_of_ble_eq_true rfl) ⟨Nat.le_refl _, Nat.le_refl _⟩ rfl ?_
    rintro _ _ ⟨y3, I3, L3, rfl, rfl, hP3⟩
    replace h := h y3 I3 L3 hP3
    refine z_if_eq (pc' := 22) (tgt := 26) dX9_isOne_19 rfl (by decide) (fun c4 => ?_) (fun c4 => ?_)
    · replace h := h.1 c4
      refine z_iconst (pc' := 27) (v := 0) dX9_isOne_26 rfl (by decide) ?_
      exact z_iret dX9_isOne_27 rfl rfl ⟨Nat.le_refl _, Nat.le_refl _⟩ ⟨_, _, _, rfl, rfl, h⟩
    · replace h := h.2 c4
      refine z_iconst (pc' := 23) (v := 1) dX9_isOne_22 rfl (by decide) ?_
      refine z_goto (pc' := 27) dX9_isOne_23 (by decide) ?_
      exact z_iret dX9_isOne_27 rfl rfl ⟨Nat.le_refl _, Nat.le_refl _⟩ ⟨_, _, _, rfl, rfl, h⟩
set_option maxHeartbeats 4000000 in
set_option maxRecDepth 100000 in
theorem t_X9_adds {l : Launch} {G : zG} {d : Nat} {P : zIM → zLM → Prop} {I : zIM} {L : zLM} {x1 : Int32} {x2 : Int32}  (h : ∃ j1 : Nat, (I 44 6) = nI j1 ∧ j1 < 12 ∧ (∃ j2 : Nat, ((4 : Int32) + (I 44 6)) = nI j2 ∧ j2 < 12 ∧ (∃ j3 : Nat, ((8 : Int32) + (I 44 6)) = nI j3 ∧ j3 < 12 ∧ (j1 < 4 ∧ (∃ (d5 : Nat) (P5 : zIM → zLM → Prop), d5 + 1 ≤ d ∧ zCv l G d5 mX9_startsAnew [.ref 44] (xI (xI (xI (xI (xI (xI I 45 j1 x1) 45 j2 x2) 45 j3 (0 : Int32)) 49 j1 (I 44 6)) 50 j1 (I 44 6)) 44 6 ((I 44 6) + (1 : Int32))) L P5 ∧ ∀ (I5 : zIM) (L5 : zLM), P5 I5 L5 → (P I5 L5)))))) : zCv l G d mX9_adds [.ref 44, .int x1, .int x2] I L P := by
  refine zCn.of (ls := [some (.ref 44), some (.int x1), some (.int x2)]) (by decide) (Nat.le_of_ble_eq_true rfl) rfl ?_
  refine z_aload_n (pc' := 1) (x := 44) dX9_adds_0 rfl rfl ?_
  refine z_getr (pc' := 4) (x := 45) dX9_adds_1 rfl fl_X9_9 rfl rfl rfl ?_
  refine z_aload_n (pc' := 5) (x := 44) dX9_adds_4 rfl rfl ?_
  refine z_geti (pc' := 8) (x := (I 44 6)) dX9_adds_5 rfl fl_X9_96 rfl rfl rfl ?_
  refine z_iload_n (pc' := 9) (x := x1) dX9_adds_8 rfl rfl ?_
  obtain ⟨j1, ha1, hb1, h⟩ := h
  refine z_iast (pc' := 10) (j := j1) (w' := zs (xI I 45 j1 x1) L) dX9_adds_9 rfl rfl (by decide) ha1 hb1 rfl ?_
  refine z_aload_n (pc' := 11) (x := 44) dX9_adds_10 rfl rfl ?_
  refine z_getr (pc' := 14) (x := 45) dX9_adds_11 rfl fl_X9_9 rfl rfl rfl ?_
  refine z_iconst (pc' := 15) (v := 4) dX9_adds_14 rfl (by decide) ?_
  refine z_aload_n (pc' := 16) (x := 44) dX9_adds_15 rfl rfl ?_
  refine z_geti (pc' := 19) (x := (I 44 6)) dX9_adds_16 rfl fl_X9_96 rfl rfl rfl ?_
  refine z_iadd (pc' := 20) dX9_adds_19 rfl ?_
  refine z_iload_n (pc' := 21) (x := x2) dX9_adds_20 rfl rfl ?_
  obtain ⟨j2, ha2, hb2, h⟩ := h
  refine z_iast (pc' := 22) (j := j2) (w' := zs (xI (xI I 45 j1 x1) 45 j2 x2) L) dX9_adds_21 rfl rfl (by decide) ha2 hb2 rfl ?_
  refine z_aload_n (pc' := 23) (x := 44) dX9_adds_22 rfl rfl ?_
  refine z_getr (pc' := 26) (x := 45) dX9_adds_23 rfl fl_X9_9 rfl rfl rfl ?_
  refine z_bipush (pc' := 28) (v := 8) dX9_adds_26 rfl (by decide) ?_
  refine z_aload_n (pc' := 29) (x := 44) dX9_adds_28 rfl rfl ?_
  refine z_geti (pc' := 32) (x := (I 44 6)) dX9_adds_29 rfl fl_X9_96 rfl rfl rfl ?_
  refine z_iadd (pc' := 33) dX9_adds_32 rfl ?_
  refine z_iconst (pc' := 34) (v := 0) dX9_adds_33 rfl (by decide) ?_
  obtain ⟨j3, ha3, hb3, h⟩ := h
  refine z_iast (pc' := 35) (j := j3) (w' := zs (xI (xI (xI I 45 j1 x1) 45 j2 x2) 45 j3 (0 : Int32)) L) dX9_adds_34 rfl rfl (by decide) ha3 hb3 rfl ?_
  refine z_aload_n (pc' := 36) (x := 44) dX9_adds_35 rfl rfl ?_
  refine z_getr (pc' := 39) (x := 49) dX9_adds_36 rfl fl_X9_22 rfl rfl rfl ?_
  refine z_aload_n (pc' := 40) (x := 44) dX9_adds_39 rfl rfl ?_
  refine z_geti (pc' := 43) (x := (I 44 6)) dX9_adds_40 rfl fl_X9_96 rfl rfl rfl ?_
  refine z_aload_n (pc' := 44) (x := 44) dX9_adds_43 rfl rfl ?_
  refine z_geti (pc' := 47) (x := (I 44 6)) dX9_adds_44 rfl fl_X9_96 rfl rfl rfl ?_
  obtain ⟨hb4, h⟩ := h
  refine z_iast (pc' := 48) (j := j1) (w' := zs (xI (xI (xI (xI I 45 j1 x1) 45 j2 x2) 45 j3 (0 : Int32)) 49 j1 (I 44 6)) L) dX9_adds_47 rfl rfl (by decide) ha1 hb4 rfl ?_
  refine z_aload_n (pc' := 49) (x := 44) dX9_adds_48 rfl rfl ?_
  refine z_getr (pc' := 52) (x := 50) dX9_adds_49 rfl fl_X9_25 rfl rfl rfl ?_
  refine z_aload_n (pc' := 53) (x := 44) dX9_adds_52 rfl rfl ?_
  refine z_geti (pc' := 56) (x := (I 44 6)) dX9_adds_53 rfl fl_X9_96 rfl rfl rfl ?_
  refine z_aload_n (pc' := 57) (x := 44) dX9_adds_56 rfl rfl ?_
  refine z_geti (pc' := 60) (x := (I 44 6)) dX9_adds_57 rfl fl_X9_96 rfl rfl rfl ?_
  refine z_iast (pc' := 61) (j := j1) (w' := zs (xI (xI (xI (xI (xI I 45 j1 x1) 45 j2 x2) 45 j3 (0 : Int32)) 49 j1 (I 44 6)) 50 j1 (I 44 6)) L) dX9_adds_60 rfl rfl (by decide) ha1 hb4 rfl ?_
  refine z_aload_n (pc' := 62) (x := 44) dX9_adds_61 rfl rfl ?_
  refine z_dup (pc' := 63) dX9_adds_62 rfl rfl ?_
  refine z_geti (pc' := 66) (x := (I 44 6)) dX9_adds_63 rfl fl_X9_96 rfl rfl rfl ?_
  refine z_iconst (pc' := 67) (v := 1) dX9_adds_66 rfl (by decide) ?_
  refine z_iadd (pc' := 68) dX9_adds_67 rfl ?_
  refine z_puti (pc' := 71) (w' := zs (xI (xI (xI (xI (xI (xI I 45 j1 x1) 45 j2 x2) 45 j3 (0 : Int32)) 49 j1 (I 44 6)) 50 j1 (I 44 6)) 44 6 ((I 44 6) + (1 : Int32))) L) dX9_adds_68 rfl fl_X9_96 rfl rfl rfl rfl rfl rfl ?_
  refine z_aload_n (pc' := 72) (x := 44) dX9_adds_71 rfl rfl ?_
  obtain ⟨d5, P5, hd5, hC5, h⟩ := h
  refine z_callV (pc' := 75) (M' := mX9_startsAnew) (As := []) dX9_adds_72 rfl ml_X9_107 me_X9_startsAnew hC5 rfl (by decide) rfl rfl hd5 (Nat.le_of_ble_eq_true rfl) ⟨Nat.le_refl _, Nat.le_refl _⟩ rfl ?_
  rintro _ _ ⟨I5, L5, rfl, rfl, hP5⟩
  replace h := h I5 L5 hP5
  exact z_vret dX9_adds_75 rfl ⟨Nat.le_refl _, Nat.le_refl _⟩ ⟨_, _, rfl, rfl, h⟩
set_option maxHeartbeats 4000000 in
set_option maxRecDepth 100000 in
theorem t_X9_player {l : Launch} {G : zG} {d : Nat} {P : Int32 → zIM → zLM → Prop} {I : zIM} {L : zLM} {x1 : Int32} {x2 : Int32}  (h : ∃ (d1 : Nat) (P1 : Int32 → zIM → zLM → Prop), d1 + 1 ≤ d ∧ zCi l G d1 mX9_isOne [.long (x1.toInt64), .long (x2.toInt64)] I L P1 ∧ ∀ (y1 : Int32) (I1 : zIM) (L1 : zLM), P1 y1 I1 L1 → (((¬ y1 = 0 → (((¬ (I1 44 6) = (4 : Int32) → (∃ (d4 : Nat) (P4 : zIM → zLM → Prop), d4 + 1 ≤ d ∧ zCv l G d4 mX9_adds [.ref 44, .int x1, .int x2] I1 L1 P4 ∧ ∀ (I4 : zIM) (L4 : zLM), P4 I4 L4 → (P ((I4 44 6) - (1 : Int32)) I4 L4))) ∧ ((I1 44 6) = (4 : Int32) → (P (-3 : Int32) I1 L1))))) ∧ (y1 = 0 → (P (-1 : Int32) I1 L1))))) : zCi l G d mX9_player [.ref 44, .int x1, .int x2] I L P := by
  refine zCn.of (ls := [some (.ref 44), some (.int x1), some (.int x2)]) (by decide) (Nat.le_of_ble_eq_true rfl) rfl ?_
  refine z_iload_n (pc' := 1) (x := x1) dX9_player_0 rfl rfl ?_
  refine z_i2l (pc' := 2) dX9_player_1 rfl ?_
  refine z_iload_n (pc' := 3) (x := x2) dX9_player_2 rfl rfl ?_
  refine z_i2l (pc' := 4) dX9_player_3 rfl ?_
  obtain ⟨d1, P1, hd1, hC1, h⟩ := h
  refine z_callS (pc' := 7) (M' := mX9_isOne) (As := [.long (x1.toInt64), .long (x2.toInt64)]) dX9_player_4 rfl ml_X9_110 me_X9_isOne hC1 rfl hd1 (Nat.le_of_ble_eq_true rfl) ⟨Nat.le_refl _, Nat.le_refl _⟩ rfl ?_
  rintro _ _ ⟨y1, I1, L1, rfl, rfl, hP1⟩
  replace h := h y1 I1 L1 hP1
  refine z_if_ne (pc' := 10) (tgt := 12) dX9_player_7 rfl (by decide) (fun c2 => ?_) (fun c2 => ?_)
  · replace h := h.1 c2
    refine z_aload_n (pc' := 13) (x := 44) dX9_player_12 rfl rfl ?_
    refine z_geti (pc' := 16) (x := (I1 44 6)) dX9_player_13 rfl fl_X9_96 rfl rfl rfl ?_
    refine z_iconst (pc' := 17) (v := 4) dX9_player_16 rfl (by decide) ?_
    refine z_icmp_ne (pc' := 20) (tgt := 23) dX9_player_17 rfl (by decide) (fun c3 => ?_) (fun c3 => ?_)
    · replace h := h.1 c3
      refine z_aload_n (pc' := 24) (x := 44) dX9_player_23 rfl rfl ?_
      refine z_iload_n (pc' := 25) (x := x1) dX9_player_24 rfl rfl ?_
      refine z_iload_n (pc' := 26) (x := x2) dX9_player_25 rfl rfl ?_
      obtain ⟨d4, P4, hd4, hC4, h⟩ := h
      refine z_callV (pc' := 29) (M' := mX9_adds) (As := [.int x1, .int x2]) dX9_player_26 rfl ml_X9_114 me_X9_adds hC4 rfl (by decide) rfl rfl hd4 (Nat.le_of_ble_eq_true rfl) ⟨Nat.le_refl _, Nat.le_refl _⟩ rfl ?_
      rintro _ _ ⟨I4, L4, rfl, rfl, hP4⟩
      replace h := h I4 L4 hP4
      refine z_aload_n (pc' := 30) (x := 44) dX9_player_29 rfl rfl ?_
      refine z_geti (pc' := 33) (x := (I4 44 6)) dX9_player_30 rfl fl_X9_96 rfl rfl rfl ?_
      refine z_iconst (pc' := 34) (v := 1) dX9_player_33 rfl (by decide) ?_
      refine z_isub (pc' := 35) dX9_player_34 rfl ?_
      exact z_iret dX9_player_35 rfl rfl ⟨Nat.le_refl _, Nat.le_refl _⟩ ⟨_, _, _, rfl, rfl, h⟩
    · replace h := h.2 c3
      refine z_bipush (pc' := 22) (v := -3) dX9_player_20 rfl (by decide) ?_
      exact z_iret dX9_player_22 rfl rfl ⟨Nat.le_refl _, Nat.le_refl _⟩ ⟨_, _, _, rfl, rfl, h⟩
  · replace h := h.2 c2
    refine z_iconst (pc' := 11) (v := -1) dX9_player_10 rfl (by decide) ?_
    exact z_iret dX9_player_11 rfl rfl ⟨Nat.le_refl _, Nat.le_refl _⟩ ⟨_, _, _, rfl, rfl, h⟩
set_option maxHeartbeats 4000000 in
set_option maxRecDepth 100000 in
theorem t_X9_players {l : Launch} {G : zG} {d : Nat} {P : Int32 → zIM → zLM → Prop} {I : zIM} {L : zLM} {x1 : Int32} {x2 : Int32} {x3 : Int32}  (h : ∃ (d1 : Nat) (P1 : Int32 → zIM → zLM → Prop), d1 + 1 ≤ d ∧ zCi l G d1 mX9_isShelf [.int x1] I L P1 ∧ ∀ (y1 : Int32) (I1 : zIM) (L1 : zLM), P1 y1 I1 L1 → (((y1 = 0 → (P (-1 : Int32) I1 L1)) ∧ (¬ y1 = 0 → (∃ (d3 : Nat) (P3 : Int32 → zIM → zLM → Prop), d3 + 1 ≤ d ∧ zCi l G d3 mX9_within [.long (x3.toInt64), .long (1 : Int64), .long (4 : Int64)] I1 L1 P3 ∧ ∀ (y3 : Int32) (I3 : zIM) (L3 : zLM), P3 y3 I3 L3 → (((¬ y3 = 0 → (∃ j5 : Nat, x1 = nI j5 ∧ j5 < 6 ∧ ((((I3 65 j5) < 0 → (((¬ (I3 65 j5) = (50 : Int32) → (K_X9_players_69 l G d P I3 L3 x1 x2 x3 (0 : Int32) (0 : Int32))) ∧ ((I3 65 j5) = (50 : Int32) → (((x2 < 0 → (K_X9_players_69 l G d P I3 L3 x1 x2 x3 (0 : Int32) (0 : Int32))) ∧ (¬ x2 < 0 → (K_X9_players_69 l G d P I3 L3 x1 x2 x3 (0 : Int32) (1 : Int32))))))))) ∧ (¬ (I3 65 j5) < 0 → ((((I3 65 j5) = (50 : Int32) → (((¬ (I3 65 j5) = (50 : Int32) → (K_X9_players_69 l G d P I3 L3 x1 x2 x3 (0 : Int32) (0 : Int32))) ∧ ((I3 65 j5) = (50 : Int32) → (((x2 < 0 → (K_X9_players_69 l G d P I3 L3 x1 x2 x3 (0 : Int32) (0 : Int32))) ∧ (¬ x2 < 0 → (K_X9_players_69 l G d P I3 L3 x1 x2 x3 (0 : Int32) (1 : Int32))))))))) ∧ (¬ (I3 65 j5) = (50 : Int32) → (P (-12 : Int32) I3 L3))))))))) ∧ (y3 = 0 → (P (-1 : Int32) I3 L3))))))))) : zCi l G d mX9_players [.ref 44, .int x1, .int x2, .int x3] I L P := by
  refine zCn.of (ls := [some (.ref 44), some (.int x1), some (.int x2), some (.int x3), none, none, none]) (by decide) (Nat.le_of_ble_eq_true rfl) rfl ?_
  refine z_iload_n (pc' := 1) (x := x1) dX9_players_0 rfl rfl ?_
  obtain ⟨d1, P1, hd1, hC1, h⟩ := h
  refine z_callS (pc' := 4) (M' := mX9_isShelf) (As := [.int x1]) dX9_players_1 rfl ml_X9_118 me_X9_isShelf hC1 rfl hd1 (Nat.le_of_ble_eq_true rfl) ⟨Nat.le_refl _, Nat.le_refl _⟩ rfl ?_
  rintro _ _ ⟨y1, I1, L1, rfl, rfl, hP1⟩
  replace h := h y1 I1 L1 hP1
  refine z_if_eq (pc' := 7) (tgt := 19) dX9_players_4 rfl (by decide) (fun c2 => ?_) (fun c2 => ?_)
  · replace h := h.1 c2
    refine z_iconst (pc' := 20) (v := -1) dX9_players_19 rfl (by decide) ?_
    exact z_iret dX9_players_20 rfl rfl ⟨Nat.le_refl _, Nat.le_refl _⟩ ⟨_, _, _, rfl, rfl, h⟩
  · replace h := h.2 c2
    refine z_iload_n (pc' := 8) (x := x3) dX9_players_7 rfl rfl ?_
    refine z_i2l (pc' := 9) dX9_players_8 rfl ?_
    refine z_lconst (pc' := 10) (v := 1) dX9_players_9 rfl (by decide) ?_
    refine z_ldc2 (pc' := 13) (v := 4) dX9_players_10 rfl kl_X9_122 ?_
    obtain ⟨d3, P3, hd3, hC3, h⟩ := h
    refine z_callS (pc' := 16) (M' := mX9_within) (As := [.long (x3.toInt64), .long (1 : Int64), .long (4 : Int64)]) dX9_players_13 rfl ml_X9_99 me_X9_within hC3 rfl hd3 (Nat.le_of_ble_eq_true rfl) ⟨Nat.le_refl _, Nat.le_refl _⟩ rfl ?_
    rintro _ _ ⟨y3, I3, L3, rfl, rfl, hP3⟩
    replace h := h y3 I3 L3 hP3
    refine z_if_ne (pc' := 19) (tgt := 21) dX9_players_16 rfl (by decide) (fun c4 => ?_) (fun c4 => ?_)
    · replace h := h.1 c4
      refine z_aload_n (pc' := 22) (x := 44) dX9_players_21 rfl rfl ?_
      refine z_getr (pc' := 25) (x := 65) dX9_players_22 rfl fl_X9_71 rfl rfl rfl ?_
      refine z_iload_n (pc' := 26) (x := x1) dX9_players_25 rfl rfl ?_
      obtain ⟨j5, ha5, hb5, h⟩ := h
      refine z_iald (pc' := 27) (x := (I3 65 j5)) (j := j5) dX9_players_26 rfl rfl (by decide) ha5 hb5 rfl ?_
      refine z_if_lt (pc' := 30) (tgt := 44) dX9_players_27 rfl (by decide) (fun c6 => ?_) (fun c6 => ?_)
      · replace h := h.1 c6
        refine z_iconst (pc' := 45) (v := 0) dX9_players_44 rfl (by decide) ?_
        refine z_istore (pc' := 47) (ls' := [some (.ref 44), some (.int x1), some (.int x2), some (.int x3), some (.int (0 : Int32)), none, none]) dX9_players_45 rfl (by decide) rfl ?_
        refine z_aload_n (pc' := 48) (x := 44) dX9_players_47 rfl rfl ?_
        refine z_getr (pc' := 51) (x := 65) dX9_players_48 rfl fl_X9_71 rfl rfl rfl ?_
        refine z_iload_n (pc' := 52) (x := x1) dX9_players_51 rfl rfl ?_
        refine z_iald (pc' := 53) (x := (I3 65 j5)) (j := j5) dX9_players_52 rfl rfl (by decide) ha5 hb5 rfl ?_
        refine z_bipush (pc' := 55) (v := 50) dX9_players_53 rfl (by decide) ?_
        refine z_icmp_ne (pc' := 58) (tgt := 66) dX9_players_55 rfl (by decide) (fun c7 => ?_) (fun c7 => ?_)
        · replace h := h.1 c7
          refine z_iconst (pc' := 67) (v := 0) dX9_players_66 rfl (by decide) ?_
          refine z_istore (pc' := 69) (ls' := [some (.ref 44), some (.int x1), some (.int x2), some (.int x3), some (.int (0 : Int32)), some (.int (0 : Int32)), none]) dX9_players_67 rfl (by decide) rfl ?_
          exact h
        · replace h := h.2 c7
          refine z_iload_n (pc' := 59) (x := x2) dX9_players_58 rfl rfl ?_
          refine z_if_lt (pc' := 62) (tgt := 66) dX9_players_59 rfl (by decide) (fun c8 => ?_) (fun c8 => ?_)
          · replace h := h.1 c8
            refine z_iconst (pc' := 67) (v := 0) dX9_players_66 rfl (by decide) ?_
            refine z_istore (pc' := 69) (ls' := [some (.ref 44), some (.int x1), some (.int x2), some (.int x3), some (.int (0 : Int32)), some (.int (0 : Int32)), none]) dX9_players_67 rfl (by decide) rfl ?_
            exact h
          · replace h := h.2 c8
            refine z_iconst (pc' := 63) (v := 1) dX9_players_62 rfl (by decide) ?_
            refine z_goto (pc' := 67) dX9_players_63 (by decide) ?_
            refine z_istore (pc' := 69) (ls' := [some (.ref 44), some (.int x1), some (.int x2), some (.int x3), some (.int (0 : Int32)), some (.int (1 : Int32)), none]) dX9_players_67 rfl (by decide) rfl ?_
            exact h
      · replace h := h.2 c6
        refine z_aload_n (pc' := 31) (x := 44) dX9_players_30 rfl rfl ?_
        refine z_getr (pc' := 34) (x := 65) dX9_players_31 rfl fl_X9_71 rfl rfl rfl ?_
        refine z_iload_n (pc' := 35) (x := x1) dX9_players_34 rfl rfl ?_
        refine z_iald (pc' := 36) (x := (I3 65 j5)) (j := j5) dX9_players_35 rfl rfl (by decide) ha5 hb5 rfl ?_
        refine z_bipush (pc' := 38) (v := 50) dX9_players_36 rfl (by decide) ?_
        refine z_icmp_eq (pc' := 41) (tgt := 44) dX9_players_38 rfl (by decide) (fun c9 => ?_) (fun c9 => ?_)
        · replace h := h.1 c9
          refine z_iconst (pc' := 45) (v := 0) dX9_players_44 rfl (by decide) ?_
          refine z_istore (pc' := 47) (ls' := [some (.ref 44), some (.int x1), some (.int x2), some (.int x3), some (.int (0 : Int32)), none, none]) dX9_players_45 rfl (by decide) rfl ?_
          refine z_aload_n (pc' := 48) (x := 44) dX9_players_47 rfl rfl ?_
          refine z_getr (pc' := 51) (x := 65) dX9_players_48 rfl fl_X9_71 rfl rfl rfl ?_
          refine z_iload_n (pc' := 52) (x := x1) dX9_players_51 rfl rfl ?_
          refine z_iald (pc' := 53) (x := (I3 65 j5)) (j := j5) dX9_players_52 rfl rfl (by decide) ha5 hb5 rfl ?_
          refine z_bipush (pc' := 55) (v := 50) dX9_players_53 rfl (by decide) ?_
          refine z_icmp_ne (pc' := 58) (tgt := 66) dX9_players_55 rfl (by decide) (fun c10 => ?_) (fun c10 => ?_)
          · replace h := h.1 c10
            refine z_iconst (pc' := 67) (v := 0) dX9_players_66 rfl (by decide) ?_
            refine z_istore (pc' := 69) (ls' := [some (.ref 44), some (.int x1), some (.int x2), some (.int x3), some (.int (0 : Int32)), some (.int (0 : Int32)), none]) dX9_players_67 rfl (by decide) rfl ?_
            exact h
          · replace h := h.2 c10
            refine z_iload_n (pc' := 59) (x := x2) dX9_players_58 rfl rfl ?_
            refine z_if_lt (pc' := 62) (tgt := 66) dX9_players_59 rfl (by decide) (fun c11 => ?_) (fun c11 => ?_)
            · replace h := h.1 c11
              refine z_iconst (pc' := 67) (v := 0) dX9_players_66 rfl (by decide) ?_
              refine z_istore (pc' := 69) (ls' := [some (.ref 44), some (.int x1), some (.int x2), some (.int x3), some (.int (0 : Int32)), some (.int (0 : Int32)), none]) dX9_players_67 rfl (by decide) rfl ?_
              exact h
            · replace h := h.2 c11
              refine z_iconst (pc' := 63) (v := 1) dX9_players_62 rfl (by decide) ?_
              refine z_goto (pc' := 67) dX9_players_63 (by decide) ?_
              refine z_istore (pc' := 69) (ls' := [some (.ref 44), some (.int x1), some (.int x2), some (.int x3), some (.int (0 : Int32)), some (.int (1 : Int32)), none]) dX9_players_67 rfl (by decide) rfl ?_
              exact h
        · replace h := h.2 c9
          refine z_bipush (pc' := 43) (v := -12) dX9_players_41 rfl (by decide) ?_
          exact z_iret dX9_players_43 rfl rfl ⟨Nat.le_refl _, Nat.le_refl _⟩ ⟨_, _, _, rfl, rfl, h⟩
    · replace h := h.2 c4
      refine z_iconst (pc' := 20) (v := -1) dX9_players_19 rfl (by decide) ?_
      exact z_iret dX9_players_20 rfl rfl ⟨Nat.le_refl _, Nat.le_refl _⟩ ⟨_, _, _, rfl, rfl, h⟩
set_option maxHeartbeats 4000000 in
set_option maxRecDepth 100000 in
theorem t_X9_players_69 {l : Launch} {G : zG} {d : Nat} {P : Int32 → zIM → zLM → Prop} {I : zIM} {L : zLM} {x1 : Int32} {x2 : Int32} {x3 : Int32} {x4 : Int32} {x5 : Int32}   (h : ((x5 = 0 → (P x4 I L)) ∧ (¬ x5 = 0 → (((x3 ≤ x4 → (P x4 I L)) ∧ (¬ x3 ≤ x4 → (∃ j3 : Nat, x1 = nI j3 ∧ j3 < 6 ∧ ((((((I 66 j3) - (2 : Int32)) - ((2 : Int32) * x4)) < x2 → (K_X9_players_69 l G d P I L x1 x2 x3 x4 (0 : Int32))) ∧ (¬ (((I 66 j3) - (2 : Int32)) - ((2 : Int32) * x4)) < x2 → ((((4 : Int32) ≤ (I 44 6) → (K_X9_players_69 l G d P I L x1 x2 x3 x4 (0 : Int32))) ∧ (¬ (4 : Int32) ≤ (I 44 6) → (∃ j6 : Nat, ((((60 : Int32) * x1) + x2) + ((2 : Int32) * x4)) = nI j6 ∧ j6 < 360 ∧ (∃ j7 : Nat, (((((60 : Int32) * x1) + x2) + ((2 : Int32) * x4)) + (1 : Int32)) = nI j7 ∧ j7 < 360 ∧ (∃ (d8 : Nat) (P8 : Int32 → zIM → zLM → Prop), d8 + 1 ≤ d ∧ zCi l G d8 mX9_isOne [.long (L 67 j6), .long (L 67 j7)] I L P8 ∧ ∀ (y8 : Int32) (I8 : zIM) (L8 : zLM), P8 y8 I8 L8 → (((y8 = 0 → (K_X9_players_69 l G d P I8 L8 x1 x2 x3 x4 (0 : Int32))) ∧ (¬ y8 = 0 → (∃ (d10 : Nat) (P10 : zIM → zLM → Prop), d10 + 1 ≤ d ∧ zCv l G d10 mX9_adds [.ref 44, .int ((L8 67 j6).toInt32), .int ((L8 67 j7).toInt32)] I8 L8 P10 ∧ ∀ (I10 : zIM) (L10 : zLM), P10 I10 L10 → (K_X9_players_69 l G d P I10 L10 x1 x2 x3 (x4 + (1 : Int32)) (1 : Int32)))))))))))))))))))))) : K_X9_players_69 l G d P I L x1 x2 x3 x4 x5  := by
  refine z_iload (pc' := 71) (x := x5) dX9_players_69 rfl rfl ?_
  refine z_if_eq (pc' := 74) (tgt := 192) dX9_players_71 rfl (by decide) (fun c1 => ?_) (fun c1 => ?_)
  · replace h := h.1 c1
    refine z_iload (pc' := 194) (x := x4) dX9_players_192 rfl rfl ?_
    exact z_iret dX9_players_194 rfl rfl ⟨Nat.le_refl _, Nat.le_refl _⟩ ⟨_, _, _, rfl, rfl, h⟩
  · replace h := h.2 c1
    refine z_iload (pc' := 76) (x := x4) dX9_players_74 rfl rfl ?_
    refine z_iload_n (pc' := 77) (x := x3) dX9_players_76 rfl rfl ?_
    refine z_icmp_ge (pc' := 80) (tgt := 192) dX9_players_77 rfl (by decide) (fun c2 => ?_) (fun c2 => ?_)
    · replace h := h.1 c2
      refine z_iload (pc' := 194) (x := x4) dX9_players_192 rfl rfl ?_
      exact z_iret dX9_players_194 rfl rfl ⟨Nat.le_refl _, Nat.le_refl _⟩ ⟨_, _, _, rfl, rfl, h⟩
    · replace h := h.2 c2
      refine z_iload_n (pc' := 81) (x := x2) dX9_players_80 rfl rfl ?_
      refine z_aload_n (pc' := 82) (x := 44) dX9_players_81 rfl rfl ?_
      refine z_getr (pc' := 85) (x := 66) dX9_players_82 rfl fl_X9_74 rfl rfl rfl ?_
      refine z_iload_n (pc' := 86) (x := x1) dX9_players_85 rfl rfl ?_
      obtain ⟨j3, ha3, hb3, h⟩ := h
      refine z_iald (pc' := 87) (x := (I 66 j3)) (j := j3) dX9_players_86 rfl rfl (by decide) ha3 hb3 rfl ?_
      refine z_iconst (pc' := 88) (v := 2) dX9_players_87 rfl (by decide) ?_
      refine z_isub (pc' := 89) dX9_players_88 rfl ?_
      refine z_iconst (pc' := 90) (v := 2) dX9_players_89 rfl (by decide) ?_
      refine z_iload (pc' := 92) (x := x4) dX9_players_90 rfl rfl ?_
      refine z_imul (pc' := 93) dX9_players_92 rfl ?_
      refine z_isub (pc' := 94) dX9_players_93 rfl ?_
      refine z_icmp_gt (pc' := 97) (tgt := 109) dX9_players_94 rfl (by decide) (fun c4 => ?_) (fun c4 => ?_)
      · replace h := h.1 c4
        refine z_iconst (pc' := 110) (v := 0) dX9_players_109 rfl (by decide) ?_
        refine z_istore (pc' := 112) (ls' := [some (.ref 44), some (.int x1), some (.int x2), some (.int x3), some (.int x4), some (.int (0 : Int32)), none]) dX9_players_110 rfl (by decide) rfl ?_
        refine z_bipush (pc' := 114) (v := 60) dX9_players_112 rfl (by decide) ?_
        refine z_iload_n (pc' := 115) (x := x1) dX9_players_114 rfl rfl ?_
        refine z_imul (pc' := 116) dX9_players_115 rfl ?_
        refine z_iload_n (pc' := 117) (x := x2) dX9_players_116 rfl rfl ?_
        refine z_iadd (pc' := 118) dX9_players_117 rfl ?_
        refine z_iconst (pc' := 119) (v := 2) dX9_players_118 rfl (by decide) ?_
        refine z_iload (pc' := 121) (x := x4) dX9_players_119 rfl rfl ?_
        refine z_imul (pc' := 122) dX9_players_121 rfl ?_
        refine z_iadd (pc' := 123) dX9_players_122 rfl ?_
        refine z_istore (pc' := 125) (ls' := [some (.ref 44), some (.int x1), some (.int x2), some (.int x3), some (.int x4), some (.int (0 : Int32)), some (.int ((((60 : Int32) * x1) + x2) + ((2 : Int32) * x4)))]) dX9_players_123 rfl (by decide) rfl ?_
        refine z_iload (pc' := 127) (x := (0 : Int32)) dX9_players_125 rfl rfl ?_
        refine z_if_eq (pc' := 130) (tgt := 156) dX9_players_127 rfl (by decide) (fun _ => ?_) (fun c => absurd c (by decide))
        refine z_iconst (pc' := 157) (v := 0) dX9_players_156 rfl (by decide) ?_
        refine z_istore (pc' := 159) (ls' := [some (.ref 44), some (.int x1), some (.int x2), some (.int x3), some (.int x4), some (.int (0 : Int32)), some (.int ((((60 : Int32) * x1) + x2) + ((2 : Int32) * x4)))]) dX9_players_157 rfl (by decide) rfl ?_
        refine z_iload (pc' := 161) (x := (0 : Int32)) dX9_players_159 rfl rfl ?_
        refine z_if_eq (pc' := 164) (tgt := 189) dX9_players_161 rfl (by decide) (fun _ => ?_) (fun c => absurd c (by decide))
        refine z_goto (pc' := 69) dX9_players_189 (by decide) ?_
        refine z_sub (pc' := 0) [some (.ref 44), some (.int x1), some (.int x2), some (.int x3), some (.int x4), some (.int (0 : Int32)), none] (zsub_s (zsub_s (zsub_s (zsub_s (zsub_s (zsub_s (zsub_n zsub_nil))))))) ?_
        exact h
      · replace h := h.2 c4
        refine z_aload_n (pc' := 98) (x := 44) dX9_players_97 rfl rfl ?_
        refine z_geti (pc' := 101) (x := (I 44 6)) dX9_players_98 rfl fl_X9_96 rfl rfl rfl ?_
        refine z_iconst (pc' := 102) (v := 4) dX9_players_101 rfl (by decide) ?_
        refine z_icmp_ge (pc' := 105) (tgt := 109) dX9_players_102 rfl (by decide) (fun c5 => ?_) (fun c5 => ?_)
        · replace h := h.1 c5
          refine z_iconst (pc' := 110) (v := 0) dX9_players_109 rfl (by decide) ?_
          refine z_istore (pc' := 112) (ls' := [some (.ref 44), some (.int x1), some (.int x2), some (.int x3), some (.int x4), some (.int (0 : Int32)), none]) dX9_players_110 rfl (by decide) rfl ?_
          refine z_bipush (pc' := 114) (v := 60) dX9_players_112 rfl (by decide) ?_
          refine z_iload_n (pc' := 115) (x := x1) dX9_players_114 rfl rfl ?_
          refine z_imul (pc' := 116) dX9_players_115 rfl ?_
          refine z_iload_n (pc' := 117) (x := x2) dX9_players_116 rfl rfl ?_
          refine z_iadd (pc' := 118) dX9_players_117 rfl ?_
          refine z_iconst (pc' := 119) (v := 2) dX9_players_118 rfl (by decide) ?_
          refine z_iload (pc' := 121) (x := x4) dX9_players_119 rfl rfl ?_
          refine z_imul (pc' := 122) dX9_players_121 rfl ?_
          refine z_iadd (pc' := 123) dX9_players_122 rfl ?_
          refine z_istore (pc' := 125) (ls' := [some (.ref 44), some (.int x1), some (.int x2), some (.int x3), some (.int x4), some (.int (0 : Int32)), some (.int ((((60 : Int32) * x1) + x2) + ((2 : Int32) * x4)))]) dX9_players_123 rfl (by decide) rfl ?_
          refine z_iload (pc' := 127) (x := (0 : Int32)) dX9_players_125 rfl rfl ?_
          refine z_if_eq (pc' := 130) (tgt := 156) dX9_players_127 rfl (by decide) (fun _ => ?_) (fun c => absurd c (by decide))
          refine z_iconst (pc' := 157) (v := 0) dX9_players_156 rfl (by decide) ?_
          refine z_istore (pc' := 159) (ls' := [some (.ref 44), some (.int x1), some (.int x2), some (.int x3), some (.int x4), some (.int (0 : Int32)), some (.int ((((60 : Int32) * x1) + x2) + ((2 : Int32) * x4)))]) dX9_players_157 rfl (by decide) rfl ?_
          refine z_iload (pc' := 161) (x := (0 : Int32)) dX9_players_159 rfl rfl ?_
          refine z_if_eq (pc' := 164) (tgt := 189) dX9_players_161 rfl (by decide) (fun _ => ?_) (fun c => absurd c (by decide))
          refine z_goto (pc' := 69) dX9_players_189 (by decide) ?_
          refine z_sub (pc' := 0) [some (.ref 44), some (.int x1), some (.int x2), some (.int x3), some (.int x4), some (.int (0 : Int32)), none] (zsub_s (zsub_s (zsub_s (zsub_s (zsub_s (zsub_s (zsub_n zsub_nil))))))) ?_
          exact h
        · replace h := h.2 c5
          refine z_iconst (pc' := 106) (v := 1) dX9_players_105 rfl (by decide) ?_
          refine z_goto (pc' := 110) dX9_players_106 (by decide) ?_
          refine z_istore (pc' := 112) (ls' := [some (.ref 44), some (.int x1), some (.int x2), some (.int x3), some (.int x4), some (.int (1 : Int32)), none]) dX9_players_110 rfl (by decide) rfl ?_
          refine z_bipush (pc' := 114) (v := 60) dX9_players_112 rfl (by decide) ?_
          refine z_iload_n (pc' := 115) (x := x1) dX9_players_114 rfl rfl ?_
          refine z_imul (pc' := 116) dX9_players_115 rfl ?_
          refine z_iload_n (pc' := 117) (x := x2) dX9_players_116 rfl rfl ?_
          refine z_iadd (pc' := 118) dX9_players_117 rfl ?_
          refine z_iconst (pc' := 119) (v := 2) dX9_players_118 rfl (by decide) ?_
          refine z_iload (pc' := 121) (x := x4) dX9_players_119 rfl rfl ?_
          refine z_imul (pc' := 122) dX9_players_121 rfl ?_
          refine z_iadd (pc' := 123) dX9_players_122 rfl ?_
          refine z_istore (pc' := 125) (ls' := [some (.ref 44), some (.int x1), some (.int x2), some (.int x3), some (.int x4), some (.int (1 : Int32)), some (.int ((((60 : Int32) * x1) + x2) + ((2 : Int32) * x4)))]) dX9_players_123 rfl (by decide) rfl ?_
          refine z_iload (pc' := 127) (x := (1 : Int32)) dX9_players_125 rfl rfl ?_
          refine z_if_eq (pc' := 130) (tgt := 156) dX9_players_127 rfl (by decide) (fun c => absurd c (by decide)) (fun _ => ?_)
          refine z_aload_n (pc' := 131) (x := 44) dX9_players_130 rfl rfl ?_
          refine z_getr (pc' := 134) (x := 67) dX9_players_131 rfl fl_X9_77 rfl rfl rfl ?_
          refine z_iload (pc' := 136) (x := ((((60 : Int32) * x1) + x2) + ((2 : Int32) * x4))) dX9_players_134 rfl rfl ?_
          obtain ⟨j6, ha6, hb6, h⟩ := h
          refine z_lald (pc' := 137) (x := (L 67 j6)) (j := j6) dX9_players_136 rfl rfl (by decide) ha6 hb6 rfl ?_
          refine z_aload_n (pc' := 138) (x := 44) dX9_players_137 rfl rfl ?_
          refine z_getr (pc' := 141) (x := 67) dX9_players_138 rfl fl_X9_77 rfl rfl rfl ?_
          refine z_iload (pc' := 143) (x := ((((60 : Int32) * x1) + x2) + ((2 : Int32) * x4))) dX9_players_141 rfl rfl ?_
          refine z_iconst (pc' := 144) (v := 1) dX9_players_143 rfl (by decide) ?_
          refine z_iadd (pc' := 145) dX9_players_144 rfl ?_
          obtain ⟨j7, ha7, hb7, h⟩ := h
          refine z_lald (pc' := 146) (x := (L 67 j7)) (j := j7) dX9_players_145 rfl rfl (by decide) ha7 hb7 rfl ?_
          obtain ⟨d8, P8, hd8, hC8, h⟩ := h
          refine z_callS (pc' := 149) (M' := mX9_isOne) (As := [.long (L 67 j6), .long (L 67 j7)]) dX9_players_146 rfl ml_X9_110 me_X9_isOne hC8 rfl hd8 (Nat.le_of_ble_eq_true rfl) ⟨Nat.le_refl _, Nat.le_refl _⟩ rfl ?_
          rintro _ _ ⟨y8, I8, L8, rfl, rfl, hP8⟩
          replace h := h y8 I8 L8 hP8
          refine z_if_eq (pc' := 152) (tgt := 156) dX9_players_149 rfl (by decide) (fun c9 => ?_) (fun c9 => ?_)
          · replace h := h.1 c9
            refine z_iconst (pc' := 157) (v := 0) dX9_players_156 rfl (by decide) ?_
            refine z_istore (pc' := 159) (ls' := [some (.ref 44), some (.int x1), some (.int x2), some (.int x3), some (.int x4), some (.int (0 : Int32)), some (.int ((((60 : Int32) * x1) + x2) + ((2 : Int32) * x4)))]) dX9_players_157 rfl (by decide) rfl ?_
            refine z_iload (pc' := 161) (x := (0 : Int32)) dX9_players_159 rfl rfl ?_
            refine z_if_eq (pc' := 164) (tgt := 189) dX9_players_161 rfl (by decide) (fun _ => ?_) (fun c => absurd c (by decide))
            refine z_goto (pc' := 69) dX9_players_189 (by decide) ?_
            refine z_sub (pc' := 0) [some (.ref 44), some (.int x1), some (.int x2), some (.int x3), some (.int x4), some (.int (0 : Int32)), none] (zsub_s (zsub_s (zsub_s (zsub_s (zsub_s (zsub_s (zsub_n zsub_nil))))))) ?_
            exact h
          · replace h := h.2 c9
            refine z_iconst (pc' := 153) (v := 1) dX9_players_152 rfl (by decide) ?_
            refine z_goto (pc' := 157) dX9_players_153 (by decide) ?_
            refine z_istore (pc' := 159) (ls' := [some (.ref 44), some (.int x1), some (.int x2), some (.int x3), some (.int x4), some (.int (1 : Int32)), some (.int ((((60 : Int32) * x1) + x2) + ((2 : Int32) * x4)))]) dX9_players_157 rfl (by decide) rfl ?_
            refine z_iload (pc' := 161) (x := (1 : Int32)) dX9_players_159 rfl rfl ?_
            refine z_if_eq (pc' := 164) (tgt := 189) dX9_players_161 rfl (by decide) (fun c => absurd c (by decide)) (fun _ => ?_)
            refine z_aload_n (pc' := 165) (x := 44) dX9_players_164 rfl rfl ?_
            refine z_aload_n (pc' := 166) (x := 44) dX9_players_165 rfl rfl ?_
            refine z_getr (pc' := 169) (x := 67) dX9_players_166 rfl fl_X9_77 rfl rfl rfl ?_
            refine z_iload (pc' := 171) (x := ((((60 : Int32) * x1) + x2) + ((2 : Int32) * x4))) dX9_players_169 rfl rfl ?_
            refine z_lald (pc' := 172) (x := (L8 67 j6)) (j := j6) dX9_players_171 rfl rfl (by decide) ha6 hb6 rfl ?_
            refine z_l2i (pc' := 173) dX9_players_172 rfl ?_
            refine z_aload_n (pc' := 174) (x := 44) dX9_players_173 rfl rfl ?_
            refine z_getr (pc' := 177) (x := 67) dX9_players_174 rfl fl_X9_77 rfl rfl rfl ?_
            refine z_iload (pc' := 179) (x := ((((60 : Int32) * x1) + x2) + ((2 : Int32) * x4))) dX9_players_177 rfl rfl ?_
            refine z_iconst (pc' := 180) (v := 1) dX9_players_179 rfl (by decide) ?_
            refine z_iadd (pc' := 181) dX9_players_180 rfl ?_
            refine z_lald (pc' := 182) (x := (L8 67 j7)) (j := j7) dX9_players_181 rfl rfl (by decide) ha7 hb7 rfl ?_
            refine z_l2i (pc' := 183) dX9_players_182 rfl ?_
            obtain ⟨d10, P10, hd10, hC10, h⟩ := h
            refine z_callV (pc' := 186) (M' := mX9_adds) (As := [.int ((L8 67 j6).toInt32), .int ((L8 67 j7).toInt32)]) dX9_players_183 rfl ml_X9_114 me_X9_adds hC10 rfl (by decide) rfl rfl hd10 (Nat.le_of_ble_eq_true rfl) ⟨Nat.le_refl _, Nat.le_refl _⟩ rfl ?_
            rintro _ _ ⟨I10, L10, rfl, rfl, hP10⟩
            replace h := h I10 L10 hP10
            refine z_iinc (pc' := 189) (x := x4) (v := (x4 + (1 : Int32))) (ls' := [some (.ref 44), some (.int x1), some (.int x2), some (.int x3), some (.int (x4 + (1 : Int32))), some (.int (1 : Int32)), some (.int ((((60 : Int32) * x1) + x2) + ((2 : Int32) * x4)))]) dX9_players_186 rfl rfl (by rfl) (by decide) rfl ?_
            refine z_goto (pc' := 69) dX9_players_189 (by decide) ?_
            refine z_sub (pc' := 0) [some (.ref 44), some (.int x1), some (.int x2), some (.int x3), some (.int (x4 + (1 : Int32))), some (.int (1 : Int32)), none] (zsub_s (zsub_s (zsub_s (zsub_s (zsub_s (zsub_s (zsub_n zsub_nil))))))) ?_
            exact h
set_option maxHeartbeats 4000000 in
set_option maxRecDepth 100000 in
theorem t_X9_mend {l : Launch} {G : zG} {d : Nat} {P : Int32 → zIM → zLM → Prop} {I : zIM} {L : zLM} {x1 : Int32} {x2 : Int32} {x3 : Int32}  (h : ∃ (d1 : Nat) (P1 : Int32 → zIM → zLM → Prop), d1 + 1 ≤ d ∧ zCi l G d1 mX9_isPlayer [.ref 44, .int x1] I L P1 ∧ ∀ (y1 : Int32) (I1 : zIM) (L1 : zLM), P1 y1 I1 L1 → (((¬ y1 = 0 → (((x2 = (0 : Int32) → (∃ (d4 : Nat) (P4 : Int32 → zIM → zLM → Prop), d4 + 1 ≤ d ∧ zCi l G d4 mX9_within [.long (x3.toInt64), .long (0 : Int64), .long (12 : Int64)] I1 L1 P4 ∧ ∀ (y4 : Int32) (I4 : zIM) (L4 : zLM), P4 y4 I4 L4 → (((y4 = 0 → (P (-1 : Int32) I4 L4)) ∧ (¬ y4 = 0 → (∃ (d6 : Nat) (P6 : Int32 → zIM → zLM → Prop), d6 + 1 ≤ d ∧ zCi l G d6 mX9_becomes [.ref 44, .int x1, .int x3] I4 L4 P6 ∧ ∀ (y6 : Int32) (I6 : zIM) (L6 : zLM), P6 y6 I6 L6 → (P y6 I6 L6))))))) ∧ (x2 = (1 : Int32) → (∃ (d7 : Nat) (P7 : Int32 → zIM → zLM → Prop), d7 + 1 ≤ d ∧ zCi l G d7 mX9_within [.long (x3.toInt64), .long (0 : Int64), .long (5 : Int64)] I1 L1 P7 ∧ ∀ (y7 : Int32) (I7 : zIM) (L7 : zLM), P7 y7 I7 L7 → (((y7 = 0 → (P (-1 : Int32) I7 L7)) ∧ (¬ y7 = 0 → (∃ (d9 : Nat) (P9 : Int32 → zIM → zLM → Prop), d9 + 1 ≤ d ∧ zCi l G d9 mX9_becomes [.ref 44, .int ((4 : Int32) + x1), .int x3] I7 L7 P9 ∧ ∀ (y9 : Int32) (I9 : zIM) (L9 : zLM), P9 y9 I9 L9 → (P y9 I9 L9))))))) ∧ (x2 = (2 : Int32) → (∃ (d10 : Nat) (P10 : Int32 → zIM → zLM → Prop), d10 + 1 ≤ d ∧ zCi l G d10 mX9_within [.long (x3.toInt64), .long (0 : Int64), .long (3 : Int64)] I1 L1 P10 ∧ ∀ (y10 : Int32) (I10 : zIM) (L10 : zLM), P10 y10 I10 L10 → (((y10 = 0 → (P (-1 : Int32) I10 L10)) ∧ (¬ y10 = 0 → (∃ (d12 : Nat) (P12 : Int32 → zIM → zLM → Prop), d12 + 1 ≤ d ∧ zCi l G d12 mX9_becomes [.ref 44, .int ((8 : Int32) + x1), .int x3] I10 L10 P12 ∧ ∀ (y12 : Int32) (I12 : zIM) (L12 : zLM), P12 y12 I12 L12 → (P y12 I12 L12))))))) ∧ (¬ x2 = (0 : Int32) → ¬ x2 = (1 : Int32) → ¬ x2 = (2 : Int32) → (P (-1 : Int32) I1 L1))))) ∧ (y1 = 0 → (P (-1 : Int32) I1 L1))))) : zCi l G d mX9_mend [.ref 44, .int x1, .int x2, .int x3] I L P := by
  refine zCn.of (ls := [some (.ref 44), some (.int x1), some (.int x2), some (.int x3)]) (by decide) (Nat.le_of_ble_eq_true rfl) rfl ?_
  refine z_aload_n (pc' := 1) (x := 44) dX9_mend_0 rfl rfl ?_
  refine z_iload_n (pc' := 2) (x := x1) dX9_mend_1 rfl rfl ?_
  obtain ⟨d1, P1, hd1, hC1, h⟩ := h
  refine z_callV (pc' := 5) (M' := mX9_isPlayer) (As := [.int x1]) dX9_mend_2 rfl ml_X9_124 me_X9_isPlayer hC1 rfl (by decide) rfl rfl hd1 (Nat.le_of_ble_eq_true rfl) ⟨Nat.le_refl _, Nat.le_refl _⟩ rfl ?_
  rintro _ _ ⟨y1, I1, L1, rfl, rfl, hP1⟩
  replace h := h y1 I1 L1 hP1
  refine z_if_ne (pc' := 8) (tgt := 10) dX9_mend_5 rfl (by decide) (fun c2 => ?_) (fun c2 => ?_)
  · replace h := h.1 c2
    refine z_iload_n (pc' := 11) (x := x2) dX9_mend_10 rfl rfl ?_
    by_cases c3_0 : x2 = (0 : Int32)
    · replace h := h.1 c3_0
      refine z_tableIn (pc' := 36) dX9_mend_11 (by rw [c3_0]; decide) (by rw [c3_0]; decide) (by rw [c3_0]; rfl) (by decide) ?_
      refine z_iload_n (pc' := 37) (x := x3) dX9_mend_36 rfl rfl ?_
      refine z_i2l (pc' := 38) dX9_mend_37 rfl ?_
      refine z_lconst (pc' := 39) (v := 0) dX9_mend_38 rfl (by decide) ?_
      refine z_ldc2 (pc' := 42) (v := 12) dX9_mend_39 rfl kl_X9_103 ?_
      obtain ⟨d4, P4, hd4, hC4, h⟩ := h
      refine z_callS (pc' := 45) (M' := mX9_within) (As := [.long (x3.toInt64), .long (0 : Int64), .long (12 : Int64)]) dX9_mend_42 rfl ml_X9_99 me_X9_within hC4 rfl hd4 (Nat.le_of_ble_eq_true rfl) ⟨Nat.le_refl _, Nat.le_refl _⟩ rfl ?_
      rintro _ _ ⟨y4, I4, L4, rfl, rfl, hP4⟩
      replace h := h y4 I4 L4 hP4
      refine z_if_eq (pc' := 48) (tgt := 57) dX9_mend_45 rfl (by decide) (fun c5 => ?_) (fun c5 => ?_)
      · replace h := h.1 c5
        refine z_iconst (pc' := 58) (v := -1) dX9_mend_57 rfl (by decide) ?_
        exact z_iret dX9_mend_58 rfl rfl ⟨Nat.le_refl _, Nat.le_refl _⟩ ⟨_, _, _, rfl, rfl, h⟩
      · replace h := h.2 c5
        refine z_aload_n (pc' := 49) (x := 44) dX9_mend_48 rfl rfl ?_
        refine z_iload_n (pc' := 50) (x := x1) dX9_mend_49 rfl rfl ?_
        refine z_iload_n (pc' := 51) (x := x3) dX9_mend_50 rfl rfl ?_
        obtain ⟨d6, P6, hd6, hC6, h⟩ := h
        refine z_callV (pc' := 54) (M' := mX9_becomes) (As := [.int x1, .int x3]) dX9_mend_51 rfl ml_X9_127 me_X9_becomes hC6 rfl (by decide) rfl rfl hd6 (Nat.le_of_ble_eq_true rfl) ⟨Nat.le_refl _, Nat.le_refl _⟩ rfl ?_
        rintro _ _ ⟨y6, I6, L6, rfl, rfl, hP6⟩
        replace h := h y6 I6 L6 hP6
        refine z_goto (pc' := 58) dX9_mend_54 (by decide) ?_
        exact z_iret dX9_mend_58 rfl rfl ⟨Nat.le_refl _, Nat.le_refl _⟩ ⟨_, _, _, rfl, rfl, h⟩
    by_cases c3_1 : x2 = (1 : Int32)
    · replace h := h.2.1 c3_1
      refine z_tableIn (pc' := 59) dX9_mend_11 (by rw [c3_1]; decide) (by rw [c3_1]; decide) (by rw [c3_1]; rfl) (by decide) ?_
      refine z_iload_n (pc' := 60) (x := x3) dX9_mend_59 rfl rfl ?_
      refine z_i2l (pc' := 61) dX9_mend_60 rfl ?_
      refine z_lconst (pc' := 62) (v := 0) dX9_mend_61 rfl (by decide) ?_
      refine z_ldc2 (pc' := 65) (v := 5) dX9_mend_62 rfl kl_X9_105 ?_
      obtain ⟨d7, P7, hd7, hC7, h⟩ := h
      refine z_callS (pc' := 68) (M' := mX9_within) (As := [.long (x3.toInt64), .long (0 : Int64), .long (5 : Int64)]) dX9_mend_65 rfl ml_X9_99 me_X9_within hC7 rfl hd7 (Nat.le_of_ble_eq_true rfl) ⟨Nat.le_refl _, Nat.le_refl _⟩ rfl ?_
      rintro _ _ ⟨y7, I7, L7, rfl, rfl, hP7⟩
      replace h := h y7 I7 L7 hP7
      refine z_if_eq (pc' := 71) (tgt := 82) dX9_mend_68 rfl (by decide) (fun c8 => ?_) (fun c8 => ?_)
      · replace h := h.1 c8
        refine z_iconst (pc' := 83) (v := -1) dX9_mend_82 rfl (by decide) ?_
        exact z_iret dX9_mend_83 rfl rfl ⟨Nat.le_refl _, Nat.le_refl _⟩ ⟨_, _, _, rfl, rfl, h⟩
      · replace h := h.2 c8
        refine z_aload_n (pc' := 72) (x := 44) dX9_mend_71 rfl rfl ?_
        refine z_iconst (pc' := 73) (v := 4) dX9_mend_72 rfl (by decide) ?_
        refine z_iload_n (pc' := 74) (x := x1) dX9_mend_73 rfl rfl ?_
        refine z_iadd (pc' := 75) dX9_mend_74 rfl ?_
        refine z_iload_n (pc' := 76) (x := x3) dX9_mend_75 rfl rfl ?_
        obtain ⟨d9, P9, hd9, hC9, h⟩ := h
        refine z_callV (pc' := 79) (M' := mX9_becomes) (As := [.int ((4 : Int32) + x1), .int x3]) dX9_mend_76 rfl ml_X9_127 me_X9_becomes hC9 rfl (by decide) rfl rfl hd9 (Nat.le_of_ble_eq_true rfl) ⟨Nat.le_refl _, Nat.le_refl _⟩ rfl ?_
        rintro _ _ ⟨y9, I9, L9, rfl, rfl, hP9⟩
        replace h := h y9 I9 L9 hP9
        refine z_goto (pc' := 83) dX9_mend_79 (by decide) ?_
        exact z_iret dX9_mend_83 rfl rfl ⟨Nat.le_refl _, Nat.le_refl _⟩ ⟨_, _, _, rfl, rfl, h⟩
    by_cases c3_2 : x2 = (2 : Int32)
    · replace h := h.2.2.1 c3_2
      refine z_tableIn (pc' := 84) dX9_mend_11 (by rw [c3_2]; decide) (by rw [c3_2]; decide) (by rw [c3_2]; rfl) (by decide) ?_
      refine z_iload_n (pc' := 85) (x := x3) dX9_mend_84 rfl rfl ?_
      refine z_i2l (pc' := 86) dX9_mend_85 rfl ?_
      refine z_lconst (pc' := 87) (v := 0) dX9_mend_86 rfl (by decide) ?_
      refine z_ldc2 (pc' := 90) (v := 3) dX9_mend_87 rfl kl_X9_131 ?_
      obtain ⟨d10, P10, hd10, hC10, h⟩ := h
      refine z_callS (pc' := 93) (M' := mX9_within) (As := [.long (x3.toInt64), .long (0 : Int64), .long (3 : Int64)]) dX9_mend_90 rfl ml_X9_99 me_X9_within hC10 rfl hd10 (Nat.le_of_ble_eq_true rfl) ⟨Nat.le_refl _, Nat.le_refl _⟩ rfl ?_
      rintro _ _ ⟨y10, I10, L10, rfl, rfl, hP10⟩
      replace h := h y10 I10 L10 hP10
      refine z_if_eq (pc' := 96) (tgt := 108) dX9_mend_93 rfl (by decide) (fun c11 => ?_) (fun c11 => ?_)
      · replace h := h.1 c11
        refine z_iconst (pc' := 109) (v := -1) dX9_mend_108 rfl (by decide) ?_
        exact z_iret dX9_mend_109 rfl rfl ⟨Nat.le_refl _, Nat.le_refl _⟩ ⟨_, _, _, rfl, rfl, h⟩
      · replace h := h.2 c11
        refine z_aload_n (pc' := 97) (x := 44) dX9_mend_96 rfl rfl ?_
        refine z_bipush (pc' := 99) (v := 8) dX9_mend_97 rfl (by decide) ?_
        refine z_iload_n (pc' := 100) (x := x1) dX9_mend_99 rfl rfl ?_
        refine z_iadd (pc' := 101) dX9_mend_100 rfl ?_
        refine z_iload_n (pc' := 102) (x := x3) dX9_mend_101 rfl rfl ?_
        obtain ⟨d12, P12, hd12, hC12, h⟩ := h
        refine z_callV (pc' := 105) (M' := mX9_becomes) (As := [.int ((8 : Int32) + x1), .int x3]) dX9_mend_102 rfl ml_X9_127 me_X9_becomes hC12 rfl (by decide) rfl rfl hd12 (Nat.le_of_ble_eq_true rfl) ⟨Nat.le_refl _, Nat.le_refl _⟩ rfl ?_
        rintro _ _ ⟨y12, I12, L12, rfl, rfl, hP12⟩
        replace h := h y12 I12 L12 hP12
        refine z_goto (pc' := 109) dX9_mend_105 (by decide) ?_
        exact z_iret dX9_mend_109 rfl rfl ⟨Nat.le_refl _, Nat.le_refl _⟩ ⟨_, _, _, rfl, rfl, h⟩
    replace h := h.2.2.2 c3_0 c3_1 c3_2
    have hne3 : x2.toInt < 0 ∨ 2 < x2.toInt := by
      have nc3_0 := lv_neT c3_0 (a := 0) (by decide); have nc3_1 := lv_neT c3_1 (a := 1) (by decide); have nc3_2 := lv_neT c3_2 (a := 2) (by decide); omega
    refine z_tableOut (pc' := 110) dX9_mend_11 hne3 (by decide) ?_
    refine z_iconst (pc' := 111) (v := -1) dX9_mend_110 rfl (by decide) ?_
    exact z_iret dX9_mend_111 rfl rfl ⟨Nat.le_refl _, Nat.le_refl _⟩ ⟨_, _, _, rfl, rfl, h⟩
  · replace h := h.2 c2
    refine z_iconst (pc' := 9) (v := -1) dX9_mend_8 rfl (by decide) ?_
    exact z_iret dX9_mend_9 rfl rfl ⟨Nat.le_refl _, Nat.le_refl _⟩ ⟨_, _, _, rfl, rfl, h⟩
set_option maxHeartbeats 4000000 in
set_option maxRecDepth 100000 in
theorem t_X9_order {l : Launch} {G : zG} {d : Nat} {P : Int32 → zIM → zLM → Prop} {I : zIM} {L : zLM} {x1 : Int32}  (h : K_X9_order_12 l G d P I L (0 : Int32) x1 ((I 44 6) - (1 : Int32))) : zCi l G d mX9_order [.ref 44, .int x1] I L P := by
  refine zCn.of (ls := [some (.ref 44), some (.int x1), none, none, none, none]) (by decide) (Nat.le_of_ble_eq_true rfl) rfl ?_
  refine z_iconst (pc' := 1) (v := 0) dX9_order_0 rfl (by decide) ?_
  refine z_istore_n (pc' := 2) (ls' := [some (.ref 44), some (.int x1), some (.int (0 : Int32)), none, none, none]) dX9_order_1 rfl (by decide) rfl ?_
  refine z_iload_n (pc' := 3) (x := x1) dX9_order_2 rfl rfl ?_
  refine z_istore_n (pc' := 4) (ls' := [some (.ref 44), some (.int x1), some (.int (0 : Int32)), some (.int x1), none, none]) dX9_order_3 rfl (by decide) rfl ?_
  refine z_aload_n (pc' := 5) (x := 44) dX9_order_4 rfl rfl ?_
  refine z_geti (pc' := 8) (x := (I 44 6)) dX9_order_5 rfl fl_X9_96 rfl rfl rfl ?_
  refine z_iconst (pc' := 9) (v := 1) dX9_order_8 rfl (by decide) ?_
  refine z_isub (pc' := 10) dX9_order_9 rfl ?_
  refine z_istore (pc' := 12) (ls' := [some (.ref 44), some (.int x1), some (.int (0 : Int32)), some (.int x1), some (.int ((I 44 6) - (1 : Int32))), none]) dX9_order_10 rfl (by decide) rfl ?_
  refine z_sub (pc' := 0) [some (.ref 44), none, some (.int (0 : Int32)), some (.int x1), some (.int ((I 44 6) - (1 : Int32))), none] (zsub_s (zsub_n (zsub_s (zsub_s (zsub_s (zsub_n zsub_nil)))))) ?_
  exact h
set_option maxHeartbeats 4000000 in
set_option maxRecDepth 100000 in
theorem t_X9_order_12 {l : Launch} {G : zG} {d : Nat} {P : Int32 → zIM → zLM → Prop} {I : zIM} {L : zLM} {x2 : Int32} {x3 : Int32} {x4 : Int32}   (h : ((x4 < 0 → (((x3 = 0 → (K_X9_order_85 l G d P I L (0 : Int32))) ∧ (¬ x3 = 0 → (P (-1 : Int32) I L))))) ∧ (¬ x4 < 0 → (((x3 ≤ 0 → (P (-1 : Int32) I L)) ∧ (¬ x3 ≤ 0 → (∃ (d4 : Nat) (P4 : Int32 → zIM → zLM → Prop), d4 + 1 ≤ d ∧ zCi l G d4 mX9_isPlayer [.ref 44, .int ((x3 % (10 : Int32)) - (1 : Int32))] I L P4 ∧ ∀ (y4 : Int32) (I4 : zIM) (L4 : zLM), P4 y4 I4 L4 → (((y4 = 0 → (P (-1 : Int32) I4 L4)) ∧ (¬ y4 = 0 → (∃ (d6 : Nat) (P6 : Int32 → zIM → zLM → Prop), d6 + 1 ≤ d ∧ zCi l G d6 mX9_isIn [.int x2, .int ((x3 % (10 : Int32)) - (1 : Int32))] I4 L4 P6 ∧ ∀ (y6 : Int32) (I6 : zIM) (L6 : zLM), P6 y6 I6 L6 → (((y6 = 0 → (∃ j8 : Nat, x4 = nI j8 ∧ j8 < 4 ∧ (K_X9_order_12 l G d P (xI I6 52 j8 ((x3 % (10 : Int32)) - (1 : Int32))) L6 (x2 ||| ((1 : Int32) <<< (((x3 % (10 : Int32)) - (1 : Int32)) &&& 31))) (x3 / (10 : Int32)) (x4 + (-1 : Int32))))) ∧ (¬ y6 = 0 → (P (-1 : Int32) I6 L6))))))))))))))) : K_X9_order_12 l G d P I L x2 x3 x4  := by
  refine z_iload (pc' := 14) (x := x4) dX9_order_12 rfl rfl ?_
  refine z_if_lt (pc' := 17) (tgt := 76) dX9_order_14 rfl (by decide) (fun c1 => ?_) (fun c1 => ?_)
  · replace h := h.1 c1
    refine z_iload_n (pc' := 77) (x := x3) dX9_order_76 rfl rfl ?_
    refine z_if_eq (pc' := 80) (tgt := 82) dX9_order_77 rfl (by decide) (fun c2 => ?_) (fun c2 => ?_)
    · replace h := h.1 c2
      refine z_iconst (pc' := 83) (v := 0) dX9_order_82 rfl (by decide) ?_
      refine z_istore (pc' := 85) (ls' := [some (.ref 44), none, some (.int x2), some (.int x3), some (.int (0 : Int32)), none]) dX9_order_83 rfl (by decide) rfl ?_
      refine z_sub (pc' := 0) [some (.ref 44), none, none, none, some (.int (0 : Int32)), none] (zsub_s (zsub_n (zsub_n (zsub_n (zsub_s (zsub_n zsub_nil)))))) ?_
      exact h
    · replace h := h.2 c2
      refine z_iconst (pc' := 81) (v := -1) dX9_order_80 rfl (by decide) ?_
      exact z_iret dX9_order_81 rfl rfl ⟨Nat.le_refl _, Nat.le_refl _⟩ ⟨_, _, _, rfl, rfl, h⟩
  · replace h := h.2 c1
    refine z_iload_n (pc' := 18) (x := x3) dX9_order_17 rfl rfl ?_
    refine z_bipush (pc' := 20) (v := 10) dX9_order_18 rfl (by decide) ?_
    refine z_irem (pc' := 21) dX9_order_20 rfl (by decide) ?_
    refine z_iconst (pc' := 22) (v := 1) dX9_order_21 rfl (by decide) ?_
    refine z_isub (pc' := 23) dX9_order_22 rfl ?_
    refine z_istore (pc' := 25) (ls' := [some (.ref 44), none, some (.int x2), some (.int x3), some (.int x4), some (.int ((x3 % (10 : Int32)) - (1 : Int32)))]) dX9_order_23 rfl (by decide) rfl ?_
    refine z_iload_n (pc' := 26) (x := x3) dX9_order_25 rfl rfl ?_
    refine z_if_le (pc' := 29) (tgt := 47) dX9_order_26 rfl (by decide) (fun c3 => ?_) (fun c3 => ?_)
    · replace h := h.1 c3
      refine z_iconst (pc' := 48) (v := -1) dX9_order_47 rfl (by decide) ?_
      exact z_iret dX9_order_48 rfl rfl ⟨Nat.le_refl _, Nat.le_refl _⟩ ⟨_, _, _, rfl, rfl, h⟩
    · replace h := h.2 c3
      refine z_aload_n (pc' := 30) (x := 44) dX9_order_29 rfl rfl ?_
      refine z_iload (pc' := 32) (x := ((x3 % (10 : Int32)) - (1 : Int32))) dX9_order_30 rfl rfl ?_
      obtain ⟨d4, P4, hd4, hC4, h⟩ := h
      refine z_callV (pc' := 35) (M' := mX9_isPlayer) (As := [.int ((x3 % (10 : Int32)) - (1 : Int32))]) dX9_order_32 rfl ml_X9_124 me_X9_isPlayer hC4 rfl (by decide) rfl rfl hd4 (Nat.le_of_ble_eq_true rfl) ⟨Nat.le_refl _, Nat.le_refl _⟩ rfl ?_
      rintro _ _ ⟨y4, I4, L4, rfl, rfl, hP4⟩
      replace h := h y4 I4 L4 hP4
      refine z_if_eq (pc' := 38) (tgt := 47) dX9_order_35 rfl (by decide) (fun c5 => ?_) (fun c5 => ?_)
      · replace h := h.1 c5
        refine z_iconst (pc' := 48) (v := -1) dX9_order_47 rfl (by decide) ?_
        exact z_iret dX9_order_48 rfl rfl ⟨Nat.le_refl _, Nat.le_refl _⟩ ⟨_, _, _, rfl, rfl, h⟩
      · replace h := h.2 c5
        refine z_iload_n (pc' := 39) (x := x2) dX9_order_38 rfl rfl ?_
        refine z_iload (pc' := 41) (x := ((x3 % (10 : Int32)) - (1 : Int32))) dX9_order_39 rfl rfl ?_
        obtain ⟨d6, P6, hd6, hC6, h⟩ := h
        refine z_callS (pc' := 44) (M' := mX9_isIn) (As := [.int x2, .int ((x3 % (10 : Int32)) - (1 : Int32))]) dX9_order_41 rfl ml_X9_133 me_X9_isIn hC6 rfl hd6 (Nat.le_of_ble_eq_true rfl) ⟨Nat.le_refl _, Nat.le_refl _⟩ rfl ?_
        rintro _ _ ⟨y6, I6, L6, rfl, rfl, hP6⟩
        replace h := h y6 I6 L6 hP6
        refine z_if_eq (pc' := 47) (tgt := 49) dX9_order_44 rfl (by decide) (fun c7 => ?_) (fun c7 => ?_)
        · replace h := h.1 c7
          refine z_iload_n (pc' := 50) (x := x2) dX9_order_49 rfl rfl ?_
          refine z_iconst (pc' := 51) (v := 1) dX9_order_50 rfl (by decide) ?_
          refine z_iload (pc' := 53) (x := ((x3 % (10 : Int32)) - (1 : Int32))) dX9_order_51 rfl rfl ?_
          refine z_ishl (pc' := 54) dX9_order_53 rfl ?_
          refine z_ior (pc' := 55) dX9_order_54 rfl ?_
          refine z_istore_n (pc' := 56) (ls' := [some (.ref 44), none, some (.int (x2 ||| ((1 : Int32) <<< (((x3 % (10 : Int32)) - (1 : Int32)) &&& 31)))), some (.int x3), some (.int x4), some (.int ((x3 % (10 : Int32)) - (1 : Int32)))]) dX9_order_55 rfl (by decide) rfl ?_
          refine z_aload_n (pc' := 57) (x := 44) dX9_order_56 rfl rfl ?_
          refine z_getr (pc' := 60) (x := 52) dX9_order_57 rfl fl_X9_31 rfl rfl rfl ?_
          refine z_iload (pc' := 62) (x := x4) dX9_order_60 rfl rfl ?_
          refine z_iload (pc' := 64) (x := ((x3 % (10 : Int32)) - (1 : Int32))) dX9_order_62 rfl rfl ?_
          obtain ⟨j8, ha8, hb8, h⟩ := h
          refine z_iast (pc' := 65) (j := j8) (w' := zs (xI I6 52 j8 ((x3 % (10 : Int32)) - (1 : Int32))) L6) dX9_order_64 rfl rfl (by decide) ha8 hb8 rfl ?_
          refine z_iload_n (pc' := 66) (x := x3) dX9_order_65 rfl rfl ?_
          refine z_bipush (pc' := 68) (v := 10) dX9_order_66 rfl (by decide) ?_
          refine z_idiv (pc' := 69) dX9_order_68 rfl (by decide) ?_
          refine z_istore_n (pc' := 70) (ls' := [some (.ref 44), none, some (.int (x2 ||| ((1 : Int32) <<< (((x3 % (10 : Int32)) - (1 : Int32)) &&& 31)))), some (.int (x3 / (10 : Int32))), some (.int x4), some (.int ((x3 % (10 : Int32)) - (1 : Int32)))]) dX9_order_69 rfl (by decide) rfl ?_
          refine z_iinc (pc' := 73) (x := x4) (v := (x4 + (-1 : Int32))) (ls' := [some (.ref 44), none, some (.int (x2 ||| ((1 : Int32) <<< (((x3 % (10 : Int32)) - (1 : Int32)) &&& 31)))), some (.int (x3 / (10 : Int32))), some (.int (x4 + (-1 : Int32))), some (.int ((x3 % (10 : Int32)) - (1 : Int32)))]) dX9_order_70 rfl rfl (by rfl) (by decide) rfl ?_
          refine z_goto (pc' := 12) dX9_order_73 (by decide) ?_
          refine z_sub (pc' := 0) [some (.ref 44), none, some (.int (x2 ||| ((1 : Int32) <<< (((x3 % (10 : Int32)) - (1 : Int32)) &&& 31)))), some (.int (x3 / (10 : Int32))), some (.int (x4 + (-1 : Int32))), none] (zsub_s (zsub_n (zsub_s (zsub_s (zsub_s (zsub_n zsub_nil)))))) ?_
          exact h
        · replace h := h.2 c7
          refine z_iconst (pc' := 48) (v := -1) dX9_order_47 rfl (by decide) ?_
          exact z_iret dX9_order_48 rfl rfl ⟨Nat.le_refl _, Nat.le_refl _⟩ ⟨_, _, _, rfl, rfl, h⟩
set_option maxHeartbeats 4000000 in
set_option maxRecDepth 100000 in
theorem t_X9_order_85 {l : Launch} {G : zG} {d : Nat} {P : Int32 → zIM → zLM → Prop} {I : zIM} {L : zLM} {x4 : Int32}   (h : (((I 44 6) ≤ x4 → (∃ (d2 : Nat) (P2 : zIM → zLM → Prop), d2 + 1 ≤ d ∧ zCv l G d2 mX9_startsAnew [.ref 44] I L P2 ∧ ∀ (I2 : zIM) (L2 : zLM), P2 I2 L2 → (P (1 : Int32) I2 L2))) ∧ (¬ (I 44 6) ≤ x4 → (∃ j3 : Nat, x4 = nI j3 ∧ j3 < 4 ∧ (∃ j4 : Nat, (I 52 j3) = nI j4 ∧ j4 < 4 ∧ (K_X9_order_85 l G d P (xI (xI I 49 j3 (I 52 j3)) 50 j4 x4) L (x4 + (1 : Int32)))))))) : K_X9_order_85 l G d P I L x4  := by
  refine z_iload (pc' := 87) (x := x4) dX9_order_85 rfl rfl ?_
  refine z_aload_n (pc' := 88) (x := 44) dX9_order_87 rfl rfl ?_
  refine z_geti (pc' := 91) (x := (I 44 6)) dX9_order_88 rfl fl_X9_96 rfl rfl rfl ?_
  refine z_icmp_ge (pc' := 94) (tgt := 128) dX9_order_91 rfl (by decide) (fun c1 => ?_) (fun c1 => ?_)
  · replace h := h.1 c1
    refine z_aload_n (pc' := 129) (x := 44) dX9_order_128 rfl rfl ?_
    obtain ⟨d2, P2, hd2, hC2, h⟩ := h
    refine z_callV (pc' := 132) (M' := mX9_startsAnew) (As := []) dX9_order_129 rfl ml_X9_107 me_X9_startsAnew hC2 rfl (by decide) rfl rfl hd2 (Nat.le_of_ble_eq_true rfl) ⟨Nat.le_refl _, Nat.le_refl _⟩ rfl ?_
    rintro _ _ ⟨I2, L2, rfl, rfl, hP2⟩
    replace h := h I2 L2 hP2
    refine z_iconst (pc' := 133) (v := 1) dX9_order_132 rfl (by decide) ?_
    exact z_iret dX9_order_133 rfl rfl ⟨Nat.le_refl _, Nat.le_refl _⟩ ⟨_, _, _, rfl, rfl, h⟩
  · replace h := h.2 c1
    refine z_aload_n (pc' := 95) (x := 44) dX9_order_94 rfl rfl ?_
    refine z_getr (pc' := 98) (x := 49) dX9_order_95 rfl fl_X9_22 rfl rfl rfl ?_
    refine z_iload (pc' := 100) (x := x4) dX9_order_98 rfl rfl ?_
    refine z_aload_n (pc' := 101) (x := 44) dX9_order_100 rfl rfl ?_
    refine z_getr (pc' := 104) (x := 52) dX9_order_101 rfl fl_X9_31 rfl rfl rfl ?_
    refine z_iload (pc' := 106) (x := x4) dX9_order_104 rfl rfl ?_
    obtain ⟨j3, ha3, hb3, h⟩ := h
    refine z_iald (pc' := 107) (x := (I 52 j3)) (j := j3) dX9_order_106 rfl rfl (by decide) ha3 hb3 rfl ?_
    refine z_iast (pc' := 108) (j := j3) (w' := zs (xI I 49 j3 (I 52 j3)) L) dX9_order_107 rfl rfl (by decide) ha3 hb3 rfl ?_
    refine z_aload_n (pc' := 109) (x := 44) dX9_order_108 rfl rfl ?_
    refine z_getr (pc' := 112) (x := 50) dX9_order_109 rfl fl_X9_25 rfl rfl rfl ?_
    refine z_aload_n (pc' := 113) (x := 44) dX9_order_112 rfl rfl ?_
    refine z_getr (pc' := 116) (x := 52) dX9_order_113 rfl fl_X9_31 rfl rfl rfl ?_
    refine z_iload (pc' := 118) (x := x4) dX9_order_116 rfl rfl ?_
    refine z_iald (pc' := 119) (x := (I 52 j3)) (j := j3) dX9_order_118 rfl rfl (by decide) ha3 hb3 rfl ?_
    refine z_iload (pc' := 121) (x := x4) dX9_order_119 rfl rfl ?_
    obtain ⟨j4, ha4, hb4, h⟩ := h
    refine z_iast (pc' := 122) (j := j4) (w' := zs (xI (xI I 49 j3 (I 52 j3)) 50 j4 x4) L) dX9_order_121 rfl rfl (by decide) ha4 hb4 rfl ?_
    refine z_iinc (pc' := 125) (x := x4) (v := (x4 + (1 : Int32))) (ls' := [some (.ref 44), none, none, none, some (.int (x4 + (1 : Int32))), none]) dX9_order_122 rfl rfl (by rfl) (by decide) rfl ?_
    refine z_goto (pc' := 85) dX9_order_125 (by decide) ?_
    exact h
set_option maxHeartbeats 4000000 in
set_option maxRecDepth 100000 in
theorem t_X9_bell {l : Launch} {G : zG} {d : Nat} {P : Int32 → zIM → zLM → Prop} {I : zIM} {L : zLM} {x1 : Int32}  (h : ∃ (d1 : Nat) (P1 : Int32 → zIM → zLM → Prop), d1 + 1 ≤ d ∧ zCi l G d1 mX9_within [.long (x1.toInt64), .long (0 : Int64), .long (9 : Int64)] I L P1 ∧ ∀ (y1 : Int32) (I1 : zIM) (L1 : zLM), P1 y1 I1 L1 → (((¬ y1 = 0 → (∃ (d3 : Nat) (P3 : zIM → zLM → Prop), d3 + 1 ≤ d ∧ zCv l G d3 mX9_startsAnew [.ref 44] (xI I1 44 9 x1) L1 P3 ∧ ∀ (I3 : zIM) (L3 : zLM), P3 I3 L3 → (P (I1 44 9) I3 L3))) ∧ (y1 = 0 → (P (-1 : Int32) I1 L1))))) : zCi l G d mX9_bell [.ref 44, .int x1] I L P := by
  refine zCn.of (ls := [some (.ref 44), some (.int x1), none]) (by decide) (Nat.le_of_ble_eq_true rfl) rfl ?_
  refine z_iload_n (pc' := 1) (x := x1) dX9_bell_0 rfl rfl ?_
  refine z_i2l (pc' := 2) dX9_bell_1 rfl ?_
  refine z_lconst (pc' := 3) (v := 0) dX9_bell_2 rfl (by decide) ?_
  refine z_ldc2 (pc' := 6) (v := 9) dX9_bell_3 rfl kl_X9_137 ?_
  obtain ⟨d1, P1, hd1, hC1, h⟩ := h
  refine z_callS (pc' := 9) (M' := mX9_within) (As := [.long (x1.toInt64), .long (0 : Int64), .long (9 : Int64)]) dX9_bell_6 rfl ml_X9_99 me_X9_within hC1 rfl hd1 (Nat.le_of_ble_eq_true rfl) ⟨Nat.le_refl _, Nat.le_refl _⟩ rfl ?_
  rintro _ _ ⟨y1, I1, L1, rfl, rfl, hP1⟩
  replace h := h y1 I1 L1 hP1
  refine z_if_ne (pc' := 12) (tgt := 14) dX9_bell_9 rfl (by decide) (fun c2 => ?_) (fun c2 => ?_)
  · replace h := h.1 c2
    refine z_aload_n (pc' := 15) (x := 44) dX9_bell_14 rfl rfl ?_
    refine z_geti (pc' := 18) (x := (I1 44 9)) dX9_bell_15 rfl fl_X9_87 rfl rfl rfl ?_
    refine z_istore_n (pc' := 19) (ls' := [some (.ref 44), some (.int x1), some (.int (I1 44 9))]) dX9_bell_18 rfl (by decide) rfl ?_
    refine z_aload_n (pc' := 20) (x := 44) dX9_bell_19 rfl rfl ?_
    refine z_iload_n (pc' := 21) (x := x1) dX9_bell_20 rfl rfl ?_
    refine z_puti (pc' := 24) (w' := zs (xI I1 44 9 x1) L1) dX9_bell_21 rfl fl_X9_87 rfl rfl rfl rfl rfl rfl ?_
    refine z_aload_n (pc' := 25) (x := 44) dX9_bell_24 rfl rfl ?_
    obtain ⟨d3, P3, hd3, hC3, h⟩ := h
    refine z_callV (pc' := 28) (M' := mX9_startsAnew) (As := []) dX9_bell_25 rfl ml_X9_107 me_X9_startsAnew hC3 rfl (by decide) rfl rfl hd3 (Nat.le_of_ble_eq_true rfl) ⟨Nat.le_refl _, Nat.le_refl _⟩ rfl ?_
    rintro _ _ ⟨I3, L3, rfl, rfl, hP3⟩
    replace h := h I3 L3 hP3
    refine z_iload_n (pc' := 29) (x := (I1 44 9)) dX9_bell_28 rfl rfl ?_
    exact z_iret dX9_bell_29 rfl rfl ⟨Nat.le_refl _, Nat.le_refl _⟩ ⟨_, _, _, rfl, rfl, h⟩
  · replace h := h.2 c2
    refine z_iconst (pc' := 13) (v := -1) dX9_bell_12 rfl (by decide) ?_
    exact z_iret dX9_bell_13 rfl rfl ⟨Nat.le_refl _, Nat.le_refl _⟩ ⟨_, _, _, rfl, rfl, h⟩
set_option maxHeartbeats 4000000 in
set_option maxRecDepth 100000 in
theorem t_X9_prize {l : Launch} {G : zG} {d : Nat} {P : Int32 → zIM → zLM → Prop} {I : zIM} {L : zLM} {x1 : Int32} {x2 : Int32}  (h : ∃ (d1 : Nat) (P1 : Int32 → zIM → zLM → Prop), d1 + 1 ≤ d ∧ zCi l G d1 mX9_within [.long (x1.toInt64), .long (1 : Int64), .long (4 : Int64)] I L P1 ∧ ∀ (y1 : Int32) (I1 : zIM) (L1 : zLM), P1 y1 I1 L1 → (((y1 = 0 → (P (-1 : Int32) I1 L1)) ∧ (¬ y1 = 0 → (∃ (d3 : Nat) (P3 : Int32 → zIM → zLM → Prop), d3 + 1 ≤ d ∧ zCi l G d3 mX9_within [.long (x2.toInt64), .long (0 : Int64), .long (9 : Int64)] I1 L1 P3 ∧ ∀ (y3 : Int32) (I3 : zIM) (L3 : zLM), P3 y3 I3 L3 → (((¬ y3 = 0 → (∃ j5 : Nat, x1 = nI j5 ∧ j5 < 5 ∧ (P (I3 51 j5) (xI I3 51 j5 x2) L3))) ∧ (y3 = 0 → (P (-1 : Int32) I3 L3))))))))) : zCi l G d mX9_prize [.ref 44, .int x1, .int x2] I L P := by
  refine zCn.of (ls := [some (.ref 44), some (.int x1), some (.int x2), none]) (by decide) (Nat.le_of_ble_eq_true rfl) rfl ?_
  refine z_iload_n (pc' := 1) (x := x1) dX9_prize_0 rfl rfl ?_
  refine z_i2l (pc' := 2) dX9_prize_1 rfl ?_
  refine z_lconst (pc' := 3) (v := 1) dX9_prize_2 rfl (by decide) ?_
  refine z_ldc2 (pc' := 6) (v := 4) dX9_prize_3 rfl kl_X9_122 ?_
  obtain ⟨d1, P1, hd1, hC1, h⟩ := h
  refine z_callS (pc' := 9) (M' := mX9_within) (As := [.long (x1.toInt64), .long (1 : Int64), .long (4 : Int64)]) dX9_prize_6 rfl ml_X9_99 me_X9_within hC1 rfl hd1 (Nat.le_of_ble_eq_true rfl) ⟨Nat.le_refl _, Nat.le_refl _⟩ rfl ?_
  rintro _ _ ⟨y1, I1, L1, rfl, rfl, hP1⟩
  replace h := h y1 I1 L1 hP1
  refine z_if_eq (pc' := 12) (tgt := 24) dX9_prize_9 rfl (by decide) (fun c2 => ?_) (fun c2 => ?_)
  · replace h := h.1 c2
    refine z_iconst (pc' := 25) (v := -1) dX9_prize_24 rfl (by decide) ?_
    exact z_iret dX9_prize_25 rfl rfl ⟨Nat.le_refl _, Nat.le_refl _⟩ ⟨_, _, _, rfl, rfl, h⟩
  · replace h := h.2 c2
    refine z_iload_n (pc' := 13) (x := x2) dX9_prize_12 rfl rfl ?_
    refine z_i2l (pc' := 14) dX9_prize_13 rfl ?_
    refine z_lconst (pc' := 15) (v := 0) dX9_prize_14 rfl (by decide) ?_
    refine z_ldc2 (pc' := 18) (v := 9) dX9_prize_15 rfl kl_X9_137 ?_
    obtain ⟨d3, P3, hd3, hC3, h⟩ := h
    refine z_callS (pc' := 21) (M' := mX9_within) (As := [.long (x2.toInt64), .long (0 : Int64), .long (9 : Int64)]) dX9_prize_18 rfl ml_X9_99 me_X9_within hC3 rfl hd3 (Nat.le_of_ble_eq_true rfl) ⟨Nat.le_refl _, Nat.le_refl _⟩ rfl ?_
    rintro _ _ ⟨y3, I3, L3, rfl, rfl, hP3⟩
    replace h := h y3 I3 L3 hP3
    refine z_if_ne (pc' := 24) (tgt := 26) dX9_prize_21 rfl (by decide) (fun c4 => ?_) (fun c4 => ?_)
    · replace h := h.1 c4
      refine z_aload_n (pc' := 27) (x := 44) dX9_prize_26 rfl rfl ?_
      refine z_getr (pc' := 30) (x := 51) dX9_prize_27 rfl fl_X9_28 rfl rfl rfl ?_
      refine z_iload_n (pc' := 31) (x := x1) dX9_prize_30 rfl rfl ?_
      obtain ⟨j5, ha5, hb5, h⟩ := h
      refine z_iald (pc' := 32) (x := (I3 51 j5)) (j := j5) dX9_prize_31 rfl rfl (by decide) ha5 hb5 rfl ?_
      refine z_istore_n (pc' := 33) (ls' := [some (.ref 44), some (.int x1), some (.int x2), some (.int (I3 51 j5))]) dX9_prize_32 rfl (by decide) rfl ?_
      refine z_aload_n (pc' := 34) (x := 44) dX9_prize_33 rfl rfl ?_
      refine z_getr (pc' := 37) (x := 51) dX9_prize_34 rfl fl_X9_28 rfl rfl rfl ?_
      refine z_iload_n (pc' := 38) (x := x1) dX9_prize_37 rfl rfl ?_
      refine z_iload_n (pc' := 39) (x := x2) dX9_prize_38 rfl rfl ?_
      refine z_iast (pc' := 40) (j := j5) (w' := zs (xI I3 51 j5 x2) L3) dX9_prize_39 rfl rfl (by decide) ha5 hb5 rfl ?_
      refine z_iload_n (pc' := 41) (x := (I3 51 j5)) dX9_prize_40 rfl rfl ?_
      exact z_iret dX9_prize_41 rfl rfl ⟨Nat.le_refl _, Nat.le_refl _⟩ ⟨_, _, _, rfl, rfl, h⟩
    · replace h := h.2 c4
      refine z_iconst (pc' := 25) (v := -1) dX9_prize_24 rfl (by decide) ?_
      exact z_iret dX9_prize_25 rfl rfl ⟨Nat.le_refl _, Nat.le_refl _⟩ ⟨_, _, _, rfl, rfl, h⟩
set_option maxHeartbeats 4000000 in
set_option maxRecDepth 100000 in
theorem t_X9_of {l : Launch} {G : zG} {d : Nat} {P : Int32 → zIM → zLM → Prop} {I : zIM} {L : zLM} {x1 : Int32} {x2 : Int32}  (h : ∃ (d1 : Nat) (P1 : Int32 → zIM → zLM → Prop), d1 + 1 ≤ d ∧ zCi l G d1 mX9_isPlayer [.ref 44, .int x1] I L P1 ∧ ∀ (y1 : Int32) (I1 : zIM) (L1 : zLM), P1 y1 I1 L1 → (((¬ y1 = 0 → (((x2 = (0 : Int32) → (∃ j4 : Nat, (((4 : Int32) * x2) + x1) = nI j4 ∧ j4 < 12 ∧ (P (I1 45 j4) I1 L1))) ∧ (x2 = (1 : Int32) → (∃ j5 : Nat, (((4 : Int32) * x2) + x1) = nI j5 ∧ j5 < 12 ∧ (P (I1 45 j5) I1 L1))) ∧ (x2 = (2 : Int32) → (∃ j6 : Nat, (((4 : Int32) * x2) + x1) = nI j6 ∧ j6 < 12 ∧ (P (I1 45 j6) I1 L1))) ∧ (x2 = (3 : Int32) → (∃ j7 : Nat, x1 = nI j7 ∧ j7 < 4 ∧ (P (I1 50 j7) I1 L1))) ∧ (x2 = (4 : Int32) → (∃ (d8 : Nat) (P8 : Int32 → zIM → zLM → Prop), d8 + 1 ≤ d ∧ zCi l G d8 mX9_isIn [.int (I1 44 33), .int x1] I1 L1 P8 ∧ ∀ (y8 : Int32) (I8 : zIM) (L8 : zLM), P8 y8 I8 L8 → (((y8 = 0 → (P (0 : Int32) I8 L8)) ∧ (¬ y8 = 0 → (P (1 : Int32) I8 L8)))))) ∧ (¬ x2 = (0 : Int32) → ¬ x2 = (1 : Int32) → ¬ x2 = (2 : Int32) → ¬ x2 = (3 : Int32) → ¬ x2 = (4 : Int32) → (P (-1 : Int32) I1 L1))))) ∧ (y1 = 0 → (P (-1 : Int32) I1 L1))))) : zCi l G d mX9_of [.ref 44, .int x1, .int x2] I L P := by
  refine zCn.of (ls := [some (.ref 44), some (.int x1), some (.int x2)]) (by decide) (Nat.le_of_ble_eq_true rfl) rfl ?_
  refine z_aload_n (pc' := 1) (x := 44) dX9_of_0 rfl rfl ?_
  refine z_iload_n (pc' := 2) (x := x1) dX9_of_1 rfl rfl ?_
  obtain ⟨d1, P1, hd1, hC1, h⟩ := h
  refine z_callV (pc' := 5) (M' := mX9_isPlayer) (As := [.int x1]) dX9_of_2 rfl ml_X9_124 me_X9_isPlayer hC1 rfl (by decide) rfl rfl hd1 (Nat.le_of_ble_eq_true rfl) ⟨Nat.le_refl _, Nat.le_refl _⟩ rfl ?_
  rintro _ _ ⟨y1, I1, L1, rfl, rfl, hP1⟩
  replace h := h y1 I1 L1 hP1
  refine z_if_ne (pc' := 8) (tgt := 10) dX9_of_5 rfl (by decide) (fun c2 => ?_) (fun c2 => ?_)
  · replace h := h.1 c2
    refine z_iload_n (pc' := 11) (x := x2) dX9_of_10 rfl rfl ?_
    by_cases c3_0 : x2 = (0 : Int32)
    · replace h := h.1 c3_0
      refine z_tableIn (pc' := 44) dX9_of_11 (by rw [c3_0]; decide) (by rw [c3_0]; decide) (by rw [c3_0]; rfl) (by decide) ?_
      refine z_aload_n (pc' := 45) (x := 44) dX9_of_44 rfl rfl ?_
      refine z_getr (pc' := 48) (x := 45) dX9_of_45 rfl fl_X9_9 rfl rfl rfl ?_
      refine z_iconst (pc' := 49) (v := 4) dX9_of_48 rfl (by decide) ?_
      refine z_iload_n (pc' := 50) (x := x2) dX9_of_49 rfl rfl ?_
      refine z_imul (pc' := 51) dX9_of_50 rfl ?_
      refine z_iload_n (pc' := 52) (x := x1) dX9_of_51 rfl rfl ?_
      refine z_iadd (pc' := 53) dX9_of_52 rfl ?_
      obtain ⟨j4, ha4, hb4, h⟩ := h
      refine z_iald (pc' := 54) (x := (I1 45 j4)) (j := j4) dX9_of_53 rfl rfl (by decide) ha4 hb4 rfl ?_
      exact z_iret dX9_of_54 rfl rfl ⟨Nat.le_refl _, Nat.le_refl _⟩ ⟨_, _, _, rfl, rfl, h⟩
    by_cases c3_1 : x2 = (1 : Int32)
    · replace h := h.2.1 c3_1
      refine z_tableIn (pc' := 44) dX9_of_11 (by rw [c3_1]; decide) (by rw [c3_1]; decide) (by rw [c3_1]; rfl) (by decide) ?_
      refine z_aload_n (pc' := 45) (x := 44) dX9_of_44 rfl rfl ?_
      refine z_getr (pc' := 48) (x := 45) dX9_of_45 rfl fl_X9_9 rfl rfl rfl ?_
      refine z_iconst (pc' := 49) (v := 4) dX9_of_48 rfl (by decide) ?_
      refine z_iload_n (pc' := 50) (x := x2) dX9_of_49 rfl rfl ?_
      refine z_imul (pc' := 51) dX9_of_50 rfl ?_
      refine z_iload_n (pc' := 52) (x := x1) dX9_of_51 rfl rfl ?_
      refine z_iadd (pc' := 53) dX9_of_52 rfl ?_
      obtain ⟨j5, ha5, hb5, h⟩ := h
      refine z_iald (pc' := 54) (x := (I1 45 j5)) (j := j5) dX9_of_53 rfl rfl (by decide) ha5 hb5 rfl ?_
      exact z_iret dX9_of_54 rfl rfl ⟨Nat.le_refl _, Nat.le_refl _⟩ ⟨_, _, _, rfl, rfl, h⟩
    by_cases c3_2 : x2 = (2 : Int32)
    · replace h := h.2.2.1 c3_2
      refine z_tableIn (pc' := 44) dX9_of_11 (by rw [c3_2]; decide) (by rw [c3_2]; decide) (by rw [c3_2]; rfl) (by decide) ?_
      refine z_aload_n (pc' := 45) (x := 44) dX9_of_44 rfl rfl ?_
      refine z_getr (pc' := 48) (x := 45) dX9_of_45 rfl fl_X9_9 rfl rfl rfl ?_
      refine z_iconst (pc' := 49) (v := 4) dX9_of_48 rfl (by decide) ?_
      refine z_iload_n (pc' := 50) (x := x2) dX9_of_49 rfl rfl ?_
      refine z_imul (pc' := 51) dX9_of_50 rfl ?_
      refine z_iload_n (pc' := 52) (x := x1) dX9_of_51 rfl rfl ?_
      refine z_iadd (pc' := 53) dX9_of_52 rfl ?_
      obtain ⟨j6, ha6, hb6, h⟩ := h
      refine z_iald (pc' := 54) (x := (I1 45 j6)) (j := j6) dX9_of_53 rfl rfl (by decide) ha6 hb6 rfl ?_
      exact z_iret dX9_of_54 rfl rfl ⟨Nat.le_refl _, Nat.le_refl _⟩ ⟨_, _, _, rfl, rfl, h⟩
    by_cases c3_3 : x2 = (3 : Int32)
    · replace h := h.2.2.2.1 c3_3
      refine z_tableIn (pc' := 55) dX9_of_11 (by rw [c3_3]; decide) (by rw [c3_3]; decide) (by rw [c3_3]; rfl) (by decide) ?_
      refine z_aload_n (pc' := 56) (x := 44) dX9_of_55 rfl rfl ?_
      refine z_getr (pc' := 59) (x := 50) dX9_of_56 rfl fl_X9_25 rfl rfl rfl ?_
      refine z_iload_n (pc' := 60) (x := x1) dX9_of_59 rfl rfl ?_
      obtain ⟨j7, ha7, hb7, h⟩ := h
      refine z_iald (pc' := 61) (x := (I1 50 j7)) (j := j7) dX9_of_60 rfl rfl (by decide) ha7 hb7 rfl ?_
      exact z_iret dX9_of_61 rfl rfl ⟨Nat.le_refl _, Nat.le_refl _⟩ ⟨_, _, _, rfl, rfl, h⟩
    by_cases c3_4 : x2 = (4 : Int32)
    · replace h := h.2.2.2.2.1 c3_4
      refine z_tableIn (pc' := 62) dX9_of_11 (by rw [c3_4]; decide) (by rw [c3_4]; decide) (by rw [c3_4]; rfl) (by decide) ?_
      refine z_aload_n (pc' := 63) (x := 44) dX9_of_62 rfl rfl ?_
      refine z_geti (pc' := 66) (x := (I1 44 33)) dX9_of_63 rfl fl_X9_139 rfl rfl rfl ?_
      refine z_iload_n (pc' := 67) (x := x1) dX9_of_66 rfl rfl ?_
      obtain ⟨d8, P8, hd8, hC8, h⟩ := h
      refine z_callS (pc' := 70) (M' := mX9_isIn) (As := [.int (I1 44 33), .int x1]) dX9_of_67 rfl ml_X9_133 me_X9_isIn hC8 rfl hd8 (Nat.le_of_ble_eq_true rfl) ⟨Nat.le_refl _, Nat.le_refl _⟩ rfl ?_
      rintro _ _ ⟨y8, I8, L8, rfl, rfl, hP8⟩
      replace h := h y8 I8 L8 hP8
      refine z_if_eq (pc' := 73) (tgt := 77) dX9_of_70 rfl (by decide) (fun c9 => ?_) (fun c9 => ?_)
      · replace h := h.1 c9
        refine z_iconst (pc' := 78) (v := 0) dX9_of_77 rfl (by decide) ?_
        exact z_iret dX9_of_78 rfl rfl ⟨Nat.le_refl _, Nat.le_refl _⟩ ⟨_, _, _, rfl, rfl, h⟩
      · replace h := h.2 c9
        refine z_iconst (pc' := 74) (v := 1) dX9_of_73 rfl (by decide) ?_
        refine z_goto (pc' := 78) dX9_of_74 (by decide) ?_
        exact z_iret dX9_of_78 rfl rfl ⟨Nat.le_refl _, Nat.le_refl _⟩ ⟨_, _, _, rfl, rfl, h⟩
    replace h := h.2.2.2.2.2 c3_0 c3_1 c3_2 c3_3 c3_4
    have hne3 : x2.toInt < 0 ∨ 4 < x2.toInt := by
      have nc3_0 := lv_neT c3_0 (a := 0) (by decide); have nc3_1 := lv_neT c3_1 (a := 1) (by decide); have nc3_2 := lv_neT c3_2 (a := 2) (by decide); have nc3_3 := lv_neT c3_3 (a := 3) (by decide); have nc3_4 := lv_neT c3_4 (a := 4) (by decide); omega
    refine z_tableOut (pc' := 79) dX9_of_11 hne3 (by decide) ?_
    refine z_iconst (pc' := 80) (v := -1) dX9_of_79 rfl (by decide) ?_
    exact z_iret dX9_of_80 rfl rfl ⟨Nat.le_refl _, Nat.le_refl _⟩ ⟨_, _, _, rfl, rfl, h⟩
  · replace h := h.2 c2
    refine z_iconst (pc' := 9) (v := -1) dX9_of_8 rfl (by decide) ?_
    exact z_iret dX9_of_9 rfl rfl ⟨Nat.le_refl _, Nat.le_refl _⟩ ⟨_, _, _, rfl, rfl, h⟩
set_option maxHeartbeats 4000000 in
set_option maxRecDepth 100000 in
theorem t_X9_feed {l : Launch} {G : zG} {d : Nat} {P : Int32 → zIM → zLM → Prop} {I : zIM} {L : zLM} {x1 : Int32}  (h : ∃ (d1 : Nat) (P1 : Int32 → zIM → zLM → Prop), d1 + 1 ≤ d ∧ zCi l G d1 mX9_within [.long (x1.toInt64), .long (0 : Int64), .long (255 : Int64)] I L P1 ∧ ∀ (y1 : Int32) (I1 : zIM) (L1 : zLM), P1 y1 I1 L1 → (((¬ y1 = 0 → (((¬ (I1 44 13) = (120 : Int32) → (∃ j4 : Nat, (I1 44 13) = nI j4 ∧ j4 < 120 ∧ (P ((I1 44 13) + (1 : Int32)) (xI (xI I1 53 j4 x1) 44 13 ((I1 44 13) + (1 : Int32))) L1))) ∧ ((I1 44 13) = (120 : Int32) → (P (-3 : Int32) I1 L1))))) ∧ (y1 = 0 → (P (-1 : Int32) I1 L1))))) : zCi l G d mX9_feed [.ref 44, .int x1] I L P := by
  refine zCn.of (ls := [some (.ref 44), some (.int x1)]) (by decide) (Nat.le_of_ble_eq_true rfl) rfl ?_
  refine z_iload_n (pc' := 1) (x := x1) dX9_feed_0 rfl rfl ?_
  refine z_i2l (pc' := 2) dX9_feed_1 rfl ?_
  refine z_lconst (pc' := 3) (v := 0) dX9_feed_2 rfl (by decide) ?_
  refine z_ldc2 (pc' := 6) (v := 255) dX9_feed_3 rfl kl_X9_142 ?_
  obtain ⟨d1, P1, hd1, hC1, h⟩ := h
  refine z_callS (pc' := 9) (M' := mX9_within) (As := [.long (x1.toInt64), .long (0 : Int64), .long (255 : Int64)]) dX9_feed_6 rfl ml_X9_99 me_X9_within hC1 rfl hd1 (Nat.le_of_ble_eq_true rfl) ⟨Nat.le_refl _, Nat.le_refl _⟩ rfl ?_
  rintro _ _ ⟨y1, I1, L1, rfl, rfl, hP1⟩
  replace h := h y1 I1 L1 hP1
  refine z_if_ne (pc' := 12) (tgt := 14) dX9_feed_9 rfl (by decide) (fun c2 => ?_) (fun c2 => ?_)
  · replace h := h.1 c2
    refine z_aload_n (pc' := 15) (x := 44) dX9_feed_14 rfl rfl ?_
    refine z_geti (pc' := 18) (x := (I1 44 13)) dX9_feed_15 rfl fl_X9_144 rfl rfl rfl ?_
    refine z_bipush (pc' := 20) (v := 120) dX9_feed_18 rfl (by decide) ?_
    refine z_icmp_ne (pc' := 23) (tgt := 26) dX9_feed_20 rfl (by decide) (fun c3 => ?_) (fun c3 => ?_)
    · replace h := h.1 c3
      refine z_aload_n (pc' := 27) (x := 44) dX9_feed_26 rfl rfl ?_
      refine z_getr (pc' := 30) (x := 53) dX9_feed_27 rfl fl_X9_34 rfl rfl rfl ?_
      refine z_aload_n (pc' := 31) (x := 44) dX9_feed_30 rfl rfl ?_
      refine z_geti (pc' := 34) (x := (I1 44 13)) dX9_feed_31 rfl fl_X9_144 rfl rfl rfl ?_
      refine z_iload_n (pc' := 35) (x := x1) dX9_feed_34 rfl rfl ?_
      obtain ⟨j4, ha4, hb4, h⟩ := h
      refine z_iast (pc' := 36) (j := j4) (w' := zs (xI I1 53 j4 x1) L1) dX9_feed_35 rfl rfl (by decide) ha4 hb4 rfl ?_
      refine z_aload_n (pc' := 37) (x := 44) dX9_feed_36 rfl rfl ?_
      refine z_dup (pc' := 38) dX9_feed_37 rfl rfl ?_
      refine z_geti (pc' := 41) (x := (I1 44 13)) dX9_feed_38 rfl fl_X9_144 rfl rfl rfl ?_
      refine z_iconst (pc' := 42) (v := 1) dX9_feed_41 rfl (by decide) ?_
      refine z_iadd (pc' := 43) dX9_feed_42 rfl ?_
      refine z_puti (pc' := 46) (w' := zs (xI (xI I1 53 j4 x1) 44 13 ((I1 44 13) + (1 : Int32))) L1) dX9_feed_43 rfl fl_X9_144 rfl rfl rfl rfl rfl rfl ?_
      refine z_aload_n (pc' := 47) (x := 44) dX9_feed_46 rfl rfl ?_
      refine z_geti (pc' := 50) (x := ((I1 44 13) + (1 : Int32))) dX9_feed_47 rfl fl_X9_144 rfl rfl rfl ?_
      exact z_iret dX9_feed_50 rfl rfl ⟨Nat.le_refl _, Nat.le_refl _⟩ ⟨_, _, _, rfl, rfl, h⟩
    · replace h := h.2 c3
      refine z_bipush (pc' := 25) (v := -3) dX9_feed_23 rfl (by decide) ?_
      exact z_iret dX9_feed_25 rfl rfl ⟨Nat.le_refl _, Nat.le_refl _⟩ ⟨_, _, _, rfl, rfl, h⟩
  · replace h := h.2 c2
    refine z_iconst (pc' := 13) (v := -1) dX9_feed_12 rfl (by decide) ?_
    exact z_iret dX9_feed_13 rfl rfl ⟨Nat.le_refl _, Nat.le_refl _⟩ ⟨_, _, _, rfl, rfl, h⟩
set_option maxHeartbeats 4000000 in
set_option maxRecDepth 100000 in
theorem t_X9_byteAt {l : Launch} {G : zG} {d : Nat} {P : Int32 → zIM → zLM → Prop} {I : zIM} {L : zLM}   (h : (((I 44 18) ≤ (I 44 17) → (P (0 : Int32) I L)) ∧ (¬ (I 44 18) ≤ (I 44 17) → (((0 ≤ (I 44 16) → (∃ j3 : Nat, ((I 44 16) + (I 44 17)) = nI j3 ∧ j3 < 120 ∧ (P (I 54 j3) I L))) ∧ (¬ 0 ≤ (I 44 16) → (∃ j4 : Nat, (I 44 17) = nI j4 ∧ j4 < 120 ∧ (P (I 53 j4) I L)))))))) : zCi l G d mX9_byteAt [.ref 44] I L P := by
  refine zCn.of (ls := [some (.ref 44)]) (by decide) (Nat.le_of_ble_eq_true rfl) rfl ?_
  refine z_aload_n (pc' := 1) (x := 44) dX9_byteAt_0 rfl rfl ?_
  refine z_geti (pc' := 4) (x := (I 44 17)) dX9_byteAt_1 rfl fl_X9_147 rfl rfl rfl ?_
  refine z_aload_n (pc' := 5) (x := 44) dX9_byteAt_4 rfl rfl ?_
  refine z_geti (pc' := 8) (x := (I 44 18)) dX9_byteAt_5 rfl fl_X9_150 rfl rfl rfl ?_
  refine z_icmp_ge (pc' := 11) (tgt := 47) dX9_byteAt_8 rfl (by decide) (fun c1 => ?_) (fun c1 => ?_)
  · replace h := h.1 c1
    refine z_iconst (pc' := 48) (v := 0) dX9_byteAt_47 rfl (by decide) ?_
    exact z_iret dX9_byteAt_48 rfl rfl ⟨Nat.le_refl _, Nat.le_refl _⟩ ⟨_, _, _, rfl, rfl, h⟩
  · replace h := h.2 c1
    refine z_aload_n (pc' := 12) (x := 44) dX9_byteAt_11 rfl rfl ?_
    refine z_geti (pc' := 15) (x := (I 44 16)) dX9_byteAt_12 rfl fl_X9_153 rfl rfl rfl ?_
    refine z_if_ge (pc' := 18) (tgt := 30) dX9_byteAt_15 rfl (by decide) (fun c2 => ?_) (fun c2 => ?_)
    · replace h := h.1 c2
      refine z_aload_n (pc' := 31) (x := 44) dX9_byteAt_30 rfl rfl ?_
      refine z_getr (pc' := 34) (x := 54) dX9_byteAt_31 rfl fl_X9_37 rfl rfl rfl ?_
      refine z_aload_n (pc' := 35) (x := 44) dX9_byteAt_34 rfl rfl ?_
      refine z_geti (pc' := 38) (x := (I 44 16)) dX9_byteAt_35 rfl fl_X9_153 rfl rfl rfl ?_
      refine z_aload_n (pc' := 39) (x := 44) dX9_byteAt_38 rfl rfl ?_
      refine z_geti (pc' := 42) (x := (I 44 17)) dX9_byteAt_39 rfl fl_X9_147 rfl rfl rfl ?_
      refine z_iadd (pc' := 43) dX9_byteAt_42 rfl ?_
      obtain ⟨j3, ha3, hb3, h⟩ := h
      refine z_iald (pc' := 44) (x := (I 54 j3)) (j := j3) dX9_byteAt_43 rfl rfl (by decide) ha3 hb3 rfl ?_
      refine z_goto (pc' := 48) dX9_byteAt_44 (by decide) ?_
      exact z_iret dX9_byteAt_48 rfl rfl ⟨Nat.le_refl _, Nat.le_refl _⟩ ⟨_, _, _, rfl, rfl, h⟩
    · replace h := h.2 c2
      refine z_aload_n (pc' := 19) (x := 44) dX9_byteAt_18 rfl rfl ?_
      refine z_getr (pc' := 22) (x := 53) dX9_byteAt_19 rfl fl_X9_34 rfl rfl rfl ?_
      refine z_aload_n (pc' := 23) (x := 44) dX9_byteAt_22 rfl rfl ?_
      refine z_geti (pc' := 26) (x := (I 44 17)) dX9_byteAt_23 rfl fl_X9_147 rfl rfl rfl ?_
      obtain ⟨j4, ha4, hb4, h⟩ := h
      refine z_iald (pc' := 27) (x := (I 53 j4)) (j := j4) dX9_byteAt_26 rfl rfl (by decide) ha4 hb4 rfl ?_
      refine z_goto (pc' := 48) dX9_byteAt_27 (by decide) ?_
      exact z_iret dX9_byteAt_48 rfl rfl ⟨Nat.le_refl _, Nat.le_refl _⟩ ⟨_, _, _, rfl, rfl, h⟩
set_option maxHeartbeats 4000000 in
set_option maxRecDepth 100000 in
theorem t_X9_wrong {l : Launch} {G : zG} {d : Nat} {P : Int32 → zIM → zLM → Prop} {I : zIM} {L : zLM}   (h : ((0 ≤ (I 44 19) → (P (0 : Int32) (xI I 44 19 (I 44 19)) L)) ∧ (¬ 0 ≤ (I 44 19) → (P (0 : Int32) (xI I 44 19 (I 44 17)) L)))) : zCi l G d mX9_wrong [.ref 44] I L P := by
  refine zCn.of (ls := [some (.ref 44)]) (by decide) (Nat.le_of_ble_eq_true rfl) rfl ?_
  refine z_aload_n (pc' := 1) (x := 44) dX9_wrong_0 rfl rfl ?_
  refine z_aload_n (pc' := 2) (x := 44) dX9_wrong_1 rfl rfl ?_
  refine z_geti (pc' := 5) (x := (I 44 19)) dX9_wrong_2 rfl fl_X9_156 rfl rfl rfl ?_
  refine z_if_ge (pc' := 8) (tgt := 15) dX9_wrong_5 rfl (by decide) (fun c1 => ?_) (fun c1 => ?_)
  · replace h := h.1 c1
    refine z_aload_n (pc' := 16) (x := 44) dX9_wrong_15 rfl rfl ?_
    refine z_geti (pc' := 19) (x := (I 44 19)) dX9_wrong_16 rfl fl_X9_156 rfl rfl rfl ?_
    refine z_puti (pc' := 22) (w' := zs (xI I 44 19 (I 44 19)) L) dX9_wrong_19 rfl fl_X9_156 rfl rfl rfl rfl rfl rfl ?_
    refine z_iconst (pc' := 23) (v := 0) dX9_wrong_22 rfl (by decide) ?_
    exact z_iret dX9_wrong_23 rfl rfl ⟨Nat.le_refl _, Nat.le_refl _⟩ ⟨_, _, _, rfl, rfl, h⟩
  · replace h := h.2 c1
    refine z_aload_n (pc' := 9) (x := 44) dX9_wrong_8 rfl rfl ?_
    refine z_geti (pc' := 12) (x := (I 44 17)) dX9_wrong_9 rfl fl_X9_147 rfl rfl rfl ?_
    refine z_goto (pc' := 19) dX9_wrong_12 (by decide) ?_
    refine z_puti (pc' := 22) (w' := zs (xI I 44 19 (I 44 17)) L) dX9_wrong_19 rfl fl_X9_156 rfl rfl rfl rfl rfl rfl ?_
    refine z_iconst (pc' := 23) (v := 0) dX9_wrong_22 rfl (by decide) ?_
    exact z_iret dX9_wrong_23 rfl rfl ⟨Nat.le_refl _, Nat.le_refl _⟩ ⟨_, _, _, rfl, rfl, h⟩
set_option maxHeartbeats 4000000 in
set_option maxRecDepth 100000 in
theorem t_X9_takes {l : Launch} {G : zG} {d : Nat} {P : Int32 → zIM → zLM → Prop} {I : zIM} {L : zLM} {x1 : Int32}  (h : ((0 ≤ (I 44 19) → (P (0 : Int32) I L)) ∧ (¬ 0 ≤ (I 44 19) → (∃ (d2 : Nat) (P2 : Int32 → zIM → zLM → Prop), d2 + 1 ≤ d ∧ zCi l G d2 mX9_byteAt [.ref 44] I L P2 ∧ ∀ (y2 : Int32) (I2 : zIM) (L2 : zLM), P2 y2 I2 L2 → (((y2 = x1 → (P (1 : Int32) (xI I2 44 17 ((I2 44 17) + (1 : Int32))) L2)) ∧ (¬ y2 = x1 → (P (0 : Int32) I2 L2)))))))) : zCi l G d mX9_takes [.ref 44, .int x1] I L P := by
  refine zCn.of (ls := [some (.ref 44), some (.int x1)]) (by decide) (Nat.le_of_ble_eq_true rfl) rfl ?_
  refine z_aload_n (pc' := 1) (x := 44) dX9_takes_0 rfl rfl ?_
  refine z_geti (pc' := 4) (x := (I 44 19)) dX9_takes_1 rfl fl_X9_156 rfl rfl rfl ?_
  refine z_if_ge (pc' := 7) (tgt := 15) dX9_takes_4 rfl (by decide) (fun c1 => ?_) (fun c1 => ?_)
  · replace h := h.1 c1
    refine z_iconst (pc' := 16) (v := 0) dX9_takes_15 rfl (by decide) ?_
    exact z_iret dX9_takes_16 rfl rfl ⟨Nat.le_refl _, Nat.le_refl _⟩ ⟨_, _, _, rfl, rfl, h⟩
  · replace h := h.2 c1
    refine z_aload_n (pc' := 8) (x := 44) dX9_takes_7 rfl rfl ?_
    obtain ⟨d2, P2, hd2, hC2, h⟩ := h
    refine z_callV (pc' := 11) (M' := mX9_byteAt) (As := []) dX9_takes_8 rfl ml_X9_159 me_X9_byteAt hC2 rfl (by decide) rfl rfl hd2 (Nat.le_of_ble_eq_true rfl) ⟨Nat.le_refl _, Nat.le_refl _⟩ rfl ?_
    rintro _ _ ⟨y2, I2, L2, rfl, rfl, hP2⟩
    replace h := h y2 I2 L2 hP2
    refine z_iload_n (pc' := 12) (x := x1) dX9_takes_11 rfl rfl ?_
    refine z_icmp_eq (pc' := 15) (tgt := 17) dX9_takes_12 rfl (by decide) (fun c3 => ?_) (fun c3 => ?_)
    · replace h := h.1 c3
      refine z_aload_n (pc' := 18) (x := 44) dX9_takes_17 rfl rfl ?_
      refine z_dup (pc' := 19) dX9_takes_18 rfl rfl ?_
      refine z_geti (pc' := 22) (x := (I2 44 17)) dX9_takes_19 rfl fl_X9_147 rfl rfl rfl ?_
      refine z_iconst (pc' := 23) (v := 1) dX9_takes_22 rfl (by decide) ?_
      refine z_iadd (pc' := 24) dX9_takes_23 rfl ?_
      refine z_puti (pc' := 27) (w' := zs (xI I2 44 17 ((I2 44 17) + (1 : Int32))) L2) dX9_takes_24 rfl fl_X9_147 rfl rfl rfl rfl rfl rfl ?_
      refine z_iconst (pc' := 28) (v := 1) dX9_takes_27 rfl (by decide) ?_
      exact z_iret dX9_takes_28 rfl rfl ⟨Nat.le_refl _, Nat.le_refl _⟩ ⟨_, _, _, rfl, rfl, h⟩
    · replace h := h.2 c3
      refine z_iconst (pc' := 16) (v := 0) dX9_takes_15 rfl (by decide) ?_
      exact z_iret dX9_takes_16 rfl rfl ⟨Nat.le_refl _, Nat.le_refl _⟩ ⟨_, _, _, rfl, rfl, h⟩
set_option maxHeartbeats 4000000 in
set_option maxRecDepth 100000 in
theorem t_X9_either {l : Launch} {G : zG} {d : Nat} {P : Int32 → zIM → zLM → Prop} {I : zIM} {L : zLM}   (h : ∃ (d1 : Nat) (P1 : Int32 → zIM → zLM → Prop), d1 + 1 ≤ d ∧ zCi l G d1 mX9_both [.ref 44] I L P1 ∧ ∀ (y1 : Int32) (I1 : zIM) (L1 : zLM), P1 y1 I1 L1 → (K_X9_either_5 l G d P I1 L1 y1)) : zCi l G d mX9_either [.ref 44] I L P := by
  refine zCn.of (ls := [some (.ref 44), none, none]) (by decide) (Nat.le_of_ble_eq_true rfl) rfl ?_
  refine z_aload_n (pc' := 1) (x := 44) dX9_either_0 rfl rfl ?_
  obtain ⟨d1, P1, hd1, hC1, h⟩ := h
  refine z_callV (pc' := 4) (M' := mX9_both) (As := []) dX9_either_1 rfl ml_X9_163 me_X9_both hC1 rfl (by decide) rfl rfl hd1 (Nat.le_of_ble_eq_true rfl) ⟨Nat.le_refl _, Nat.le_refl _⟩ rfl ?_
  rintro _ _ ⟨y1, I1, L1, rfl, rfl, hP1⟩
  replace h := h y1 I1 L1 hP1
  refine z_istore_n (pc' := 5) (ls' := [some (.ref 44), some (.int y1), none]) dX9_either_4 rfl (by decide) rfl ?_
  exact h
set_option maxHeartbeats 4000000 in
set_option maxRecDepth 100000 in
theorem t_X9_either_5 {l : Launch} {G : zG} {d : Nat} {P : Int32 → zIM → zLM → Prop} {I : zIM} {L : zLM} {x1 : Int32}   (h : ∃ (d1 : Nat) (P1 : Int32 → zIM → zLM → Prop), d1 + 1 ≤ d ∧ zCi l G d1 mX9_takes [.ref 44, .int (124 : Int32)] I L P1 ∧ ∀ (y1 : Int32) (I1 : zIM) (L1 : zLM), P1 y1 I1 L1 → (((y1 = 0 → (P x1 I1 L1)) ∧ (¬ y1 = 0 → (∃ (d3 : Nat) (P3 : Int32 → zIM → zLM → Prop), d3 + 1 ≤ d ∧ zCi l G d3 mX9_both [.ref 44] I1 L1 P3 ∧ ∀ (y3 : Int32) (I3 : zIM) (L3 : zLM), P3 y3 I3 L3 → (((¬ x1 = 0 → (K_X9_either_5 l G d P I3 L3 (1 : Int32))) ∧ (x1 = 0 → (((y3 = 0 → (K_X9_either_5 l G d P I3 L3 (0 : Int32))) ∧ (¬ y3 = 0 → (K_X9_either_5 l G d P I3 L3 (1 : Int32))))))))))))) : K_X9_either_5 l G d P I L x1  := by
  refine z_aload_n (pc' := 6) (x := 44) dX9_either_5 rfl rfl ?_
  refine z_bipush (pc' := 8) (v := 124) dX9_either_6 rfl (by decide) ?_
  obtain ⟨d1, P1, hd1, hC1, h⟩ := h
  refine z_callV (pc' := 11) (M' := mX9_takes) (As := [.int (124 : Int32)]) dX9_either_8 rfl ml_X9_166 me_X9_takes hC1 rfl (by decide) rfl rfl hd1 (Nat.le_of_ble_eq_true rfl) ⟨Nat.le_refl _, Nat.le_refl _⟩ rfl ?_
  rintro _ _ ⟨y1, I1, L1, rfl, rfl, hP1⟩
  replace h := h y1 I1 L1 hP1
  refine z_if_eq (pc' := 14) (tgt := 36) dX9_either_11 rfl (by decide) (fun c2 => ?_) (fun c2 => ?_)
  · replace h := h.1 c2
    refine z_iload_n (pc' := 37) (x := x1) dX9_either_36 rfl rfl ?_
    exact z_iret dX9_either_37 rfl rfl ⟨Nat.le_refl _, Nat.le_refl _⟩ ⟨_, _, _, rfl, rfl, h⟩
  · replace h := h.2 c2
    refine z_aload_n (pc' := 15) (x := 44) dX9_either_14 rfl rfl ?_
    obtain ⟨d3, P3, hd3, hC3, h⟩ := h
    refine z_callV (pc' := 18) (M' := mX9_both) (As := []) dX9_either_15 rfl ml_X9_163 me_X9_both hC3 rfl (by decide) rfl rfl hd3 (Nat.le_of_ble_eq_true rfl) ⟨Nat.le_refl _, Nat.le_refl _⟩ rfl ?_
    rintro _ _ ⟨y3, I3, L3, rfl, rfl, hP3⟩
    replace h := h y3 I3 L3 hP3
    refine z_istore_n (pc' := 19) (ls' := [some (.ref 44), some (.int x1), some (.int y3)]) dX9_either_18 rfl (by decide) rfl ?_
    refine z_iload_n (pc' := 20) (x := x1) dX9_either_19 rfl rfl ?_
    refine z_if_ne (pc' := 23) (tgt := 27) dX9_either_20 rfl (by decide) (fun c4 => ?_) (fun c4 => ?_)
    · replace h := h.1 c4
      refine z_iconst (pc' := 28) (v := 1) dX9_either_27 rfl (by decide) ?_
      refine z_goto (pc' := 32) dX9_either_28 (by decide) ?_
      refine z_istore_n (pc' := 33) (ls' := [some (.ref 44), some (.int (1 : Int32)), some (.int y3)]) dX9_either_32 rfl (by decide) rfl ?_
      refine z_goto (pc' := 5) dX9_either_33 (by decide) ?_
      refine z_sub (pc' := 0) [some (.ref 44), some (.int (1 : Int32)), none] (zsub_s (zsub_s (zsub_n zsub_nil))) ?_
      exact h
    · replace h := h.2 c4
      refine z_iload_n (pc' := 24) (x := y3) dX9_either_23 rfl rfl ?_
      refine z_if_eq (pc' := 27) (tgt := 31) dX9_either_24 rfl (by decide) (fun c5 => ?_) (fun c5 => ?_)
      · replace h := h.1 c5
        refine z_iconst (pc' := 32) (v := 0) dX9_either_31 rfl (by decide) ?_
        refine z_istore_n (pc' := 33) (ls' := [some (.ref 44), some (.int (0 : Int32)), some (.int y3)]) dX9_either_32 rfl (by decide) rfl ?_
        refine z_goto (pc' := 5) dX9_either_33 (by decide) ?_
        refine z_sub (pc' := 0) [some (.ref 44), some (.int (0 : Int32)), none] (zsub_s (zsub_s (zsub_n zsub_nil))) ?_
        exact h
      · replace h := h.2 c5
        refine z_iconst (pc' := 28) (v := 1) dX9_either_27 rfl (by decide) ?_
        refine z_goto (pc' := 32) dX9_either_28 (by decide) ?_
        refine z_istore_n (pc' := 33) (ls' := [some (.ref 44), some (.int (1 : Int32)), some (.int y3)]) dX9_either_32 rfl (by decide) rfl ?_
        refine z_goto (pc' := 5) dX9_either_33 (by decide) ?_
        refine z_sub (pc' := 0) [some (.ref 44), some (.int (1 : Int32)), none] (zsub_s (zsub_s (zsub_n zsub_nil))) ?_
        exact h
set_option maxHeartbeats 4000000 in
set_option maxRecDepth 100000 in
theorem t_X9_both {l : Launch} {G : zG} {d : Nat} {P : Int32 → zIM → zLM → Prop} {I : zIM} {L : zLM}   (h : ∃ (d1 : Nat) (P1 : Int32 → zIM → zLM → Prop), d1 + 1 ≤ d ∧ zCi l G d1 mX9_compared [.ref 44] I L P1 ∧ ∀ (y1 : Int32) (I1 : zIM) (L1 : zLM), P1 y1 I1 L1 → (K_X9_both_5 l G d P I1 L1 y1)) : zCi l G d mX9_both [.ref 44] I L P := by
  refine zCn.of (ls := [some (.ref 44), none, none]) (by decide) (Nat.le_of_ble_eq_true rfl) rfl ?_
  refine z_aload_n (pc' := 1) (x := 44) dX9_both_0 rfl rfl ?_
  obtain ⟨d1, P1, hd1, hC1, h⟩ := h
  refine z_callV (pc' := 4) (M' := mX9_compared) (As := []) dX9_both_1 rfl ml_X9_169 me_X9_compared hC1 rfl (by decide) rfl rfl hd1 (Nat.le_of_ble_eq_true rfl) ⟨Nat.le_refl _, Nat.le_refl _⟩ rfl ?_
  rintro _ _ ⟨y1, I1, L1, rfl, rfl, hP1⟩
  replace h := h y1 I1 L1 hP1
  refine z_istore_n (pc' := 5) (ls' := [some (.ref 44), some (.int y1), none]) dX9_both_4 rfl (by decide) rfl ?_
  exact h
set_option maxHeartbeats 4000000 in
set_option maxRecDepth 100000 in
theorem t_X9_both_5 {l : Launch} {G : zG} {d : Nat} {P : Int32 → zIM → zLM → Prop} {I : zIM} {L : zLM} {x1 : Int32}   (h : ∃ (d1 : Nat) (P1 : Int32 → zIM → zLM → Prop), d1 + 1 ≤ d ∧ zCi l G d1 mX9_takes [.ref 44, .int (38 : Int32)] I L P1 ∧ ∀ (y1 : Int32) (I1 : zIM) (L1 : zLM), P1 y1 I1 L1 → (((y1 = 0 → (P x1 I1 L1)) ∧ (¬ y1 = 0 → (∃ (d3 : Nat) (P3 : Int32 → zIM → zLM → Prop), d3 + 1 ≤ d ∧ zCi l G d3 mX9_compared [.ref 44] I1 L1 P3 ∧ ∀ (y3 : Int32) (I3 : zIM) (L3 : zLM), P3 y3 I3 L3 → (((x1 = 0 → (K_X9_both_5 l G d P I3 L3 (0 : Int32))) ∧ (¬ x1 = 0 → (((y3 = 0 → (K_X9_both_5 l G d P I3 L3 (0 : Int32))) ∧ (¬ y3 = 0 → (K_X9_both_5 l G d P I3 L3 (1 : Int32))))))))))))) : K_X9_both_5 l G d P I L x1  := by
  refine z_aload_n (pc' := 6) (x := 44) dX9_both_5 rfl rfl ?_
  refine z_bipush (pc' := 8) (v := 38) dX9_both_6 rfl (by decide) ?_
  obtain ⟨d1, P1, hd1, hC1, h⟩ := h
  refine z_callV (pc' := 11) (M' := mX9_takes) (As := [.int (38 : Int32)]) dX9_both_8 rfl ml_X9_166 me_X9_takes hC1 rfl (by decide) rfl rfl hd1 (Nat.le_of_ble_eq_true rfl) ⟨Nat.le_refl _, Nat.le_refl _⟩ rfl ?_
  rintro _ _ ⟨y1, I1, L1, rfl, rfl, hP1⟩
  replace h := h y1 I1 L1 hP1
  refine z_if_eq (pc' := 14) (tgt := 36) dX9_both_11 rfl (by decide) (fun c2 => ?_) (fun c2 => ?_)
  · replace h := h.1 c2
    refine z_iload_n (pc' := 37) (x := x1) dX9_both_36 rfl rfl ?_
    exact z_iret dX9_both_37 rfl rfl ⟨Nat.le_refl _, Nat.le_refl _⟩ ⟨_, _, _, rfl, rfl, h⟩
  · replace h := h.2 c2
    refine z_aload_n (pc' := 15) (x := 44) dX9_both_14 rfl rfl ?_
    obtain ⟨d3, P3, hd3, hC3, h⟩ := h
    refine z_callV (pc' := 18) (M' := mX9_compared) (As := []) dX9_both_15 rfl ml_X9_169 me_X9_compared hC3 rfl (by decide) rfl rfl hd3 (Nat.le_of_ble_eq_true rfl) ⟨Nat.le_refl _, Nat.le_refl _⟩ rfl ?_
    rintro _ _ ⟨y3, I3, L3, rfl, rfl, hP3⟩
    replace h := h y3 I3 L3 hP3
    refine z_istore_n (pc' := 19) (ls' := [some (.ref 44), some (.int x1), some (.int y3)]) dX9_both_18 rfl (by decide) rfl ?_
    refine z_iload_n (pc' := 20) (x := x1) dX9_both_19 rfl rfl ?_
    refine z_if_eq (pc' := 23) (tgt := 31) dX9_both_20 rfl (by decide) (fun c4 => ?_) (fun c4 => ?_)
    · replace h := h.1 c4
      refine z_iconst (pc' := 32) (v := 0) dX9_both_31 rfl (by decide) ?_
      refine z_istore_n (pc' := 33) (ls' := [some (.ref 44), some (.int (0 : Int32)), some (.int y3)]) dX9_both_32 rfl (by decide) rfl ?_
      refine z_goto (pc' := 5) dX9_both_33 (by decide) ?_
      refine z_sub (pc' := 0) [some (.ref 44), some (.int (0 : Int32)), none] (zsub_s (zsub_s (zsub_n zsub_nil))) ?_
      exact h
    · replace h := h.2 c4
      refine z_iload_n (pc' := 24) (x := y3) dX9_both_23 rfl rfl ?_
      refine z_if_eq (pc' := 27) (tgt := 31) dX9_both_24 rfl (by decide) (fun c5 => ?_) (fun c5 => ?_)
      · replace h := h.1 c5
        refine z_iconst (pc' := 32) (v := 0) dX9_both_31 rfl (by decide) ?_
        refine z_istore_n (pc' := 33) (ls' := [some (.ref 44), some (.int (0 : Int32)), some (.int y3)]) dX9_both_32 rfl (by decide) rfl ?_
        refine z_goto (pc' := 5) dX9_both_33 (by decide) ?_
        refine z_sub (pc' := 0) [some (.ref 44), some (.int (0 : Int32)), none] (zsub_s (zsub_s (zsub_n zsub_nil))) ?_
        exact h
      · replace h := h.2 c5
        refine z_iconst (pc' := 28) (v := 1) dX9_both_27 rfl (by decide) ?_
        refine z_goto (pc' := 32) dX9_both_28 (by decide) ?_
        refine z_istore_n (pc' := 33) (ls' := [some (.ref 44), some (.int (1 : Int32)), some (.int y3)]) dX9_both_32 rfl (by decide) rfl ?_
        refine z_goto (pc' := 5) dX9_both_33 (by decide) ?_
        refine z_sub (pc' := 0) [some (.ref 44), some (.int (1 : Int32)), none] (zsub_s (zsub_s (zsub_n zsub_nil))) ?_
        exact h
set_option maxHeartbeats 4000000 in
set_option maxRecDepth 100000 in
theorem t_X9_compared {l : Launch} {G : zG} {d : Nat} {P : Int32 → zIM → zLM → Prop} {I : zIM} {L : zLM}   (h : ∃ (d1 : Nat) (P1 : Int32 → zIM → zLM → Prop), d1 + 1 ≤ d ∧ zCi l G d1 mX9_sums [.ref 44] I L P1 ∧ ∀ (y1 : Int32) (I1 : zIM) (L1 : zLM), P1 y1 I1 L1 → (∃ (d2 : Nat) (P2 : Int32 → zIM → zLM → Prop), d2 + 1 ≤ d ∧ zCi l G d2 mX9_byteAt [.ref 44] I1 L1 P2 ∧ ∀ (y2 : Int32) (I2 : zIM) (L2 : zLM), P2 y2 I2 L2 → (((0 ≤ (I2 44 19) → (P y1 I2 L2)) ∧ (¬ 0 ≤ (I2 44 19) → (((y2 = (60 : Int32) → (K_X9_compared_37 l G d P I2 L2 y1 y2)) ∧ (¬ y2 = (60 : Int32) → (((y2 = (61 : Int32) → (K_X9_compared_37 l G d P I2 L2 y1 y2)) ∧ (¬ y2 = (61 : Int32) → (((y2 = (62 : Int32) → (K_X9_compared_37 l G d P I2 L2 y1 y2)) ∧ (¬ y2 = (62 : Int32) → (P y1 I2 L2))))))))))))))) : zCi l G d mX9_compared [.ref 44] I L P := by
  refine zCn.of (ls := [some (.ref 44), none, none, none]) (by decide) (Nat.le_of_ble_eq_true rfl) rfl ?_
  refine z_aload_n (pc' := 1) (x := 44) dX9_compared_0 rfl rfl ?_
  obtain ⟨d1, P1, hd1, hC1, h⟩ := h
  refine z_callV (pc' := 4) (M' := mX9_sums) (As := []) dX9_compared_1 rfl ml_X9_172 me_X9_sums hC1 rfl (by decide) rfl rfl hd1 (Nat.le_of_ble_eq_true rfl) ⟨Nat.le_refl _, Nat.le_refl _⟩ rfl ?_
  rintro _ _ ⟨y1, I1, L1, rfl, rfl, hP1⟩
  replace h := h y1 I1 L1 hP1
  refine z_istore_n (pc' := 5) (ls' := [some (.ref 44), some (.int y1), none, none]) dX9_compared_4 rfl (by decide) rfl ?_
  refine z_aload_n (pc' := 6) (x := 44) dX9_compared_5 rfl rfl ?_
  obtain ⟨d2, P2, hd2, hC2, h⟩ := h
  refine z_callV (pc' := 9) (M' := mX9_byteAt) (As := []) dX9_compared_6 rfl ml_X9_159 me_X9_byteAt hC2 rfl (by decide) rfl rfl hd2 (Nat.le_of_ble_eq_true rfl) ⟨Nat.le_refl _, Nat.le_refl _⟩ rfl ?_
  rintro _ _ ⟨y2, I2, L2, rfl, rfl, hP2⟩
  replace h := h y2 I2 L2 hP2
  refine z_istore_n (pc' := 10) (ls' := [some (.ref 44), some (.int y1), some (.int y2), none]) dX9_compared_9 rfl (by decide) rfl ?_
  refine z_aload_n (pc' := 11) (x := 44) dX9_compared_10 rfl rfl ?_
  refine z_geti (pc' := 14) (x := (I2 44 19)) dX9_compared_11 rfl fl_X9_156 rfl rfl rfl ?_
  refine z_if_ge (pc' := 17) (tgt := 35) dX9_compared_14 rfl (by decide) (fun c3 => ?_) (fun c3 => ?_)
  · replace h := h.1 c3
    refine z_iload_n (pc' := 36) (x := y1) dX9_compared_35 rfl rfl ?_
    exact z_iret dX9_compared_36 rfl rfl ⟨Nat.le_refl _, Nat.le_refl _⟩ ⟨_, _, _, rfl, rfl, h⟩
  · replace h := h.2 c3
    refine z_iload_n (pc' := 18) (x := y2) dX9_compared_17 rfl rfl ?_
    refine z_bipush (pc' := 20) (v := 60) dX9_compared_18 rfl (by decide) ?_
    refine z_icmp_eq (pc' := 23) (tgt := 37) dX9_compared_20 rfl (by decide) (fun c4 => ?_) (fun c4 => ?_)
    · replace h := h.1 c4
      exact h
    · replace h := h.2 c4
      refine z_iload_n (pc' := 24) (x := y2) dX9_compared_23 rfl rfl ?_
      refine z_bipush (pc' := 26) (v := 61) dX9_compared_24 rfl (by decide) ?_
      refine z_icmp_eq (pc' := 29) (tgt := 37) dX9_compared_26 rfl (by decide) (fun c5 => ?_) (fun c5 => ?_)
      · replace h := h.1 c5
        exact h
      · replace h := h.2 c5
        refine z_iload_n (pc' := 30) (x := y2) dX9_compared_29 rfl rfl ?_
        refine z_bipush (pc' := 32) (v := 62) dX9_compared_30 rfl (by decide) ?_
        refine z_icmp_eq (pc' := 35) (tgt := 37) dX9_compared_32 rfl (by decide) (fun c6 => ?_) (fun c6 => ?_)
        · replace h := h.1 c6
          exact h
        · replace h := h.2 c6
          refine z_iload_n (pc' := 36) (x := y1) dX9_compared_35 rfl rfl ?_
          exact z_iret dX9_compared_36 rfl rfl ⟨Nat.le_refl _, Nat.le_refl _⟩ ⟨_, _, _, rfl, rfl, h⟩
set_option maxHeartbeats 4000000 in
set_option maxRecDepth 100000 in
theorem t_X9_compared_37 {l : Launch} {G : zG} {d : Nat} {P : Int32 → zIM → zLM → Prop} {I : zIM} {L : zLM} {x1 : Int32} {x2 : Int32}   (h : ∃ (d1 : Nat) (P1 : Int32 → zIM → zLM → Prop), d1 + 1 ≤ d ∧ zCi l G d1 mX9_sums [.ref 44] (xI I 44 17 ((I 44 17) + (1 : Int32))) L P1 ∧ ∀ (y1 : Int32) (I1 : zIM) (L1 : zLM), P1 y1 I1 L1 → (((¬ x2 = (60 : Int32) → (((¬ x2 = (61 : Int32) → (((x1 ≤ y1 → (K_X9_compared_89 l G d P I1 L1)) ∧ (¬ x1 ≤ y1 → (K_X9_compared_85 l G d P I1 L1))))) ∧ (x2 = (61 : Int32) → (((¬ x1 = y1 → (K_X9_compared_89 l G d P I1 L1)) ∧ (x1 = y1 → (K_X9_compared_85 l G d P I1 L1)))))))) ∧ (x2 = (60 : Int32) → (((y1 ≤ x1 → (K_X9_compared_89 l G d P I1 L1)) ∧ (¬ y1 ≤ x1 → (K_X9_compared_85 l G d P I1 L1)))))))) : K_X9_compared_37 l G d P I L x1 x2  := by
  refine z_aload_n (pc' := 38) (x := 44) dX9_compared_37 rfl rfl ?_
  refine z_dup (pc' := 39) dX9_compared_38 rfl rfl ?_
  refine z_geti (pc' := 42) (x := (I 44 17)) dX9_compared_39 rfl fl_X9_147 rfl rfl rfl ?_
  refine z_iconst (pc' := 43) (v := 1) dX9_compared_42 rfl (by decide) ?_
  refine z_iadd (pc' := 44) dX9_compared_43 rfl ?_
  refine z_puti (pc' := 47) (w' := zs (xI I 44 17 ((I 44 17) + (1 : Int32))) L) dX9_compared_44 rfl fl_X9_147 rfl rfl rfl rfl rfl rfl ?_
  refine z_aload_n (pc' := 48) (x := 44) dX9_compared_47 rfl rfl ?_
  obtain ⟨d1, P1, hd1, hC1, h⟩ := h
  refine z_callV (pc' := 51) (M' := mX9_sums) (As := []) dX9_compared_48 rfl ml_X9_172 me_X9_sums hC1 rfl (by decide) rfl rfl hd1 (Nat.le_of_ble_eq_true rfl) ⟨Nat.le_refl _, Nat.le_refl _⟩ rfl ?_
  rintro _ _ ⟨y1, I1, L1, rfl, rfl, hP1⟩
  replace h := h y1 I1 L1 hP1
  refine z_istore_n (pc' := 52) (ls' := [some (.ref 44), some (.int x1), some (.int x2), some (.int y1)]) dX9_compared_51 rfl (by decide) rfl ?_
  refine z_iload_n (pc' := 53) (x := x2) dX9_compared_52 rfl rfl ?_
  refine z_bipush (pc' := 55) (v := 60) dX9_compared_53 rfl (by decide) ?_
  refine z_icmp_ne (pc' := 58) (tgt := 66) dX9_compared_55 rfl (by decide) (fun c2 => ?_) (fun c2 => ?_)
  · replace h := h.1 c2
    refine z_iload_n (pc' := 67) (x := x2) dX9_compared_66 rfl rfl ?_
    refine z_bipush (pc' := 69) (v := 61) dX9_compared_67 rfl (by decide) ?_
    refine z_icmp_ne (pc' := 72) (tgt := 80) dX9_compared_69 rfl (by decide) (fun c3 => ?_) (fun c3 => ?_)
    · replace h := h.1 c3
      refine z_iload_n (pc' := 81) (x := x1) dX9_compared_80 rfl rfl ?_
      refine z_iload_n (pc' := 82) (x := y1) dX9_compared_81 rfl rfl ?_
      refine z_icmp_le (pc' := 85) (tgt := 89) dX9_compared_82 rfl (by decide) (fun c4 => ?_) (fun c4 => ?_)
      · replace h := h.1 c4
        refine z_sub (pc' := 0) [none, none, none, none] (zsub_n (zsub_n (zsub_n (zsub_n zsub_nil)))) ?_
        exact h
      · replace h := h.2 c4
        refine z_sub (pc' := 0) [none, none, none, none] (zsub_n (zsub_n (zsub_n (zsub_n zsub_nil)))) ?_
        exact h
    · replace h := h.2 c3
      refine z_iload_n (pc' := 73) (x := x1) dX9_compared_72 rfl rfl ?_
      refine z_iload_n (pc' := 74) (x := y1) dX9_compared_73 rfl rfl ?_
      refine z_icmp_ne (pc' := 77) (tgt := 89) dX9_compared_74 rfl (by decide) (fun c5 => ?_) (fun c5 => ?_)
      · replace h := h.1 c5
        refine z_sub (pc' := 0) [none, none, none, none] (zsub_n (zsub_n (zsub_n (zsub_n zsub_nil)))) ?_
        exact h
      · replace h := h.2 c5
        refine z_goto (pc' := 85) dX9_compared_77 (by decide) ?_
        refine z_sub (pc' := 0) [none, none, none, none] (zsub_n (zsub_n (zsub_n (zsub_n zsub_nil)))) ?_
        exact h
  · replace h := h.2 c2
    refine z_iload_n (pc' := 59) (x := x1) dX9_compared_58 rfl rfl ?_
    refine z_iload_n (pc' := 60) (x := y1) dX9_compared_59 rfl rfl ?_
    refine z_icmp_ge (pc' := 63) (tgt := 89) dX9_compared_60 rfl (by decide) (fun c6 => ?_) (fun c6 => ?_)
    · replace h := h.1 c6
      refine z_sub (pc' := 0) [none, none, none, none] (zsub_n (zsub_n (zsub_n (zsub_n zsub_nil)))) ?_
      exact h
    · replace h := h.2 c6
      refine z_goto (pc' := 85) dX9_compared_63 (by decide) ?_
      refine z_sub (pc' := 0) [none, none, none, none] (zsub_n (zsub_n (zsub_n (zsub_n zsub_nil)))) ?_
      exact h
set_option maxHeartbeats 4000000 in
set_option maxRecDepth 100000 in
theorem t_X9_compared_89 {l : Launch} {G : zG} {d : Nat} {P : Int32 → zIM → zLM → Prop} {I : zIM} {L : zLM}    (h : K_X9_compared_90 l G d P I L  (0 : Int32)) : K_X9_compared_89 l G d P I L   := by
  refine z_iconst (pc' := 90) (v := 0) dX9_compared_89 rfl (by decide) ?_
  exact h
set_option maxHeartbeats 4000000 in
set_option maxRecDepth 100000 in
theorem t_X9_compared_85 {l : Launch} {G : zG} {d : Nat} {P : Int32 → zIM → zLM → Prop} {I : zIM} {L : zLM}    (h : K_X9_compared_90 l G d P I L  (1 : Int32)) : K_X9_compared_85 l G d P I L   := by
  refine z_iconst (pc' := 86) (v := 1) dX9_compared_85 rfl (by decide) ?_
  refine z_goto (pc' := 90) dX9_compared_86 (by decide) ?_
  exact h
set_option maxHeartbeats 4000000 in
set_option maxRecDepth 100000 in
theorem t_X9_compared_90 {l : Launch} {G : zG} {d : Nat} {P : Int32 → zIM → zLM → Prop} {I : zIM} {L : zLM} {s0 : Int32}   (h : P s0 I L) : K_X9_compared_90 l G d P I L s0  := by
  exact z_iret dX9_compared_90 rfl rfl ⟨Nat.le_refl _, Nat.le_refl _⟩ ⟨_, _, _, rfl, rfl, h⟩
set_option maxHeartbeats 4000000 in
set_option maxRecDepth 100000 in
theorem t_X9_sums {l : Launch} {G : zG} {d : Nat} {P : Int32 → zIM → zLM → Prop} {I : zIM} {L : zLM}   (h : ∃ (d1 : Nat) (P1 : Int32 → zIM → zLM → Prop), d1 + 1 ≤ d ∧ zCi l G d1 mX9_product [.ref 44] I L P1 ∧ ∀ (y1 : Int32) (I1 : zIM) (L1 : zLM), P1 y1 I1 L1 → (K_X9_sums_5 l G d P I1 L1 y1)) : zCi l G d mX9_sums [.ref 44] I L P := by
  refine zCn.of (ls := [some (.ref 44), none, none, none]) (by decide) (Nat.le_of_ble_eq_true rfl) rfl ?_
  refine z_aload_n (pc' := 1) (x := 44) dX9_sums_0 rfl rfl ?_
  obtain ⟨d1, P1, hd1, hC1, h⟩ := h
  refine z_callV (pc' := 4) (M' := mX9_product) (As := []) dX9_sums_1 rfl ml_X9_175 me_X9_product hC1 rfl (by decide) rfl rfl hd1 (Nat.le_of_ble_eq_true rfl) ⟨Nat.le_refl _, Nat.le_refl _⟩ rfl ?_
  rintro _ _ ⟨y1, I1, L1, rfl, rfl, hP1⟩
  replace h := h y1 I1 L1 hP1
  refine z_istore_n (pc' := 5) (ls' := [some (.ref 44), some (.int y1), none, none]) dX9_sums_4 rfl (by decide) rfl ?_
  exact h
set_option maxHeartbeats 4000000 in
set_option maxRecDepth 100000 in
theorem t_X9_sums_5 {l : Launch} {G : zG} {d : Nat} {P : Int32 → zIM → zLM → Prop} {I : zIM} {L : zLM} {x1 : Int32}   (h : ((0 ≤ (I 44 19) → (P x1 I L)) ∧ (¬ 0 ≤ (I 44 19) → (∃ (d2 : Nat) (P2 : Int32 → zIM → zLM → Prop), d2 + 1 ≤ d ∧ zCi l G d2 mX9_byteAt [.ref 44] I L P2 ∧ ∀ (y2 : Int32) (I2 : zIM) (L2 : zLM), P2 y2 I2 L2 → (((y2 = (43 : Int32) → (∃ (d4 : Nat) (P4 : Int32 → zIM → zLM → Prop), d4 + 1 ≤ d ∧ zCi l G d4 mX9_byteAt [.ref 44] I2 L2 P4 ∧ ∀ (y4 : Int32) (I4 : zIM) (L4 : zLM), P4 y4 I4 L4 → (((¬ y4 = (43 : Int32) → (∃ (d6 : Nat) (P6 : Int32 → zIM → zLM → Prop), d6 + 1 ≤ d ∧ zCi l G d6 mX9_product [.ref 44] (xI I4 44 17 ((I4 44 17) + (1 : Int32))) L4 P6 ∧ ∀ (y6 : Int32) (I6 : zIM) (L6 : zLM), P6 y6 I6 L6 → (K_X9_sums_5 l G d P I6 L6 (x1 - y6)))) ∧ (y4 = (43 : Int32) → (∃ (d7 : Nat) (P7 : Int32 → zIM → zLM → Prop), d7 + 1 ≤ d ∧ zCi l G d7 mX9_product [.ref 44] (xI I4 44 17 ((I4 44 17) + (1 : Int32))) L4 P7 ∧ ∀ (y7 : Int32) (I7 : zIM) (L7 : zLM), P7 y7 I7 L7 → (K_X9_sums_5 l G d P I7 L7 (x1 + y7)))))))) ∧ (¬ y2 = (43 : Int32) → (∃ (d8 : Nat) (P8 : Int32 → zIM → zLM → Prop), d8 + 1 ≤ d ∧ zCi l G d8 mX9_byteAt [.ref 44] I2 L2 P8 ∧ ∀ (y8 : Int32) (I8 : zIM) (L8 : zLM), P8 y8 I8 L8 → (((¬ y8 = (45 : Int32) → (P x1 I8 L8)) ∧ (y8 = (45 : Int32) → (∃ (d10 : Nat) (P10 : Int32 → zIM → zLM → Prop), d10 + 1 ≤ d ∧ zCi l G d10 mX9_byteAt [.ref 44] I8 L8 P10 ∧ ∀ (y10 : Int32) (I10 : zIM) (L10 : zLM), P10 y10 I10 L10 → (((¬ y10 = (43 : Int32) → (∃ (d12 : Nat) (P12 : Int32 → zIM → zLM → Prop), d12 + 1 ≤ d ∧ zCi l G d12 mX9_product [.ref 44] (xI I10 44 17 ((I10 44 17) + (1 : Int32))) L10 P12 ∧ ∀ (y12 : Int32) (I12 : zIM) (L12 : zLM), P12 y12 I12 L12 → (K_X9_sums_5 l G d P I12 L12 (x1 - y12)))) ∧ (y10 = (43 : Int32) → (∃ (d13 : Nat) (P13 : Int32 → zIM → zLM → Prop), d13 + 1 ≤ d ∧ zCi l G d13 mX9_product [.ref 44] (xI I10 44 17 ((I10 44 17) + (1 : Int32))) L10 P13 ∧ ∀ (y13 : Int32) (I13 : zIM) (L13 : zLM), P13 y13 I13 L13 → (K_X9_sums_5 l G d P I13 L13 (x1 + y13)))))))))))))))))) : K_X9_sums_5 l G d P I L x1  := by
  refine z_aload_n (pc' := 6) (x := 44) dX9_sums_5 rfl rfl ?_
  refine z_geti (pc' := 9) (x := (I 44 19)) dX9_sums_6 rfl fl_X9_156 rfl rfl rfl ?_
  refine z_if_ge (pc' := 12) (tgt := 77) dX9_sums_9 rfl (by decide) (fun c1 => ?_) (fun c1 => ?_)
  · replace h := h.1 c1
    refine z_iload_n (pc' := 78) (x := x1) dX9_sums_77 rfl rfl ?_
    exact z_iret dX9_sums_78 rfl rfl ⟨Nat.le_refl _, Nat.le_refl _⟩ ⟨_, _, _, rfl, rfl, h⟩
  · replace h := h.2 c1
    refine z_aload_n (pc' := 13) (x := 44) dX9_sums_12 rfl rfl ?_
    obtain ⟨d2, P2, hd2, hC2, h⟩ := h
    refine z_callV (pc' := 16) (M' := mX9_byteAt) (As := []) dX9_sums_13 rfl ml_X9_159 me_X9_byteAt hC2 rfl (by decide) rfl rfl hd2 (Nat.le_of_ble_eq_true rfl) ⟨Nat.le_refl _, Nat.le_refl _⟩ rfl ?_
    rintro _ _ ⟨y2, I2, L2, rfl, rfl, hP2⟩
    replace h := h y2 I2 L2 hP2
    refine z_bipush (pc' := 18) (v := 43) dX9_sums_16 rfl (by decide) ?_
    refine z_icmp_eq (pc' := 21) (tgt := 30) dX9_sums_18 rfl (by decide) (fun c3 => ?_) (fun c3 => ?_)
    · replace h := h.1 c3
      refine z_aload_n (pc' := 31) (x := 44) dX9_sums_30 rfl rfl ?_
      obtain ⟨d4, P4, hd4, hC4, h⟩ := h
      refine z_callV (pc' := 34) (M' := mX9_byteAt) (As := []) dX9_sums_31 rfl ml_X9_159 me_X9_byteAt hC4 rfl (by decide) rfl rfl hd4 (Nat.le_of_ble_eq_true rfl) ⟨Nat.le_refl _, Nat.le_refl _⟩ rfl ?_
      rintro _ _ ⟨y4, I4, L4, rfl, rfl, hP4⟩
      replace h := h y4 I4 L4 hP4
      refine z_bipush (pc' := 36) (v := 43) dX9_sums_34 rfl (by decide) ?_
      refine z_icmp_ne (pc' := 39) (tgt := 43) dX9_sums_36 rfl (by decide) (fun c5 => ?_) (fun c5 => ?_)
      · replace h := h.1 c5
        refine z_iconst (pc' := 44) (v := 0) dX9_sums_43 rfl (by decide) ?_
        refine z_istore_n (pc' := 45) (ls' := [some (.ref 44), some (.int x1), some (.int (0 : Int32)), none]) dX9_sums_44 rfl (by decide) rfl ?_
        refine z_aload_n (pc' := 46) (x := 44) dX9_sums_45 rfl rfl ?_
        refine z_dup (pc' := 47) dX9_sums_46 rfl rfl ?_
        refine z_geti (pc' := 50) (x := (I4 44 17)) dX9_sums_47 rfl fl_X9_147 rfl rfl rfl ?_
        refine z_iconst (pc' := 51) (v := 1) dX9_sums_50 rfl (by decide) ?_
        refine z_iadd (pc' := 52) dX9_sums_51 rfl ?_
        refine z_puti (pc' := 55) (w' := zs (xI I4 44 17 ((I4 44 17) + (1 : Int32))) L4) dX9_sums_52 rfl fl_X9_147 rfl rfl rfl rfl rfl rfl ?_
        refine z_aload_n (pc' := 56) (x := 44) dX9_sums_55 rfl rfl ?_
        obtain ⟨d6, P6, hd6, hC6, h⟩ := h
        refine z_callV (pc' := 59) (M' := mX9_product) (As := []) dX9_sums_56 rfl ml_X9_175 me_X9_product hC6 rfl (by decide) rfl rfl hd6 (Nat.le_of_ble_eq_true rfl) ⟨Nat.le_refl _, Nat.le_refl _⟩ rfl ?_
        rintro _ _ ⟨y6, I6, L6, rfl, rfl, hP6⟩
        replace h := h y6 I6 L6 hP6
        refine z_istore_n (pc' := 60) (ls' := [some (.ref 44), some (.int x1), some (.int (0 : Int32)), some (.int y6)]) dX9_sums_59 rfl (by decide) rfl ?_
        refine z_iload_n (pc' := 61) (x := (0 : Int32)) dX9_sums_60 rfl rfl ?_
        refine z_if_eq (pc' := 64) (tgt := 70) dX9_sums_61 rfl (by decide) (fun _ => ?_) (fun c => absurd c (by decide))
        refine z_iload_n (pc' := 71) (x := x1) dX9_sums_70 rfl rfl ?_
        refine z_iload_n (pc' := 72) (x := y6) dX9_sums_71 rfl rfl ?_
        refine z_isub (pc' := 73) dX9_sums_72 rfl ?_
        refine z_istore_n (pc' := 74) (ls' := [some (.ref 44), some (.int (x1 - y6)), some (.int (0 : Int32)), some (.int y6)]) dX9_sums_73 rfl (by decide) rfl ?_
        refine z_goto (pc' := 5) dX9_sums_74 (by decide) ?_
        refine z_sub (pc' := 0) [some (.ref 44), some (.int (x1 - y6)), none, none] (zsub_s (zsub_s (zsub_n (zsub_n zsub_nil)))) ?_
        exact h
      · replace h := h.2 c5
        refine z_iconst (pc' := 40) (v := 1) dX9_sums_39 rfl (by decide) ?_
        refine z_goto (pc' := 44) dX9_sums_40 (by decide) ?_
        refine z_istore_n (pc' := 45) (ls' := [some (.ref 44), some (.int x1), some (.int (1 : Int32)), none]) dX9_sums_44 rfl (by decide) rfl ?_
        refine z_aload_n (pc' := 46) (x := 44) dX9_sums_45 rfl rfl ?_
        refine z_dup (pc' := 47) dX9_sums_46 rfl rfl ?_
        refine z_geti (pc' := 50) (x := (I4 44 17)) dX9_sums_47 rfl fl_X9_147 rfl rfl rfl ?_
        refine z_iconst (pc' := 51) (v := 1) dX9_sums_50 rfl (by decide) ?_
        refine z_iadd (pc' := 52) dX9_sums_51 rfl ?_
        refine z_puti (pc' := 55) (w' := zs (xI I4 44 17 ((I4 44 17) + (1 : Int32))) L4) dX9_sums_52 rfl fl_X9_147 rfl rfl rfl rfl rfl rfl ?_
        refine z_aload_n (pc' := 56) (x := 44) dX9_sums_55 rfl rfl ?_
        obtain ⟨d7, P7, hd7, hC7, h⟩ := h
        refine z_callV (pc' := 59) (M' := mX9_product) (As := []) dX9_sums_56 rfl ml_X9_175 me_X9_product hC7 rfl (by decide) rfl rfl hd7 (Nat.le_of_ble_eq_true rfl) ⟨Nat.le_refl _, Nat.le_refl _⟩ rfl ?_
        rintro _ _ ⟨y7, I7, L7, rfl, rfl, hP7⟩
        replace h := h y7 I7 L7 hP7
        refine z_istore_n (pc' := 60) (ls' := [some (.ref 44), some (.int x1), some (.int (1 : Int32)), some (.int y7)]) dX9_sums_59 rfl (by decide) rfl ?_
        refine z_iload_n (pc' := 61) (x := (1 : Int32)) dX9_sums_60 rfl rfl ?_
        refine z_if_eq (pc' := 64) (tgt := 70) dX9_sums_61 rfl (by decide) (fun c => absurd c (by decide)) (fun _ => ?_)
        refine z_iload_n (pc' := 65) (x := x1) dX9_sums_64 rfl rfl ?_
        refine z_iload_n (pc' := 66) (x := y7) dX9_sums_65 rfl rfl ?_
        refine z_iadd (pc' := 67) dX9_sums_66 rfl ?_
        refine z_goto (pc' := 73) dX9_sums_67 (by decide) ?_
        refine z_istore_n (pc' := 74) (ls' := [some (.ref 44), some (.int (x1 + y7)), some (.int (1 : Int32)), some (.int y7)]) dX9_sums_73 rfl (by decide) rfl ?_
        refine z_goto (pc' := 5) dX9_sums_74 (by decide) ?_
        refine z_sub (pc' := 0) [some (.ref 44), some (.int (x1 + y7)), none, none] (zsub_s (zsub_s (zsub_n (zsub_n zsub_nil)))) ?_
        exact h
    · replace h := h.2 c3
      refine z_aload_n (pc' := 22) (x := 44) dX9_sums_21 rfl rfl ?_
      obtain ⟨d8, P8, hd8, hC8, h⟩ := h
      refine z_callV (pc' := 25) (M' := mX9_byteAt) (As := []) dX9_sums_22 rfl ml_X9_159 me_X9_byteAt hC8 rfl (by decide) rfl rfl hd8 (Nat.le_of_ble_eq_true rfl) ⟨Nat.le_refl _, Nat.le_refl _⟩ rfl ?_
      rintro _ _ ⟨y8, I8, L8, rfl, rfl, hP8⟩
      replace h := h y8 I8 L8 hP8
      refine z_bipush (pc' := 27) (v := 45) dX9_sums_25 rfl (by decide) ?_
      refine z_icmp_ne (pc' := 30) (tgt := 77) dX9_sums_27 rfl (by decide) (fun c9 => ?_) (fun c9 => ?_)
      · replace h := h.1 c9
        refine z_iload_n (pc' := 78) (x := x1) dX9_sums_77 rfl rfl ?_
        exact z_iret dX9_sums_78 rfl rfl ⟨Nat.le_refl _, Nat.le_refl _⟩ ⟨_, _, _, rfl, rfl, h⟩
      · replace h := h.2 c9
        refine z_aload_n (pc' := 31) (x := 44) dX9_sums_30 rfl rfl ?_
        obtain ⟨d10, P10, hd10, hC10, h⟩ := h
        refine z_callV (pc' := 34) (M' := mX9_byteAt) (As := []) dX9_sums_31 rfl ml_X9_159 me_X9_byteAt hC10 rfl (by decide) rfl rfl hd10 (Nat.le_of_ble_eq_true rfl) ⟨Nat.le_refl _, Nat.le_refl _⟩ rfl ?_
        rintro _ _ ⟨y10, I10, L10, rfl, rfl, hP10⟩
        replace h := h y10 I10 L10 hP10
        refine z_bipush (pc' := 36) (v := 43) dX9_sums_34 rfl (by decide) ?_
        refine z_icmp_ne (pc' := 39) (tgt := 43) dX9_sums_36 rfl (by decide) (fun c11 => ?_) (fun c11 => ?_)
        · replace h := h.1 c11
          refine z_iconst (pc' := 44) (v := 0) dX9_sums_43 rfl (by decide) ?_
          refine z_istore_n (pc' := 45) (ls' := [some (.ref 44), some (.int x1), some (.int (0 : Int32)), none]) dX9_sums_44 rfl (by decide) rfl ?_
          refine z_aload_n (pc' := 46) (x := 44) dX9_sums_45 rfl rfl ?_
          refine z_dup (pc' := 47) dX9_sums_46 rfl rfl ?_
          refine z_geti (pc' := 50) (x := (I10 44 17)) dX9_sums_47 rfl fl_X9_147 rfl rfl rfl ?_
          refine z_iconst (pc' := 51) (v := 1) dX9_sums_50 rfl (by decide) ?_
          refine z_iadd (pc' := 52) dX9_sums_51 rfl ?_
          refine z_puti (pc' := 55) (w' := zs (xI I10 44 17 ((I10 44 17) + (1 : Int32))) L10) dX9_sums_52 rfl fl_X9_147 rfl rfl rfl rfl rfl rfl ?_
          refine z_aload_n (pc' := 56) (x := 44) dX9_sums_55 rfl rfl ?_
          obtain ⟨d12, P12, hd12, hC12, h⟩ := h
          refine z_callV (pc' := 59) (M' := mX9_product) (As := []) dX9_sums_56 rfl ml_X9_175 me_X9_product hC12 rfl (by decide) rfl rfl hd12 (Nat.le_of_ble_eq_true rfl) ⟨Nat.le_refl _, Nat.le_refl _⟩ rfl ?_
          rintro _ _ ⟨y12, I12, L12, rfl, rfl, hP12⟩
          replace h := h y12 I12 L12 hP12
          refine z_istore_n (pc' := 60) (ls' := [some (.ref 44), some (.int x1), some (.int (0 : Int32)), some (.int y12)]) dX9_sums_59 rfl (by decide) rfl ?_
          refine z_iload_n (pc' := 61) (x := (0 : Int32)) dX9_sums_60 rfl rfl ?_
          refine z_if_eq (pc' := 64) (tgt := 70) dX9_sums_61 rfl (by decide) (fun _ => ?_) (fun c => absurd c (by decide))
          refine z_iload_n (pc' := 71) (x := x1) dX9_sums_70 rfl rfl ?_
          refine z_iload_n (pc' := 72) (x := y12) dX9_sums_71 rfl rfl ?_
          refine z_isub (pc' := 73) dX9_sums_72 rfl ?_
          refine z_istore_n (pc' := 74) (ls' := [some (.ref 44), some (.int (x1 - y12)), some (.int (0 : Int32)), some (.int y12)]) dX9_sums_73 rfl (by decide) rfl ?_
          refine z_goto (pc' := 5) dX9_sums_74 (by decide) ?_
          refine z_sub (pc' := 0) [some (.ref 44), some (.int (x1 - y12)), none, none] (zsub_s (zsub_s (zsub_n (zsub_n zsub_nil)))) ?_
          exact h
        · replace h := h.2 c11
          refine z_iconst (pc' := 40) (v := 1) dX9_sums_39 rfl (by decide) ?_
          refine z_goto (pc' := 44) dX9_sums_40 (by decide) ?_
          refine z_istore_n (pc' := 45) (ls' := [some (.ref 44), some (.int x1), some (.int (1 : Int32)), none]) dX9_sums_44 rfl (by decide) rfl ?_
          refine z_aload_n (pc' := 46) (x := 44) dX9_sums_45 rfl rfl ?_
          refine z_dup (pc' := 47) dX9_sums_46 rfl rfl ?_
          refine z_geti (pc' := 50) (x := (I10 44 17)) dX9_sums_47 rfl fl_X9_147 rfl rfl rfl ?_
          refine z_iconst (pc' := 51) (v := 1) dX9_sums_50 rfl (by decide) ?_
          refine z_iadd (pc' := 52) dX9_sums_51 rfl ?_
          refine z_puti (pc' := 55) (w' := zs (xI I10 44 17 ((I10 44 17) + (1 : Int32))) L10) dX9_sums_52 rfl fl_X9_147 rfl rfl rfl rfl rfl rfl ?_
          refine z_aload_n (pc' := 56) (x := 44) dX9_sums_55 rfl rfl ?_
          obtain ⟨d13, P13, hd13, hC13, h⟩ := h
          refine z_callV (pc' := 59) (M' := mX9_product) (As := []) dX9_sums_56 rfl ml_X9_175 me_X9_product hC13 rfl (by decide) rfl rfl hd13 (Nat.le_of_ble_eq_true rfl) ⟨Nat.le_refl _, Nat.le_refl _⟩ rfl ?_
          rintro _ _ ⟨y13, I13, L13, rfl, rfl, hP13⟩
          replace h := h y13 I13 L13 hP13
          refine z_istore_n (pc' := 60) (ls' := [some (.ref 44), some (.int x1), some (.int (1 : Int32)), some (.int y13)]) dX9_sums_59 rfl (by decide) rfl ?_
          refine z_iload_n (pc' := 61) (x := (1 : Int32)) dX9_sums_60 rfl rfl ?_
          refine z_if_eq (pc' := 64) (tgt := 70) dX9_sums_61 rfl (by decide) (fun c => absurd c (by decide)) (fun _ => ?_)
          refine z_iload_n (pc' := 65) (x := x1) dX9_sums_64 rfl rfl ?_
          refine z_iload_n (pc' := 66) (x := y13) dX9_sums_65 rfl rfl ?_
          refine z_iadd (pc' := 67) dX9_sums_66 rfl ?_
          refine z_goto (pc' := 73) dX9_sums_67 (by decide) ?_
          refine z_istore_n (pc' := 74) (ls' := [some (.ref 44), some (.int (x1 + y13)), some (.int (1 : Int32)), some (.int y13)]) dX9_sums_73 rfl (by decide) rfl ?_
          refine z_goto (pc' := 5) dX9_sums_74 (by decide) ?_
          refine z_sub (pc' := 0) [some (.ref 44), some (.int (x1 + y13)), none, none] (zsub_s (zsub_s (zsub_n (zsub_n zsub_nil)))) ?_
          exact h
set_option maxHeartbeats 4000000 in
set_option maxRecDepth 100000 in
theorem t_X9_product {l : Launch} {G : zG} {d : Nat} {P : Int32 → zIM → zLM → Prop} {I : zIM} {L : zLM}   (h : ∃ (d1 : Nat) (P1 : Int32 → zIM → zLM → Prop), d1 + 1 ≤ d ∧ zCi l G d1 mX9_one [.ref 44] I L P1 ∧ ∀ (y1 : Int32) (I1 : zIM) (L1 : zLM), P1 y1 I1 L1 → (∃ (d2 : Nat) (P2 : Int32 → zIM → zLM → Prop), d2 + 1 ≤ d ∧ zCi l G d2 mX9_byteAt [.ref 44] I1 L1 P2 ∧ ∀ (y2 : Int32) (I2 : zIM) (L2 : zLM), P2 y2 I2 L2 → (K_X9_product_10 l G d P I2 L2 y1 y2))) : zCi l G d mX9_product [.ref 44] I L P := by
  refine zCn.of (ls := [some (.ref 44), none, none, none]) (by decide) (Nat.le_of_ble_eq_true rfl) rfl ?_
  refine z_aload_n (pc' := 1) (x := 44) dX9_product_0 rfl rfl ?_
  obtain ⟨d1, P1, hd1, hC1, h⟩ := h
  refine z_callV (pc' := 4) (M' := mX9_one) (As := []) dX9_product_1 rfl ml_X9_178 me_X9_one hC1 rfl (by decide) rfl rfl hd1 (Nat.le_of_ble_eq_true rfl) ⟨Nat.le_refl _, Nat.le_refl _⟩ rfl ?_
  rintro _ _ ⟨y1, I1, L1, rfl, rfl, hP1⟩
  replace h := h y1 I1 L1 hP1
  refine z_istore_n (pc' := 5) (ls' := [some (.ref 44), some (.int y1), none, none]) dX9_product_4 rfl (by decide) rfl ?_
  refine z_aload_n (pc' := 6) (x := 44) dX9_product_5 rfl rfl ?_
  obtain ⟨d2, P2, hd2, hC2, h⟩ := h
  refine z_callV (pc' := 9) (M' := mX9_byteAt) (As := []) dX9_product_6 rfl ml_X9_159 me_X9_byteAt hC2 rfl (by decide) rfl rfl hd2 (Nat.le_of_ble_eq_true rfl) ⟨Nat.le_refl _, Nat.le_refl _⟩ rfl ?_
  rintro _ _ ⟨y2, I2, L2, rfl, rfl, hP2⟩
  replace h := h y2 I2 L2 hP2
  refine z_istore_n (pc' := 10) (ls' := [some (.ref 44), some (.int y1), some (.int y2), none]) dX9_product_9 rfl (by decide) rfl ?_
  exact h
set_option maxHeartbeats 4000000 in
set_option maxRecDepth 100000 in
theorem t_X9_product_10 {l : Launch} {G : zG} {d : Nat} {P : Int32 → zIM → zLM → Prop} {I : zIM} {L : zLM} {x1 : Int32} {x2 : Int32}   (h : ((0 ≤ (I 44 19) → (P x1 I L)) ∧ (¬ 0 ≤ (I 44 19) → (((x2 = (42 : Int32) → (K_X9_product_35 l G d P I L x1 x2)) ∧ (¬ x2 = (42 : Int32) → (((x2 = (47 : Int32) → (K_X9_product_35 l G d P I L x1 x2)) ∧ (¬ x2 = (47 : Int32) → (((¬ x2 = (37 : Int32) → (P x1 I L)) ∧ (x2 = (37 : Int32) → (K_X9_product_35 l G d P I L x1 x2))))))))))))) : K_X9_product_10 l G d P I L x1 x2  := by
  refine z_aload_n (pc' := 11) (x := 44) dX9_product_10 rfl rfl ?_
  refine z_geti (pc' := 14) (x := (I 44 19)) dX9_product_11 rfl fl_X9_156 rfl rfl rfl ?_
  refine z_if_ge (pc' := 17) (tgt := 94) dX9_product_14 rfl (by decide) (fun c1 => ?_) (fun c1 => ?_)
  · replace h := h.1 c1
    refine z_iload_n (pc' := 95) (x := x1) dX9_product_94 rfl rfl ?_
    exact z_iret dX9_product_95 rfl rfl ⟨Nat.le_refl _, Nat.le_refl _⟩ ⟨_, _, _, rfl, rfl, h⟩
  · replace h := h.2 c1
    refine z_iload_n (pc' := 18) (x := x2) dX9_product_17 rfl rfl ?_
    refine z_bipush (pc' := 20) (v := 42) dX9_product_18 rfl (by decide) ?_
    refine z_icmp_eq (pc' := 23) (tgt := 35) dX9_product_20 rfl (by decide) (fun c2 => ?_) (fun c2 => ?_)
    · replace h := h.1 c2
      exact h
    · replace h := h.2 c2
      refine z_iload_n (pc' := 24) (x := x2) dX9_product_23 rfl rfl ?_
      refine z_bipush (pc' := 26) (v := 47) dX9_product_24 rfl (by decide) ?_
      refine z_icmp_eq (pc' := 29) (tgt := 35) dX9_product_26 rfl (by decide) (fun c3 => ?_) (fun c3 => ?_)
      · replace h := h.1 c3
        exact h
      · replace h := h.2 c3
        refine z_iload_n (pc' := 30) (x := x2) dX9_product_29 rfl rfl ?_
        refine z_bipush (pc' := 32) (v := 37) dX9_product_30 rfl (by decide) ?_
        refine z_icmp_ne (pc' := 35) (tgt := 94) dX9_product_32 rfl (by decide) (fun c4 => ?_) (fun c4 => ?_)
        · replace h := h.1 c4
          refine z_iload_n (pc' := 95) (x := x1) dX9_product_94 rfl rfl ?_
          exact z_iret dX9_product_95 rfl rfl ⟨Nat.le_refl _, Nat.le_refl _⟩ ⟨_, _, _, rfl, rfl, h⟩
        · replace h := h.2 c4
          exact h
set_option maxHeartbeats 4000000 in
set_option maxRecDepth 100000 in
theorem t_X9_product_35 {l : Launch} {G : zG} {d : Nat} {P : Int32 → zIM → zLM → Prop} {I : zIM} {L : zLM} {x1 : Int32} {x2 : Int32}   (h : ∃ (d1 : Nat) (P1 : Int32 → zIM → zLM → Prop), d1 + 1 ≤ d ∧ zCi l G d1 mX9_one [.ref 44] (xI I 44 17 ((I 44 17) + (1 : Int32))) L P1 ∧ ∀ (y1 : Int32) (I1 : zIM) (L1 : zLM), P1 y1 I1 L1 → (((¬ x2 = (42 : Int32) → (((¬ y1 = 0 → (((¬ x2 = (47 : Int32) → ((¬ y1 = 0) ∧ (K_X9_product_85 l G d P I1 L1  (x1 % y1)))) ∧ (x2 = (47 : Int32) → ((¬ y1 = 0) ∧ (K_X9_product_85 l G d P I1 L1  (x1 / y1))))))) ∧ (y1 = 0 → (K_X9_product_85 l G d P I1 L1  (0 : Int32)))))) ∧ (x2 = (42 : Int32) → (K_X9_product_85 l G d P I1 L1  (x1 * y1)))))) : K_X9_product_35 l G d P I L x1 x2  := by
  refine z_aload_n (pc' := 36) (x := 44) dX9_product_35 rfl rfl ?_
  refine z_dup (pc' := 37) dX9_product_36 rfl rfl ?_
  refine z_geti (pc' := 40) (x := (I 44 17)) dX9_product_37 rfl fl_X9_147 rfl rfl rfl ?_
  refine z_iconst (pc' := 41) (v := 1) dX9_product_40 rfl (by decide) ?_
  refine z_iadd (pc' := 42) dX9_product_41 rfl ?_
  refine z_puti (pc' := 45) (w' := zs (xI I 44 17 ((I 44 17) + (1 : Int32))) L) dX9_product_42 rfl fl_X9_147 rfl rfl rfl rfl rfl rfl ?_
  refine z_aload_n (pc' := 46) (x := 44) dX9_product_45 rfl rfl ?_
  obtain ⟨d1, P1, hd1, hC1, h⟩ := h
  refine z_callV (pc' := 49) (M' := mX9_one) (As := []) dX9_product_46 rfl ml_X9_178 me_X9_one hC1 rfl (by decide) rfl rfl hd1 (Nat.le_of_ble_eq_true rfl) ⟨Nat.le_refl _, Nat.le_refl _⟩ rfl ?_
  rintro _ _ ⟨y1, I1, L1, rfl, rfl, hP1⟩
  replace h := h y1 I1 L1 hP1
  refine z_istore_n (pc' := 50) (ls' := [some (.ref 44), some (.int x1), some (.int x2), some (.int y1)]) dX9_product_49 rfl (by decide) rfl ?_
  refine z_iload_n (pc' := 51) (x := x2) dX9_product_50 rfl rfl ?_
  refine z_bipush (pc' := 53) (v := 42) dX9_product_51 rfl (by decide) ?_
  refine z_icmp_ne (pc' := 56) (tgt := 62) dX9_product_53 rfl (by decide) (fun c2 => ?_) (fun c2 => ?_)
  · replace h := h.1 c2
    refine z_iload_n (pc' := 63) (x := y1) dX9_product_62 rfl rfl ?_
    refine z_if_ne (pc' := 66) (tgt := 70) dX9_product_63 rfl (by decide) (fun c3 => ?_) (fun c3 => ?_)
    · replace h := h.1 c3
      refine z_iload_n (pc' := 71) (x := x2) dX9_product_70 rfl rfl ?_
      refine z_bipush (pc' := 73) (v := 47) dX9_product_71 rfl (by decide) ?_
      refine z_icmp_ne (pc' := 76) (tgt := 82) dX9_product_73 rfl (by decide) (fun c4 => ?_) (fun c4 => ?_)
      · replace h := h.1 c4
        refine z_iload_n (pc' := 83) (x := x1) dX9_product_82 rfl rfl ?_
        refine z_iload_n (pc' := 84) (x := y1) dX9_product_83 rfl rfl ?_
        obtain ⟨hz5, h⟩ := h
        refine z_irem (pc' := 85) dX9_product_84 rfl hz5 ?_
        refine z_sub (pc' := 0) [some (.ref 44), none, none, none] (zsub_s (zsub_n (zsub_n (zsub_n zsub_nil)))) ?_
        exact h
      · replace h := h.2 c4
        refine z_iload_n (pc' := 77) (x := x1) dX9_product_76 rfl rfl ?_
        refine z_iload_n (pc' := 78) (x := y1) dX9_product_77 rfl rfl ?_
        obtain ⟨hz6, h⟩ := h
        refine z_idiv (pc' := 79) dX9_product_78 rfl hz6 ?_
        refine z_goto (pc' := 85) dX9_product_79 (by decide) ?_
        refine z_sub (pc' := 0) [some (.ref 44), none, none, none] (zsub_s (zsub_n (zsub_n (zsub_n zsub_nil)))) ?_
        exact h
    · replace h := h.2 c3
      refine z_iconst (pc' := 67) (v := 0) dX9_product_66 rfl (by decide) ?_
      refine z_goto (pc' := 85) dX9_product_67 (by decide) ?_
      refine z_sub (pc' := 0) [some (.ref 44), none, none, none] (zsub_s (zsub_n (zsub_n (zsub_n zsub_nil)))) ?_
      exact h
  · replace h := h.2 c2
    refine z_iload_n (pc' := 57) (x := x1) dX9_product_56 rfl rfl ?_
    refine z_iload_n (pc' := 58) (x := y1) dX9_product_57 rfl rfl ?_
    refine z_imul (pc' := 59) dX9_product_58 rfl ?_
    refine z_goto (pc' := 85) dX9_product_59 (by decide) ?_
    refine z_sub (pc' := 0) [some (.ref 44), none, none, none] (zsub_s (zsub_n (zsub_n (zsub_n zsub_nil)))) ?_
    exact h
set_option maxHeartbeats 4000000 in
set_option maxRecDepth 100000 in
theorem t_X9_product_85 {l : Launch} {G : zG} {d : Nat} {P : Int32 → zIM → zLM → Prop} {I : zIM} {L : zLM} {s0 : Int32}   (h : ∃ (d1 : Nat) (P1 : Int32 → zIM → zLM → Prop), d1 + 1 ≤ d ∧ zCi l G d1 mX9_byteAt [.ref 44] I L P1 ∧ ∀ (y1 : Int32) (I1 : zIM) (L1 : zLM), P1 y1 I1 L1 → (K_X9_product_10 l G d P I1 L1 s0 y1)) : K_X9_product_85 l G d P I L s0  := by
  refine z_istore_n (pc' := 86) (ls' := [some (.ref 44), some (.int s0), none, none]) dX9_product_85 rfl (by decide) rfl ?_
  refine z_aload_n (pc' := 87) (x := 44) dX9_product_86 rfl rfl ?_
  obtain ⟨d1, P1, hd1, hC1, h⟩ := h
  refine z_callV (pc' := 90) (M' := mX9_byteAt) (As := []) dX9_product_87 rfl ml_X9_159 me_X9_byteAt hC1 rfl (by decide) rfl rfl hd1 (Nat.le_of_ble_eq_true rfl) ⟨Nat.le_refl _, Nat.le_refl _⟩ rfl ?_
  rintro _ _ ⟨y1, I1, L1, rfl, rfl, hP1⟩
  replace h := h y1 I1 L1 hP1
  refine z_istore_n (pc' := 91) (ls' := [some (.ref 44), some (.int s0), some (.int y1), none]) dX9_product_90 rfl (by decide) rfl ?_
  refine z_goto (pc' := 10) dX9_product_91 (by decide) ?_
  exact h
set_option maxHeartbeats 4000000 in
set_option maxRecDepth 100000 in
theorem t_X9_nameOf {l : Launch} {G : zG} {d : Nat} {P : Int32 → zIM → zLM → Prop} {I : zIM} {L : zLM} {x0 : Int32}  (h : ((x0 = (97 : Int32) → (P (1 : Int32) I L)) ∧ (x0 = (104 : Int32) → (P (0 : Int32) I L)) ∧ (x0 = (109 : Int32) → (P (3 : Int32) I L)) ∧ (x0 = (110 : Int32) → (P (4 : Int32) I L)) ∧ (x0 = (116 : Int32) → (P (2 : Int32) I L)) ∧ (¬ x0 = (97 : Int32) → ¬ x0 = (104 : Int32) → ¬ x0 = (109 : Int32) → ¬ x0 = (110 : Int32) → ¬ x0 = (116 : Int32) → (P (-1 : Int32) I L)))) : zCi l G d mX9_nameOf [.int x0] I L P := by
  refine zCn.of (ls := [some (.int x0)]) (by decide) (Nat.le_of_ble_eq_true rfl) rfl ?_
  refine z_iload_n (pc' := 1) (x := x0) dX9_nameOf_0 rfl rfl ?_
  by_cases c1_0 : x0 = (97 : Int32)
  · replace h := h.1 c1_0
    refine z_lookup (pc' := 54) dX9_nameOf_1 (by decide) (by rw [c1_0]; decide) ?_
    refine z_iconst (pc' := 55) (v := 1) dX9_nameOf_54 rfl (by decide) ?_
    exact z_iret dX9_nameOf_55 rfl rfl ⟨Nat.le_refl _, Nat.le_refl _⟩ ⟨_, _, _, rfl, rfl, h⟩
  by_cases c1_1 : x0 = (104 : Int32)
  · replace h := h.2.1 c1_1
    refine z_lookup (pc' := 52) dX9_nameOf_1 (by decide) (by rw [c1_1]; decide) ?_
    refine z_iconst (pc' := 53) (v := 0) dX9_nameOf_52 rfl (by decide) ?_
    exact z_iret dX9_nameOf_53 rfl rfl ⟨Nat.le_refl _, Nat.le_refl _⟩ ⟨_, _, _, rfl, rfl, h⟩
  by_cases c1_2 : x0 = (109 : Int32)
  · replace h := h.2.2.1 c1_2
    refine z_lookup (pc' := 58) dX9_nameOf_1 (by decide) (by rw [c1_2]; decide) ?_
    refine z_iconst (pc' := 59) (v := 3) dX9_nameOf_58 rfl (by decide) ?_
    exact z_iret dX9_nameOf_59 rfl rfl ⟨Nat.le_refl _, Nat.le_refl _⟩ ⟨_, _, _, rfl, rfl, h⟩
  by_cases c1_3 : x0 = (110 : Int32)
  · replace h := h.2.2.2.1 c1_3
    refine z_lookup (pc' := 60) dX9_nameOf_1 (by decide) (by rw [c1_3]; decide) ?_
    refine z_iconst (pc' := 61) (v := 4) dX9_nameOf_60 rfl (by decide) ?_
    exact z_iret dX9_nameOf_61 rfl rfl ⟨Nat.le_refl _, Nat.le_refl _⟩ ⟨_, _, _, rfl, rfl, h⟩
  by_cases c1_4 : x0 = (116 : Int32)
  · replace h := h.2.2.2.2.1 c1_4
    refine z_lookup (pc' := 56) dX9_nameOf_1 (by decide) (by rw [c1_4]; decide) ?_
    refine z_iconst (pc' := 57) (v := 2) dX9_nameOf_56 rfl (by decide) ?_
    exact z_iret dX9_nameOf_57 rfl rfl ⟨Nat.le_refl _, Nat.le_refl _⟩ ⟨_, _, _, rfl, rfl, h⟩
  replace h := h.2.2.2.2.2 c1_0 c1_1 c1_2 c1_3 c1_4
  refine z_lookup (pc' := 62) dX9_nameOf_1 (by decide) (by rw [lv_osw c1_0 (a := 97) (by decide), lv_osw c1_1 (a := 104) (by decide), lv_osw c1_2 (a := 109) (by decide), lv_osw c1_3 (a := 110) (by decide), lv_osw c1_4 (a := 116) (by decide)]; rfl) ?_
  refine z_iconst (pc' := 63) (v := -1) dX9_nameOf_62 rfl (by decide) ?_
  exact z_iret dX9_nameOf_63 rfl rfl ⟨Nat.le_refl _, Nat.le_refl _⟩ ⟨_, _, _, rfl, rfl, h⟩
set_option maxHeartbeats 4000000 in
set_option maxRecDepth 100000 in
theorem t_X9_one {l : Launch} {G : zG} {d : Nat} {P : Int32 → zIM → zLM → Prop} {I : zIM} {L : zLM}   (h : (((I 44 19) < 0 → (∃ (d2 : Nat) (P2 : Int32 → zIM → zLM → Prop), d2 + 1 ≤ d ∧ zCi l G d2 mX9_byteAt [.ref 44] I L P2 ∧ ∀ (y2 : Int32) (I2 : zIM) (L2 : zLM), P2 y2 I2 L2 → (((y2 = (33 : Int32) → (K_X9_one_32 l G d P I2 L2 y2)) ∧ (¬ y2 = (33 : Int32) → (((y2 = (45 : Int32) → (K_X9_one_32 l G d P I2 L2 y2)) ∧ (¬ y2 = (45 : Int32) → (((¬ y2 = (40 : Int32) → (∃ (d6 : Nat) (P6 : Int32 → zIM → zLM → Prop), d6 + 1 ≤ d ∧ zCi l G d6 mX9_nameOf [.int y2] I2 L2 P6 ∧ ∀ (y6 : Int32) (I6 : zIM) (L6 : zLM), P6 y6 I6 L6 → (((y6 < 0 → (K_X9_one_176 l G d P I6 L6 (0 : Int32) (0 : Int32))) ∧ (¬ y6 < 0 → (∃ j8 : Nat, y6 = nI j8 ∧ j8 < 5 ∧ (P (I6 55 j8) (xI I6 44 17 ((I6 44 17) + (1 : Int32))) L6))))))) ∧ (y2 = (40 : Int32) → (K_X9_one_32 l G d P I2 L2 y2)))))))))))) ∧ (¬ (I 44 19) < 0 → (P (0 : Int32) I L)))) : zCi l G d mX9_one [.ref 44] I L P := by
  refine zCn.of (ls := [some (.ref 44), none, none, none, none]) (by decide) (Nat.le_of_ble_eq_true rfl) rfl ?_
  refine z_aload_n (pc' := 1) (x := 44) dX9_one_0 rfl rfl ?_
  refine z_geti (pc' := 4) (x := (I 44 19)) dX9_one_1 rfl fl_X9_156 rfl rfl rfl ?_
  refine z_if_lt (pc' := 7) (tgt := 9) dX9_one_4 rfl (by decide) (fun c1 => ?_) (fun c1 => ?_)
  · replace h := h.1 c1
    refine z_aload_n (pc' := 10) (x := 44) dX9_one_9 rfl rfl ?_
    obtain ⟨d2, P2, hd2, hC2, h⟩ := h
    refine z_callV (pc' := 13) (M' := mX9_byteAt) (As := []) dX9_one_10 rfl ml_X9_159 me_X9_byteAt hC2 rfl (by decide) rfl rfl hd2 (Nat.le_of_ble_eq_true rfl) ⟨Nat.le_refl _, Nat.le_refl _⟩ rfl ?_
    rintro _ _ ⟨y2, I2, L2, rfl, rfl, hP2⟩
    replace h := h y2 I2 L2 hP2
    refine z_istore_n (pc' := 14) (ls' := [some (.ref 44), some (.int y2), none, none, none]) dX9_one_13 rfl (by decide) rfl ?_
    refine z_iload_n (pc' := 15) (x := y2) dX9_one_14 rfl rfl ?_
    refine z_bipush (pc' := 17) (v := 33) dX9_one_15 rfl (by decide) ?_
    refine z_icmp_eq (pc' := 20) (tgt := 32) dX9_one_17 rfl (by decide) (fun c3 => ?_) (fun c3 => ?_)
    · replace h := h.1 c3
      exact h
    · replace h := h.2 c3
      refine z_iload_n (pc' := 21) (x := y2) dX9_one_20 rfl rfl ?_
      refine z_bipush (pc' := 23) (v := 45) dX9_one_21 rfl (by decide) ?_
      refine z_icmp_eq (pc' := 26) (tgt := 32) dX9_one_23 rfl (by decide) (fun c4 => ?_) (fun c4 => ?_)
      · replace h := h.1 c4
        exact h
      · replace h := h.2 c4
        refine z_iload_n (pc' := 27) (x := y2) dX9_one_26 rfl rfl ?_
        refine z_bipush (pc' := 29) (v := 40) dX9_one_27 rfl (by decide) ?_
        refine z_icmp_ne (pc' := 32) (tgt := 145) dX9_one_29 rfl (by decide) (fun c5 => ?_) (fun c5 => ?_)
        · replace h := h.1 c5
          refine z_iload_n (pc' := 146) (x := y2) dX9_one_145 rfl rfl ?_
          obtain ⟨d6, P6, hd6, hC6, h⟩ := h
          refine z_callS (pc' := 149) (M' := mX9_nameOf) (As := [.int y2]) dX9_one_146 rfl ml_X9_190 me_X9_nameOf hC6 rfl hd6 (Nat.le_of_ble_eq_true rfl) ⟨Nat.le_refl _, Nat.le_refl _⟩ rfl ?_
          rintro _ _ ⟨y6, I6, L6, rfl, rfl, hP6⟩
          replace h := h y6 I6 L6 hP6
          refine z_istore_n (pc' := 150) (ls' := [some (.ref 44), some (.int y2), some (.int y6), none, none]) dX9_one_149 rfl (by decide) rfl ?_
          refine z_iload_n (pc' := 151) (x := y6) dX9_one_150 rfl rfl ?_
          refine z_if_lt (pc' := 154) (tgt := 171) dX9_one_151 rfl (by decide) (fun c7 => ?_) (fun c7 => ?_)
          · replace h := h.1 c7
            refine z_iconst (pc' := 172) (v := 0) dX9_one_171 rfl (by decide) ?_
            refine z_istore_n (pc' := 173) (ls' := [some (.ref 44), some (.int y2), some (.int y6), some (.int (0 : Int32)), none]) dX9_one_172 rfl (by decide) rfl ?_
            refine z_iconst (pc' := 174) (v := 0) dX9_one_173 rfl (by decide) ?_
            refine z_istore (pc' := 176) (ls' := [some (.ref 44), some (.int y2), some (.int y6), some (.int (0 : Int32)), some (.int (0 : Int32))]) dX9_one_174 rfl (by decide) rfl ?_
            refine z_sub (pc' := 0) [some (.ref 44), none, none, some (.int (0 : Int32)), some (.int (0 : Int32))] (zsub_s (zsub_n (zsub_n (zsub_s (zsub_s zsub_nil))))) ?_
            exact h
          · replace h := h.2 c7
            refine z_aload_n (pc' := 155) (x := 44) dX9_one_154 rfl rfl ?_
            refine z_dup (pc' := 156) dX9_one_155 rfl rfl ?_
            refine z_geti (pc' := 159) (x := (I6 44 17)) dX9_one_156 rfl fl_X9_147 rfl rfl rfl ?_
            refine z_iconst (pc' := 160) (v := 1) dX9_one_159 rfl (by decide) ?_
            refine z_iadd (pc' := 161) dX9_one_160 rfl ?_
            refine z_puti (pc' := 164) (w' := zs (xI I6 44 17 ((I6 44 17) + (1 : Int32))) L6) dX9_one_161 rfl fl_X9_147 rfl rfl rfl rfl rfl rfl ?_
            refine z_aload_n (pc' := 165) (x := 44) dX9_one_164 rfl rfl ?_
            refine z_getr (pc' := 168) (x := 55) dX9_one_165 rfl fl_X9_40 rfl rfl rfl ?_
            refine z_iload_n (pc' := 169) (x := y6) dX9_one_168 rfl rfl ?_
            obtain ⟨j8, ha8, hb8, h⟩ := h
            refine z_iald (pc' := 170) (x := (I6 55 j8)) (j := j8) dX9_one_169 rfl rfl (by decide) ha8 hb8 rfl ?_
            exact z_iret dX9_one_170 rfl rfl ⟨Nat.le_refl _, Nat.le_refl _⟩ ⟨_, _, _, rfl, rfl, h⟩
        · replace h := h.2 c5
          exact h
  · replace h := h.2 c1
    refine z_iconst (pc' := 8) (v := 0) dX9_one_7 rfl (by decide) ?_
    exact z_iret dX9_one_8 rfl rfl ⟨Nat.le_refl _, Nat.le_refl _⟩ ⟨_, _, _, rfl, rfl, h⟩
set_option maxHeartbeats 4000000 in
set_option maxRecDepth 100000 in
theorem t_X9_one_32 {l : Launch} {G : zG} {d : Nat} {P : Int32 → zIM → zLM → Prop} {I : zIM} {L : zLM} {x1 : Int32}   (h : ((¬ (I 44 20) = (6 : Int32) → (((¬ x1 = (40 : Int32) → (∃ (d3 : Nat) (P3 : Int32 → zIM → zLM → Prop), d3 + 1 ≤ d ∧ zCi l G d3 mX9_one [.ref 44] (xI (xI I 44 20 ((I 44 20) + (1 : Int32))) 44 17 ((I 44 17) + (1 : Int32))) L P3 ∧ ∀ (y3 : Int32) (I3 : zIM) (L3 : zLM), P3 y3 I3 L3 → (K_X9_one_83 l G d P I3 L3 x1 y3))) ∧ (x1 = (40 : Int32) → (∃ (d4 : Nat) (P4 : Int32 → zIM → zLM → Prop), d4 + 1 ≤ d ∧ zCi l G d4 mX9_either [.ref 44] (xI (xI I 44 20 ((I 44 20) + (1 : Int32))) 44 17 ((I 44 17) + (1 : Int32))) L P4 ∧ ∀ (y4 : Int32) (I4 : zIM) (L4 : zLM), P4 y4 I4 L4 → (K_X9_one_83 l G d P I4 L4 x1 y4)))))) ∧ ((I 44 20) = (6 : Int32) → (∃ (d5 : Nat) (P5 : Int32 → zIM → zLM → Prop), d5 + 1 ≤ d ∧ zCi l G d5 mX9_wrong [.ref 44] I L P5 ∧ ∀ (y5 : Int32) (I5 : zIM) (L5 : zLM), P5 y5 I5 L5 → (P y5 I5 L5))))) : K_X9_one_32 l G d P I L x1  := by
  refine z_aload_n (pc' := 33) (x := 44) dX9_one_32 rfl rfl ?_
  refine z_geti (pc' := 36) (x := (I 44 20)) dX9_one_33 rfl fl_X9_181 rfl rfl rfl ?_
  refine z_bipush (pc' := 38) (v := 6) dX9_one_36 rfl (by decide) ?_
  refine z_icmp_ne (pc' := 41) (tgt := 46) dX9_one_38 rfl (by decide) (fun c1 => ?_) (fun c1 => ?_)
  · replace h := h.1 c1
    refine z_aload_n (pc' := 47) (x := 44) dX9_one_46 rfl rfl ?_
    refine z_dup (pc' := 48) dX9_one_47 rfl rfl ?_
    refine z_geti (pc' := 51) (x := (I 44 20)) dX9_one_48 rfl fl_X9_181 rfl rfl rfl ?_
    refine z_iconst (pc' := 52) (v := 1) dX9_one_51 rfl (by decide) ?_
    refine z_iadd (pc' := 53) dX9_one_52 rfl ?_
    refine z_puti (pc' := 56) (w' := zs (xI I 44 20 ((I 44 20) + (1 : Int32))) L) dX9_one_53 rfl fl_X9_181 rfl rfl rfl rfl rfl rfl ?_
    refine z_aload_n (pc' := 57) (x := 44) dX9_one_56 rfl rfl ?_
    refine z_dup (pc' := 58) dX9_one_57 rfl rfl ?_
    refine z_geti (pc' := 61) (x := (I 44 17)) dX9_one_58 rfl fl_X9_147 rfl rfl rfl ?_
    refine z_iconst (pc' := 62) (v := 1) dX9_one_61 rfl (by decide) ?_
    refine z_iadd (pc' := 63) dX9_one_62 rfl ?_
    refine z_puti (pc' := 66) (w' := zs (xI (xI I 44 20 ((I 44 20) + (1 : Int32))) 44 17 ((I 44 17) + (1 : Int32))) L) dX9_one_63 rfl fl_X9_147 rfl rfl rfl rfl rfl rfl ?_
    refine z_iload_n (pc' := 67) (x := x1) dX9_one_66 rfl rfl ?_
    refine z_bipush (pc' := 69) (v := 40) dX9_one_67 rfl (by decide) ?_
    refine z_icmp_ne (pc' := 72) (tgt := 79) dX9_one_69 rfl (by decide) (fun c2 => ?_) (fun c2 => ?_)
    · replace h := h.1 c2
      refine z_aload_n (pc' := 80) (x := 44) dX9_one_79 rfl rfl ?_
      obtain ⟨d3, P3, hd3, hC3, h⟩ := h
      refine z_callV (pc' := 83) (M' := mX9_one) (As := []) dX9_one_80 rfl ml_X9_178 me_X9_one hC3 rfl (by decide) rfl rfl hd3 (Nat.le_of_ble_eq_true rfl) ⟨Nat.le_refl _, Nat.le_refl _⟩ rfl ?_
      rintro _ _ ⟨y3, I3, L3, rfl, rfl, hP3⟩
      replace h := h y3 I3 L3 hP3
      exact h
    · replace h := h.2 c2
      refine z_aload_n (pc' := 73) (x := 44) dX9_one_72 rfl rfl ?_
      obtain ⟨d4, P4, hd4, hC4, h⟩ := h
      refine z_callV (pc' := 76) (M' := mX9_either) (As := []) dX9_one_73 rfl ml_X9_187 me_X9_either hC4 rfl (by decide) rfl rfl hd4 (Nat.le_of_ble_eq_true rfl) ⟨Nat.le_refl _, Nat.le_refl _⟩ rfl ?_
      rintro _ _ ⟨y4, I4, L4, rfl, rfl, hP4⟩
      replace h := h y4 I4 L4 hP4
      refine z_goto (pc' := 83) dX9_one_76 (by decide) ?_
      exact h
  · replace h := h.2 c1
    refine z_aload_n (pc' := 42) (x := 44) dX9_one_41 rfl rfl ?_
    obtain ⟨d5, P5, hd5, hC5, h⟩ := h
    refine z_callV (pc' := 45) (M' := mX9_wrong) (As := []) dX9_one_42 rfl ml_X9_184 me_X9_wrong hC5 rfl (by decide) rfl rfl hd5 (Nat.le_of_ble_eq_true rfl) ⟨Nat.le_refl _, Nat.le_refl _⟩ rfl ?_
    rintro _ _ ⟨y5, I5, L5, rfl, rfl, hP5⟩
    replace h := h y5 I5 L5 hP5
    exact z_iret dX9_one_45 rfl rfl ⟨Nat.le_refl _, Nat.le_refl _⟩ ⟨_, _, _, rfl, rfl, h⟩
set_option maxHeartbeats 4000000 in
set_option maxRecDepth 100000 in
theorem t_X9_one_176 {l : Launch} {G : zG} {d : Nat} {P : Int32 → zIM → zLM → Prop} {I : zIM} {L : zLM} {x3 : Int32} {x4 : Int32}   (h : (((4 : Int32) ≤ x4 → (((¬ x4 = 0 → (K_X9_one_242 l G d P I L  x3)) ∧ (x4 = 0 → (∃ (d3 : Nat) (P3 : Int32 → zIM → zLM → Prop), d3 + 1 ≤ d ∧ zCi l G d3 mX9_wrong [.ref 44] I L P3 ∧ ∀ (y3 : Int32) (I3 : zIM) (L3 : zLM), P3 y3 I3 L3 → (K_X9_one_242 l G d P I3 L3  y3)))))) ∧ (¬ (4 : Int32) ≤ x4 → (∃ (d4 : Nat) (P4 : Int32 → zIM → zLM → Prop), d4 + 1 ≤ d ∧ zCi l G d4 mX9_byteAt [.ref 44] I L P4 ∧ ∀ (y4 : Int32) (I4 : zIM) (L4 : zLM), P4 y4 I4 L4 → (((y4 < (48 : Int32) → (((¬ x4 = 0 → (K_X9_one_242 l G d P I4 L4  x3)) ∧ (x4 = 0 → (∃ (d7 : Nat) (P7 : Int32 → zIM → zLM → Prop), d7 + 1 ≤ d ∧ zCi l G d7 mX9_wrong [.ref 44] I4 L4 P7 ∧ ∀ (y7 : Int32) (I7 : zIM) (L7 : zLM), P7 y7 I7 L7 → (K_X9_one_242 l G d P I7 L7  y7)))))) ∧ (¬ y4 < (48 : Int32) → (∃ (d8 : Nat) (P8 : Int32 → zIM → zLM → Prop), d8 + 1 ≤ d ∧ zCi l G d8 mX9_byteAt [.ref 44] I4 L4 P8 ∧ ∀ (y8 : Int32) (I8 : zIM) (L8 : zLM), P8 y8 I8 L8 → ((((57 : Int32) < y8 → (((¬ x4 = 0 → (K_X9_one_242 l G d P I8 L8  x3)) ∧ (x4 = 0 → (∃ (d11 : Nat) (P11 : Int32 → zIM → zLM → Prop), d11 + 1 ≤ d ∧ zCi l G d11 mX9_wrong [.ref 44] I8 L8 P11 ∧ ∀ (y11 : Int32) (I11 : zIM) (L11 : zLM), P11 y11 I11 L11 → (K_X9_one_242 l G d P I11 L11  y11)))))) ∧ (¬ (57 : Int32) < y8 → (∃ (d12 : Nat) (P12 : Int32 → zIM → zLM → Prop), d12 + 1 ≤ d ∧ zCi l G d12 mX9_byteAt [.ref 44] I8 L8 P12 ∧ ∀ (y12 : Int32) (I12 : zIM) (L12 : zLM), P12 y12 I12 L12 → (K_X9_one_176 l G d P (xI I12 44 17 ((I12 44 17) + (1 : Int32))) L12 ((((10 : Int32) * x3) + y12) - (48 : Int32)) (x4 + (1 : Int32))))))))))))))) : K_X9_one_176 l G d P I L x3 x4  := by
  refine z_iload (pc' := 178) (x := x4) dX9_one_176 rfl rfl ?_
  refine z_iconst (pc' := 179) (v := 4) dX9_one_178 rfl (by decide) ?_
  refine z_icmp_ge (pc' := 182) (tgt := 229) dX9_one_179 rfl (by decide) (fun c1 => ?_) (fun c1 => ?_)
  · replace h := h.1 c1
    refine z_iload (pc' := 231) (x := x4) dX9_one_229 rfl rfl ?_
    refine z_if_ne (pc' := 234) (tgt := 241) dX9_one_231 rfl (by decide) (fun c2 => ?_) (fun c2 => ?_)
    · replace h := h.1 c2
      refine z_iload_n (pc' := 242) (x := x3) dX9_one_241 rfl rfl ?_
      refine z_sub (pc' := 0) [none, none, none, none, none] (zsub_n (zsub_n (zsub_n (zsub_n (zsub_n zsub_nil))))) ?_
      exact h
    · replace h := h.2 c2
      refine z_aload_n (pc' := 235) (x := 44) dX9_one_234 rfl rfl ?_
      obtain ⟨d3, P3, hd3, hC3, h⟩ := h
      refine z_callV (pc' := 238) (M' := mX9_wrong) (As := []) dX9_one_235 rfl ml_X9_184 me_X9_wrong hC3 rfl (by decide) rfl rfl hd3 (Nat.le_of_ble_eq_true rfl) ⟨Nat.le_refl _, Nat.le_refl _⟩ rfl ?_
      rintro _ _ ⟨y3, I3, L3, rfl, rfl, hP3⟩
      replace h := h y3 I3 L3 hP3
      refine z_goto (pc' := 242) dX9_one_238 (by decide) ?_
      refine z_sub (pc' := 0) [none, none, none, none, none] (zsub_n (zsub_n (zsub_n (zsub_n (zsub_n zsub_nil))))) ?_
      exact h
  · replace h := h.2 c1
    refine z_aload_n (pc' := 183) (x := 44) dX9_one_182 rfl rfl ?_
    obtain ⟨d4, P4, hd4, hC4, h⟩ := h
    refine z_callV (pc' := 186) (M' := mX9_byteAt) (As := []) dX9_one_183 rfl ml_X9_159 me_X9_byteAt hC4 rfl (by decide) rfl rfl hd4 (Nat.le_of_ble_eq_true rfl) ⟨Nat.le_refl _, Nat.le_refl _⟩ rfl ?_
    rintro _ _ ⟨y4, I4, L4, rfl, rfl, hP4⟩
    replace h := h y4 I4 L4 hP4
    refine z_bipush (pc' := 188) (v := 48) dX9_one_186 rfl (by decide) ?_
    refine z_icmp_lt (pc' := 191) (tgt := 229) dX9_one_188 rfl (by decide) (fun c5 => ?_) (fun c5 => ?_)
    · replace h := h.1 c5
      refine z_iload (pc' := 231) (x := x4) dX9_one_229 rfl rfl ?_
      refine z_if_ne (pc' := 234) (tgt := 241) dX9_one_231 rfl (by decide) (fun c6 => ?_) (fun c6 => ?_)
      · replace h := h.1 c6
        refine z_iload_n (pc' := 242) (x := x3) dX9_one_241 rfl rfl ?_
        refine z_sub (pc' := 0) [none, none, none, none, none] (zsub_n (zsub_n (zsub_n (zsub_n (zsub_n zsub_nil))))) ?_
        exact h
      · replace h := h.2 c6
        refine z_aload_n (pc' := 235) (x := 44) dX9_one_234 rfl rfl ?_
        obtain ⟨d7, P7, hd7, hC7, h⟩ := h
        refine z_callV (pc' := 238) (M' := mX9_wrong) (As := []) dX9_one_235 rfl ml_X9_184 me_X9_wrong hC7 rfl (by decide) rfl rfl hd7 (Nat.le_of_ble_eq_true rfl) ⟨Nat.le_refl _, Nat.le_refl _⟩ rfl ?_
        rintro _ _ ⟨y7, I7, L7, rfl, rfl, hP7⟩
        replace h := h y7 I7 L7 hP7
        refine z_goto (pc' := 242) dX9_one_238 (by decide) ?_
        refine z_sub (pc' := 0) [none, none, none, none, none] (zsub_n (zsub_n (zsub_n (zsub_n (zsub_n zsub_nil))))) ?_
        exact h
    · replace h := h.2 c5
      refine z_aload_n (pc' := 192) (x := 44) dX9_one_191 rfl rfl ?_
      obtain ⟨d8, P8, hd8, hC8, h⟩ := h
      refine z_callV (pc' := 195) (M' := mX9_byteAt) (As := []) dX9_one_192 rfl ml_X9_159 me_X9_byteAt hC8 rfl (by decide) rfl rfl hd8 (Nat.le_of_ble_eq_true rfl) ⟨Nat.le_refl _, Nat.le_refl _⟩ rfl ?_
      rintro _ _ ⟨y8, I8, L8, rfl, rfl, hP8⟩
      replace h := h y8 I8 L8 hP8
      refine z_bipush (pc' := 197) (v := 57) dX9_one_195 rfl (by decide) ?_
      refine z_icmp_gt (pc' := 200) (tgt := 229) dX9_one_197 rfl (by decide) (fun c9 => ?_) (fun c9 => ?_)
      · replace h := h.1 c9
        refine z_iload (pc' := 231) (x := x4) dX9_one_229 rfl rfl ?_
        refine z_if_ne (pc' := 234) (tgt := 241) dX9_one_231 rfl (by decide) (fun c10 => ?_) (fun c10 => ?_)
        · replace h := h.1 c10
          refine z_iload_n (pc' := 242) (x := x3) dX9_one_241 rfl rfl ?_
          refine z_sub (pc' := 0) [none, none, none, none, none] (zsub_n (zsub_n (zsub_n (zsub_n (zsub_n zsub_nil))))) ?_
          exact h
        · replace h := h.2 c10
          refine z_aload_n (pc' := 235) (x := 44) dX9_one_234 rfl rfl ?_
          obtain ⟨d11, P11, hd11, hC11, h⟩ := h
          refine z_callV (pc' := 238) (M' := mX9_wrong) (As := []) dX9_one_235 rfl ml_X9_184 me_X9_wrong hC11 rfl (by decide) rfl rfl hd11 (Nat.le_of_ble_eq_true rfl) ⟨Nat.le_refl _, Nat.le_refl _⟩ rfl ?_
          rintro _ _ ⟨y11, I11, L11, rfl, rfl, hP11⟩
          replace h := h y11 I11 L11 hP11
          refine z_goto (pc' := 242) dX9_one_238 (by decide) ?_
          refine z_sub (pc' := 0) [none, none, none, none, none] (zsub_n (zsub_n (zsub_n (zsub_n (zsub_n zsub_nil))))) ?_
          exact h
      · replace h := h.2 c9
        refine z_bipush (pc' := 202) (v := 10) dX9_one_200 rfl (by decide) ?_
        refine z_iload_n (pc' := 203) (x := x3) dX9_one_202 rfl rfl ?_
        refine z_imul (pc' := 204) dX9_one_203 rfl ?_
        refine z_aload_n (pc' := 205) (x := 44) dX9_one_204 rfl rfl ?_
        obtain ⟨d12, P12, hd12, hC12, h⟩ := h
        refine z_callV (pc' := 208) (M' := mX9_byteAt) (As := []) dX9_one_205 rfl ml_X9_159 me_X9_byteAt hC12 rfl (by decide) rfl rfl hd12 (Nat.le_of_ble_eq_true rfl) ⟨Nat.le_refl _, Nat.le_refl _⟩ rfl ?_
        rintro _ _ ⟨y12, I12, L12, rfl, rfl, hP12⟩
        replace h := h y12 I12 L12 hP12
        refine z_iadd (pc' := 209) dX9_one_208 rfl ?_
        refine z_bipush (pc' := 211) (v := 48) dX9_one_209 rfl (by decide) ?_
        refine z_isub (pc' := 212) dX9_one_211 rfl ?_
        refine z_istore_n (pc' := 213) (ls' := [some (.ref 44), none, none, some (.int ((((10 : Int32) * x3) + y12) - (48 : Int32))), some (.int x4)]) dX9_one_212 rfl (by decide) rfl ?_
        refine z_iinc (pc' := 216) (x := x4) (v := (x4 + (1 : Int32))) (ls' := [some (.ref 44), none, none, some (.int ((((10 : Int32) * x3) + y12) - (48 : Int32))), some (.int (x4 + (1 : Int32)))]) dX9_one_213 rfl rfl (by rfl) (by decide) rfl ?_
        refine z_aload_n (pc' := 217) (x := 44) dX9_one_216 rfl rfl ?_
        refine z_dup (pc' := 218) dX9_one_217 rfl rfl ?_
        refine z_geti (pc' := 221) (x := (I12 44 17)) dX9_one_218 rfl fl_X9_147 rfl rfl rfl ?_
        refine z_iconst (pc' := 222) (v := 1) dX9_one_221 rfl (by decide) ?_
        refine z_iadd (pc' := 223) dX9_one_222 rfl ?_
        refine z_puti (pc' := 226) (w' := zs (xI I12 44 17 ((I12 44 17) + (1 : Int32))) L12) dX9_one_223 rfl fl_X9_147 rfl rfl rfl rfl rfl rfl ?_
        refine z_goto (pc' := 176) dX9_one_226 (by decide) ?_
        exact h
set_option maxHeartbeats 4000000 in
set_option maxRecDepth 100000 in
theorem t_X9_one_83 {l : Launch} {G : zG} {d : Nat} {P : Int32 → zIM → zLM → Prop} {I : zIM} {L : zLM} {x1 : Int32} {s0 : Int32}   (h : ((¬ x1 = (40 : Int32) → (K_X9_one_104 l G d P I L x1 s0)) ∧ (x1 = (40 : Int32) → (∃ (d2 : Nat) (P2 : Int32 → zIM → zLM → Prop), d2 + 1 ≤ d ∧ zCi l G d2 mX9_takes [.ref 44, .int (41 : Int32)] I L P2 ∧ ∀ (y2 : Int32) (I2 : zIM) (L2 : zLM), P2 y2 I2 L2 → (((¬ y2 = 0 → (K_X9_one_104 l G d P I2 L2 x1 s0)) ∧ (y2 = 0 → (∃ (d4 : Nat) (P4 : Int32 → zIM → zLM → Prop), d4 + 1 ≤ d ∧ zCi l G d4 mX9_wrong [.ref 44] I2 L2 P4 ∧ ∀ (y4 : Int32) (I4 : zIM) (L4 : zLM), P4 y4 I4 L4 → (P y4 I4 L4))))))))) : K_X9_one_83 l G d P I L x1 s0  := by
  refine z_istore_n (pc' := 84) (ls' := [some (.ref 44), some (.int x1), some (.int s0), none, none]) dX9_one_83 rfl (by decide) rfl ?_
  refine z_iload_n (pc' := 85) (x := x1) dX9_one_84 rfl rfl ?_
  refine z_bipush (pc' := 87) (v := 40) dX9_one_85 rfl (by decide) ?_
  refine z_icmp_ne (pc' := 90) (tgt := 104) dX9_one_87 rfl (by decide) (fun c1 => ?_) (fun c1 => ?_)
  · replace h := h.1 c1
    exact h
  · replace h := h.2 c1
    refine z_aload_n (pc' := 91) (x := 44) dX9_one_90 rfl rfl ?_
    refine z_bipush (pc' := 93) (v := 41) dX9_one_91 rfl (by decide) ?_
    obtain ⟨d2, P2, hd2, hC2, h⟩ := h
    refine z_callV (pc' := 96) (M' := mX9_takes) (As := [.int (41 : Int32)]) dX9_one_93 rfl ml_X9_166 me_X9_takes hC2 rfl (by decide) rfl rfl hd2 (Nat.le_of_ble_eq_true rfl) ⟨Nat.le_refl _, Nat.le_refl _⟩ rfl ?_
    rintro _ _ ⟨y2, I2, L2, rfl, rfl, hP2⟩
    replace h := h y2 I2 L2 hP2
    refine z_if_ne (pc' := 99) (tgt := 104) dX9_one_96 rfl (by decide) (fun c3 => ?_) (fun c3 => ?_)
    · replace h := h.1 c3
      exact h
    · replace h := h.2 c3
      refine z_aload_n (pc' := 100) (x := 44) dX9_one_99 rfl rfl ?_
      obtain ⟨d4, P4, hd4, hC4, h⟩ := h
      refine z_callV (pc' := 103) (M' := mX9_wrong) (As := []) dX9_one_100 rfl ml_X9_184 me_X9_wrong hC4 rfl (by decide) rfl rfl hd4 (Nat.le_of_ble_eq_true rfl) ⟨Nat.le_refl _, Nat.le_refl _⟩ rfl ?_
      rintro _ _ ⟨y4, I4, L4, rfl, rfl, hP4⟩
      replace h := h y4 I4 L4 hP4
      exact z_iret dX9_one_103 rfl rfl ⟨Nat.le_refl _, Nat.le_refl _⟩ ⟨_, _, _, rfl, rfl, h⟩
set_option maxHeartbeats 4000000 in
set_option maxRecDepth 100000 in
theorem t_X9_one_242 {l : Launch} {G : zG} {d : Nat} {P : Int32 → zIM → zLM → Prop} {I : zIM} {L : zLM} {s0 : Int32}   (h : P s0 I L) : K_X9_one_242 l G d P I L s0  := by
  exact z_iret dX9_one_242 rfl rfl ⟨Nat.le_refl _, Nat.le_refl _⟩ ⟨_, _, _, rfl, rfl, h⟩
set_option maxHeartbeats 4000000 in
set_option maxRecDepth 100000 in
theorem t_X9_one_104 {l : Launch} {G : zG} {d : Nat} {P : Int32 → zIM → zLM → Prop} {I : zIM} {L : zLM} {x1 : Int32} {x2 : Int32}   (h : ((¬ x1 = (40 : Int32) → (((¬ x1 = (45 : Int32) → (((¬ x2 = 0 → (K_X9_one_144 l G d P (xI I 44 20 ((I 44 20) - (1 : Int32))) L  (0 : Int32))) ∧ (x2 = 0 → (K_X9_one_144 l G d P (xI I 44 20 ((I 44 20) - (1 : Int32))) L  (1 : Int32)))))) ∧ (x1 = (45 : Int32) → (K_X9_one_144 l G d P (xI I 44 20 ((I 44 20) - (1 : Int32))) L  (-x2)))))) ∧ (x1 = (40 : Int32) → (K_X9_one_144 l G d P (xI I 44 20 ((I 44 20) - (1 : Int32))) L  x2)))) : K_X9_one_104 l G d P I L x1 x2  := by
  refine z_aload_n (pc' := 105) (x := 44) dX9_one_104 rfl rfl ?_
  refine z_dup (pc' := 106) dX9_one_105 rfl rfl ?_
  refine z_geti (pc' := 109) (x := (I 44 20)) dX9_one_106 rfl fl_X9_181 rfl rfl rfl ?_
  refine z_iconst (pc' := 110) (v := 1) dX9_one_109 rfl (by decide) ?_
  refine z_isub (pc' := 111) dX9_one_110 rfl ?_
  refine z_puti (pc' := 114) (w' := zs (xI I 44 20 ((I 44 20) - (1 : Int32))) L) dX9_one_111 rfl fl_X9_181 rfl rfl rfl rfl rfl rfl ?_
  refine z_iload_n (pc' := 115) (x := x1) dX9_one_114 rfl rfl ?_
  refine z_bipush (pc' := 117) (v := 40) dX9_one_115 rfl (by decide) ?_
  refine z_icmp_ne (pc' := 120) (tgt := 124) dX9_one_117 rfl (by decide) (fun c1 => ?_) (fun c1 => ?_)
  · replace h := h.1 c1
    refine z_iload_n (pc' := 125) (x := x1) dX9_one_124 rfl rfl ?_
    refine z_bipush (pc' := 127) (v := 45) dX9_one_125 rfl (by decide) ?_
    refine z_icmp_ne (pc' := 130) (tgt := 135) dX9_one_127 rfl (by decide) (fun c2 => ?_) (fun c2 => ?_)
    · replace h := h.1 c2
      refine z_iload_n (pc' := 136) (x := x2) dX9_one_135 rfl rfl ?_
      refine z_if_ne (pc' := 139) (tgt := 143) dX9_one_136 rfl (by decide) (fun c3 => ?_) (fun c3 => ?_)
      · replace h := h.1 c3
        refine z_iconst (pc' := 144) (v := 0) dX9_one_143 rfl (by decide) ?_
        refine z_sub (pc' := 0) [none, none, none, none, none] (zsub_n (zsub_n (zsub_n (zsub_n (zsub_n zsub_nil))))) ?_
        exact h
      · replace h := h.2 c3
        refine z_iconst (pc' := 140) (v := 1) dX9_one_139 rfl (by decide) ?_
        refine z_goto (pc' := 144) dX9_one_140 (by decide) ?_
        refine z_sub (pc' := 0) [none, none, none, none, none] (zsub_n (zsub_n (zsub_n (zsub_n (zsub_n zsub_nil))))) ?_
        exact h
    · replace h := h.2 c2
      refine z_iload_n (pc' := 131) (x := x2) dX9_one_130 rfl rfl ?_
      refine z_ineg (pc' := 132) dX9_one_131 rfl ?_
      refine z_goto (pc' := 144) dX9_one_132 (by decide) ?_
      refine z_sub (pc' := 0) [none, none, none, none, none] (zsub_n (zsub_n (zsub_n (zsub_n (zsub_n zsub_nil))))) ?_
      exact h
  · replace h := h.2 c1
    refine z_iload_n (pc' := 121) (x := x2) dX9_one_120 rfl rfl ?_
    refine z_goto (pc' := 144) dX9_one_121 (by decide) ?_
    refine z_sub (pc' := 0) [none, none, none, none, none] (zsub_n (zsub_n (zsub_n (zsub_n (zsub_n zsub_nil))))) ?_
    exact h
set_option maxHeartbeats 4000000 in
set_option maxRecDepth 100000 in
theorem t_X9_one_144 {l : Launch} {G : zG} {d : Nat} {P : Int32 → zIM → zLM → Prop} {I : zIM} {L : zLM} {s0 : Int32}   (h : P s0 I L) : K_X9_one_144 l G d P I L s0  := by
  exact z_iret dX9_one_144 rfl rfl ⟨Nat.le_refl _, Nat.le_refl _⟩ ⟨_, _, _, rfl, rfl, h⟩
set_option maxHeartbeats 4000000 in
set_option maxRecDepth 100000 in
theorem t_X9_workOut {l : Launch} {G : zG} {d : Nat} {P : Int32 → zIM → zLM → Prop} {I : zIM} {L : zLM} {x1 : Int32} {x2 : Int32}  (h : K_X9_workOut_33 l G d P (xI (xI (xI (xI (xI I 44 16 x1) 44 17 (0 : Int32)) 44 18 x2) 44 19 (-1 : Int32)) 44 20 (0 : Int32)) L (0 : Int32) (0 : Int32) (1 : Int32)) : zCi l G d mX9_workOut [.ref 44, .int x1, .int x2] I L P := by
  refine zCn.of (ls := [some (.ref 44), some (.int x1), some (.int x2), none, none, none, none, none]) (by decide) (Nat.le_of_ble_eq_true rfl) rfl ?_
  refine z_aload_n (pc' := 1) (x := 44) dX9_workOut_0 rfl rfl ?_
  refine z_iload_n (pc' := 2) (x := x1) dX9_workOut_1 rfl rfl ?_
  refine z_puti (pc' := 5) (w' := zs (xI I 44 16 x1) L) dX9_workOut_2 rfl fl_X9_153 rfl rfl rfl rfl rfl rfl ?_
  refine z_aload_n (pc' := 6) (x := 44) dX9_workOut_5 rfl rfl ?_
  refine z_iconst (pc' := 7) (v := 0) dX9_workOut_6 rfl (by decide) ?_
  refine z_puti (pc' := 10) (w' := zs (xI (xI I 44 16 x1) 44 17 (0 : Int32)) L) dX9_workOut_7 rfl fl_X9_147 rfl rfl rfl rfl rfl rfl ?_
  refine z_aload_n (pc' := 11) (x := 44) dX9_workOut_10 rfl rfl ?_
  refine z_iload_n (pc' := 12) (x := x2) dX9_workOut_11 rfl rfl ?_
  refine z_puti (pc' := 15) (w' := zs (xI (xI (xI I 44 16 x1) 44 17 (0 : Int32)) 44 18 x2) L) dX9_workOut_12 rfl fl_X9_150 rfl rfl rfl rfl rfl rfl ?_
  refine z_aload_n (pc' := 16) (x := 44) dX9_workOut_15 rfl rfl ?_
  refine z_iconst (pc' := 17) (v := -1) dX9_workOut_16 rfl (by decide) ?_
  refine z_puti (pc' := 20) (w' := zs (xI (xI (xI (xI I 44 16 x1) 44 17 (0 : Int32)) 44 18 x2) 44 19 (-1 : Int32)) L) dX9_workOut_17 rfl fl_X9_156 rfl rfl rfl rfl rfl rfl ?_
  refine z_aload_n (pc' := 21) (x := 44) dX9_workOut_20 rfl rfl ?_
  refine z_iconst (pc' := 22) (v := 0) dX9_workOut_21 rfl (by decide) ?_
  refine z_puti (pc' := 25) (w' := zs (xI (xI (xI (xI (xI I 44 16 x1) 44 17 (0 : Int32)) 44 18 x2) 44 19 (-1 : Int32)) 44 20 (0 : Int32)) L) dX9_workOut_22 rfl fl_X9_181 rfl rfl rfl rfl rfl rfl ?_
  refine z_iconst (pc' := 26) (v := 0) dX9_workOut_25 rfl (by decide) ?_
  refine z_istore_n (pc' := 27) (ls' := [some (.ref 44), some (.int x1), some (.int x2), some (.int (0 : Int32)), none, none, none, none]) dX9_workOut_26 rfl (by decide) rfl ?_
  refine z_iconst (pc' := 28) (v := 0) dX9_workOut_27 rfl (by decide) ?_
  refine z_istore (pc' := 30) (ls' := [some (.ref 44), some (.int x1), some (.int x2), some (.int (0 : Int32)), some (.int (0 : Int32)), none, none, none]) dX9_workOut_28 rfl (by decide) rfl ?_
  refine z_iconst (pc' := 31) (v := 1) dX9_workOut_30 rfl (by decide) ?_
  refine z_istore (pc' := 33) (ls' := [some (.ref 44), some (.int x1), some (.int x2), some (.int (0 : Int32)), some (.int (0 : Int32)), some (.int (1 : Int32)), none, none]) dX9_workOut_31 rfl (by decide) rfl ?_
  refine z_sub (pc' := 0) [some (.ref 44), none, none, some (.int (0 : Int32)), some (.int (0 : Int32)), some (.int (1 : Int32)), none, none] (zsub_s (zsub_n (zsub_n (zsub_s (zsub_s (zsub_s (zsub_n (zsub_n zsub_nil)))))))) ?_
  exact h
set_option maxHeartbeats 4000000 in
set_option maxRecDepth 100000 in
theorem t_X9_workOut_33 {l : Launch} {G : zG} {d : Nat} {P : Int32 → zIM → zLM → Prop} {I : zIM} {L : zLM} {x3 : Int32} {x4 : Int32} {x5 : Int32}   (h : ((x5 = 0 → (((0 ≤ (I 44 19) → (P x4 I L)) ∧ (¬ 0 ≤ (I 44 19) → ((((I 44 18) ≤ (I 44 17) → (P x4 I L)) ∧ (¬ (I 44 18) ≤ (I 44 17) → (∃ (d4 : Nat) (P4 : Int32 → zIM → zLM → Prop), d4 + 1 ≤ d ∧ zCi l G d4 mX9_wrong [.ref 44] I L P4 ∧ ∀ (y4 : Int32) (I4 : zIM) (L4 : zLM), P4 y4 I4 L4 → (P y4 I4 L4))))))))) ∧ (¬ x5 = 0 → (∃ (d5 : Nat) (P5 : Int32 → zIM → zLM → Prop), d5 + 1 ≤ d ∧ zCi l G d5 mX9_either [.ref 44] I L P5 ∧ ∀ (y5 : Int32) (I5 : zIM) (L5 : zLM), P5 y5 I5 L5 → (∃ (d6 : Nat) (P6 : Int32 → zIM → zLM → Prop), d6 + 1 ≤ d ∧ zCi l G d6 mX9_takes [.ref 44, .int (63 : Int32)] I5 L5 P6 ∧ ∀ (y6 : Int32) (I6 : zIM) (L6 : zLM), P6 y6 I6 L6 → (((y6 = 0 → (K_X9_workOut_74 l G d P I6 L6 x3 x4 y5 (1 : Int32))) ∧ (¬ y6 = 0 → (((y5 = 0 → (∃ (d9 : Nat) (P9 : Int32 → zIM → zLM → Prop), d9 + 1 ≤ d ∧ zCi l G d9 mX9_either [.ref 44] I6 L6 P9 ∧ ∀ (y9 : Int32) (I9 : zIM) (L9 : zLM), P9 y9 I9 L9 → (K_X9_workOut_74 l G d P I9 L9 x3 x4 y9 (0 : Int32)))) ∧ (¬ y5 = 0 → (∃ (d10 : Nat) (P10 : Int32 → zIM → zLM → Prop), d10 + 1 ≤ d ∧ zCi l G d10 mX9_either [.ref 44] I6 L6 P10 ∧ ∀ (y10 : Int32) (I10 : zIM) (L10 : zLM), P10 y10 I10 L10 → (K_X9_workOut_74 l G d P I10 L10 x3 x4 y10 (1 : Int32)))))))))))))) : K_X9_workOut_33 l G d P I L x3 x4 x5  := by
  refine z_iload (pc' := 35) (x := x5) dX9_workOut_33 rfl rfl ?_
  refine z_if_eq (pc' := 38) (tgt := 107) dX9_workOut_35 rfl (by decide) (fun c1 => ?_) (fun c1 => ?_)
  · replace h := h.1 c1
    refine z_aload_n (pc' := 108) (x := 44) dX9_workOut_107 rfl rfl ?_
    refine z_geti (pc' := 111) (x := (I 44 19)) dX9_workOut_108 rfl fl_X9_156 rfl rfl rfl ?_
    refine z_if_ge (pc' := 114) (tgt := 130) dX9_workOut_111 rfl (by decide) (fun c2 => ?_) (fun c2 => ?_)
    · replace h := h.1 c2
      refine z_iload (pc' := 132) (x := x4) dX9_workOut_130 rfl rfl ?_
      exact z_iret dX9_workOut_132 rfl rfl ⟨Nat.le_refl _, Nat.le_refl _⟩ ⟨_, _, _, rfl, rfl, h⟩
    · replace h := h.2 c2
      refine z_aload_n (pc' := 115) (x := 44) dX9_workOut_114 rfl rfl ?_
      refine z_geti (pc' := 118) (x := (I 44 17)) dX9_workOut_115 rfl fl_X9_147 rfl rfl rfl ?_
      refine z_aload_n (pc' := 119) (x := 44) dX9_workOut_118 rfl rfl ?_
      refine z_geti (pc' := 122) (x := (I 44 18)) dX9_workOut_119 rfl fl_X9_150 rfl rfl rfl ?_
      refine z_icmp_ge (pc' := 125) (tgt := 130) dX9_workOut_122 rfl (by decide) (fun c3 => ?_) (fun c3 => ?_)
      · replace h := h.1 c3
        refine z_iload (pc' := 132) (x := x4) dX9_workOut_130 rfl rfl ?_
        exact z_iret dX9_workOut_132 rfl rfl ⟨Nat.le_refl _, Nat.le_refl _⟩ ⟨_, _, _, rfl, rfl, h⟩
      · replace h := h.2 c3
        refine z_aload_n (pc' := 126) (x := 44) dX9_workOut_125 rfl rfl ?_
        obtain ⟨d4, P4, hd4, hC4, h⟩ := h
        refine z_callV (pc' := 129) (M' := mX9_wrong) (As := []) dX9_workOut_126 rfl ml_X9_184 me_X9_wrong hC4 rfl (by decide) rfl rfl hd4 (Nat.le_of_ble_eq_true rfl) ⟨Nat.le_refl _, Nat.le_refl _⟩ rfl ?_
        rintro _ _ ⟨y4, I4, L4, rfl, rfl, hP4⟩
        replace h := h y4 I4 L4 hP4
        exact z_iret dX9_workOut_129 rfl rfl ⟨Nat.le_refl _, Nat.le_refl _⟩ ⟨_, _, _, rfl, rfl, h⟩
  · replace h := h.2 c1
    refine z_aload_n (pc' := 39) (x := 44) dX9_workOut_38 rfl rfl ?_
    obtain ⟨d5, P5, hd5, hC5, h⟩ := h
    refine z_callV (pc' := 42) (M' := mX9_either) (As := []) dX9_workOut_39 rfl ml_X9_187 me_X9_either hC5 rfl (by decide) rfl rfl hd5 (Nat.le_of_ble_eq_true rfl) ⟨Nat.le_refl _, Nat.le_refl _⟩ rfl ?_
    rintro _ _ ⟨y5, I5, L5, rfl, rfl, hP5⟩
    replace h := h y5 I5 L5 hP5
    refine z_istore (pc' := 44) (ls' := [some (.ref 44), none, none, some (.int x3), some (.int x4), some (.int x5), some (.int y5), none]) dX9_workOut_42 rfl (by decide) rfl ?_
    refine z_iconst (pc' := 45) (v := 1) dX9_workOut_44 rfl (by decide) ?_
    refine z_istore (pc' := 47) (ls' := [some (.ref 44), none, none, some (.int x3), some (.int x4), some (.int x5), some (.int y5), some (.int (1 : Int32))]) dX9_workOut_45 rfl (by decide) rfl ?_
    refine z_aload_n (pc' := 48) (x := 44) dX9_workOut_47 rfl rfl ?_
    refine z_bipush (pc' := 50) (v := 63) dX9_workOut_48 rfl (by decide) ?_
    obtain ⟨d6, P6, hd6, hC6, h⟩ := h
    refine z_callV (pc' := 53) (M' := mX9_takes) (As := [.int (63 : Int32)]) dX9_workOut_50 rfl ml_X9_166 me_X9_takes hC6 rfl (by decide) rfl rfl hd6 (Nat.le_of_ble_eq_true rfl) ⟨Nat.le_refl _, Nat.le_refl _⟩ rfl ?_
    rintro _ _ ⟨y6, I6, L6, rfl, rfl, hP6⟩
    replace h := h y6 I6 L6 hP6
    refine z_if_eq (pc' := 56) (tgt := 74) dX9_workOut_53 rfl (by decide) (fun c7 => ?_) (fun c7 => ?_)
    · replace h := h.1 c7
      refine z_sub (pc' := 0) [some (.ref 44), none, none, some (.int x3), some (.int x4), none, some (.int y5), some (.int (1 : Int32))] (zsub_s (zsub_n (zsub_n (zsub_s (zsub_s (zsub_n (zsub_s (zsub_s zsub_nil)))))))) ?_
      exact h
    · replace h := h.2 c7
      refine z_iload (pc' := 58) (x := y5) dX9_workOut_56 rfl rfl ?_
      refine z_if_eq (pc' := 61) (tgt := 65) dX9_workOut_58 rfl (by decide) (fun c8 => ?_) (fun c8 => ?_)
      · replace h := h.1 c8
        refine z_iconst (pc' := 66) (v := 0) dX9_workOut_65 rfl (by decide) ?_
        refine z_istore (pc' := 68) (ls' := [some (.ref 44), none, none, some (.int x3), some (.int x4), some (.int x5), some (.int y5), some (.int (0 : Int32))]) dX9_workOut_66 rfl (by decide) rfl ?_
        refine z_aload_n (pc' := 69) (x := 44) dX9_workOut_68 rfl rfl ?_
        obtain ⟨d9, P9, hd9, hC9, h⟩ := h
        refine z_callV (pc' := 72) (M' := mX9_either) (As := []) dX9_workOut_69 rfl ml_X9_187 me_X9_either hC9 rfl (by decide) rfl rfl hd9 (Nat.le_of_ble_eq_true rfl) ⟨Nat.le_refl _, Nat.le_refl _⟩ rfl ?_
        rintro _ _ ⟨y9, I9, L9, rfl, rfl, hP9⟩
        replace h := h y9 I9 L9 hP9
        refine z_istore (pc' := 74) (ls' := [some (.ref 44), none, none, some (.int x3), some (.int x4), some (.int x5), some (.int y9), some (.int (0 : Int32))]) dX9_workOut_72 rfl (by decide) rfl ?_
        refine z_sub (pc' := 0) [some (.ref 44), none, none, some (.int x3), some (.int x4), none, some (.int y9), some (.int (0 : Int32))] (zsub_s (zsub_n (zsub_n (zsub_s (zsub_s (zsub_n (zsub_s (zsub_s zsub_nil)))))))) ?_
        exact h
      · replace h := h.2 c8
        refine z_iconst (pc' := 62) (v := 1) dX9_workOut_61 rfl (by decide) ?_
        refine z_goto (pc' := 66) dX9_workOut_62 (by decide) ?_
        refine z_istore (pc' := 68) (ls' := [some (.ref 44), none, none, some (.int x3), some (.int x4), some (.int x5), some (.int y5), some (.int (1 : Int32))]) dX9_workOut_66 rfl (by decide) rfl ?_
        refine z_aload_n (pc' := 69) (x := 44) dX9_workOut_68 rfl rfl ?_
        obtain ⟨d10, P10, hd10, hC10, h⟩ := h
        refine z_callV (pc' := 72) (M' := mX9_either) (As := []) dX9_workOut_69 rfl ml_X9_187 me_X9_either hC10 rfl (by decide) rfl rfl hd10 (Nat.le_of_ble_eq_true rfl) ⟨Nat.le_refl _, Nat.le_refl _⟩ rfl ?_
        rintro _ _ ⟨y10, I10, L10, rfl, rfl, hP10⟩
        replace h := h y10 I10 L10 hP10
        refine z_istore (pc' := 74) (ls' := [some (.ref 44), none, none, some (.int x3), some (.int x4), some (.int x5), some (.int y10), some (.int (1 : Int32))]) dX9_workOut_72 rfl (by decide) rfl ?_
        refine z_sub (pc' := 0) [some (.ref 44), none, none, some (.int x3), some (.int x4), none, some (.int y10), some (.int (1 : Int32))] (zsub_s (zsub_n (zsub_n (zsub_s (zsub_s (zsub_n (zsub_s (zsub_s zsub_nil)))))))) ?_
        exact h
set_option maxHeartbeats 4000000 in
set_option maxRecDepth 100000 in
theorem t_X9_workOut_74 {l : Launch} {G : zG} {d : Nat} {P : Int32 → zIM → zLM → Prop} {I : zIM} {L : zLM} {x3 : Int32} {x4 : Int32} {x6 : Int32} {x7 : Int32}   (h : ((0 ≤ (I 44 19) → (K_X9_workOut_96 l G d P I L x3 x4)) ∧ (¬ 0 ≤ (I 44 19) → (((x7 = 0 → (K_X9_workOut_96 l G d P I L x3 x4)) ∧ (¬ x7 = 0 → (((¬ x3 = 0 → (K_X9_workOut_96 l G d P I L x3 x4)) ∧ (x3 = 0 → (K_X9_workOut_96 l G d P I L (1 : Int32) x6)))))))))) : K_X9_workOut_74 l G d P I L x3 x4 x6 x7  := by
  refine z_aload_n (pc' := 75) (x := 44) dX9_workOut_74 rfl rfl ?_
  refine z_geti (pc' := 78) (x := (I 44 19)) dX9_workOut_75 rfl fl_X9_156 rfl rfl rfl ?_
  refine z_if_ge (pc' := 81) (tgt := 96) dX9_workOut_78 rfl (by decide) (fun c1 => ?_) (fun c1 => ?_)
  · replace h := h.1 c1
    refine z_sub (pc' := 0) [some (.ref 44), none, none, some (.int x3), some (.int x4), none, none, none] (zsub_s (zsub_n (zsub_n (zsub_s (zsub_s (zsub_n (zsub_n (zsub_n zsub_nil)))))))) ?_
    exact h
  · replace h := h.2 c1
    refine z_iload (pc' := 83) (x := x7) dX9_workOut_81 rfl rfl ?_
    refine z_if_eq (pc' := 86) (tgt := 96) dX9_workOut_83 rfl (by decide) (fun c2 => ?_) (fun c2 => ?_)
    · replace h := h.1 c2
      refine z_sub (pc' := 0) [some (.ref 44), none, none, some (.int x3), some (.int x4), none, none, none] (zsub_s (zsub_n (zsub_n (zsub_s (zsub_s (zsub_n (zsub_n (zsub_n zsub_nil)))))))) ?_
      exact h
    · replace h := h.2 c2
      refine z_iload_n (pc' := 87) (x := x3) dX9_workOut_86 rfl rfl ?_
      refine z_if_ne (pc' := 90) (tgt := 96) dX9_workOut_87 rfl (by decide) (fun c3 => ?_) (fun c3 => ?_)
      · replace h := h.1 c3
        refine z_sub (pc' := 0) [some (.ref 44), none, none, some (.int x3), some (.int x4), none, none, none] (zsub_s (zsub_n (zsub_n (zsub_s (zsub_s (zsub_n (zsub_n (zsub_n zsub_nil)))))))) ?_
        exact h
      · replace h := h.2 c3
        refine z_iconst (pc' := 91) (v := 1) dX9_workOut_90 rfl (by decide) ?_
        refine z_istore_n (pc' := 92) (ls' := [some (.ref 44), none, none, some (.int (1 : Int32)), some (.int x4), none, some (.int x6), some (.int x7)]) dX9_workOut_91 rfl (by decide) rfl ?_
        refine z_iload (pc' := 94) (x := x6) dX9_workOut_92 rfl rfl ?_
        refine z_istore (pc' := 96) (ls' := [some (.ref 44), none, none, some (.int (1 : Int32)), some (.int x6), none, some (.int x6), some (.int x7)]) dX9_workOut_94 rfl (by decide) rfl ?_
        refine z_sub (pc' := 0) [some (.ref 44), none, none, some (.int (1 : Int32)), some (.int x6), none, none, none] (zsub_s (zsub_n (zsub_n (zsub_s (zsub_s (zsub_n (zsub_n (zsub_n zsub_nil)))))))) ?_
        exact h
set_option maxHeartbeats 4000000 in
set_option maxRecDepth 100000 in
theorem t_X9_workOut_96 {l : Launch} {G : zG} {d : Nat} {P : Int32 → zIM → zLM → Prop} {I : zIM} {L : zLM} {x3 : Int32} {x4 : Int32}   (h : ∃ (d1 : Nat) (P1 : Int32 → zIM → zLM → Prop), d1 + 1 ≤ d ∧ zCi l G d1 mX9_takes [.ref 44, .int (59 : Int32)] I L P1 ∧ ∀ (y1 : Int32) (I1 : zIM) (L1 : zLM), P1 y1 I1 L1 → (K_X9_workOut_33 l G d P I1 L1 x3 x4 y1)) : K_X9_workOut_96 l G d P I L x3 x4  := by
  refine z_aload_n (pc' := 97) (x := 44) dX9_workOut_96 rfl rfl ?_
  refine z_bipush (pc' := 99) (v := 59) dX9_workOut_97 rfl (by decide) ?_
  obtain ⟨d1, P1, hd1, hC1, h⟩ := h
  refine z_callV (pc' := 102) (M' := mX9_takes) (As := [.int (59 : Int32)]) dX9_workOut_99 rfl ml_X9_166 me_X9_takes hC1 rfl (by decide) rfl rfl hd1 (Nat.le_of_ble_eq_true rfl) ⟨Nat.le_refl _, Nat.le_refl _⟩ rfl ?_
  rintro _ _ ⟨y1, I1, L1, rfl, rfl, hP1⟩
  replace h := h y1 I1 L1 hP1
  refine z_istore (pc' := 104) (ls' := [some (.ref 44), none, none, some (.int x3), some (.int x4), some (.int y1), none, none]) dX9_workOut_102 rfl (by decide) rfl ?_
  refine z_goto (pc' := 33) dX9_workOut_104 (by decide) ?_
  exact h
set_option maxHeartbeats 4000000 in
set_option maxRecDepth 100000 in
theorem t_X9_law {l : Launch} {G : zG} {d : Nat} {P : Int32 → zIM → zLM → Prop} {I : zIM} {L : zLM}   (h : ∃ (d1 : Nat) (P1 : Int32 → zIM → zLM → Prop), d1 + 1 ≤ d ∧ zCi l G d1 mX9_workOut [.ref 44, .int (-1 : Int32), .int (I 44 13)] I L P1 ∧ ∀ (y1 : Int32) (I1 : zIM) (L1 : zLM), P1 y1 I1 L1 → ((((I1 44 19) < 0 → (K_X9_law_37 l G d P (xI I1 44 13 (0 : Int32)) L1 (I1 44 13) (0 : Int32))) ∧ (¬ (I1 44 19) < 0 → (P ((-100 : Int32) - (I1 44 19)) (xI I1 44 13 (0 : Int32)) L1))))) : zCi l G d mX9_law [.ref 44] I L P := by
  refine zCn.of (ls := [some (.ref 44), none, none, none]) (by decide) (Nat.le_of_ble_eq_true rfl) rfl ?_
  refine z_aload_n (pc' := 1) (x := 44) dX9_law_0 rfl rfl ?_
  refine z_iconst (pc' := 2) (v := -1) dX9_law_1 rfl (by decide) ?_
  refine z_aload_n (pc' := 3) (x := 44) dX9_law_2 rfl rfl ?_
  refine z_geti (pc' := 6) (x := (I 44 13)) dX9_law_3 rfl fl_X9_144 rfl rfl rfl ?_
  obtain ⟨d1, P1, hd1, hC1, h⟩ := h
  refine z_callV (pc' := 9) (M' := mX9_workOut) (As := [.int (-1 : Int32), .int (I 44 13)]) dX9_law_6 rfl ml_X9_194 me_X9_workOut hC1 rfl (by decide) rfl rfl hd1 (Nat.le_of_ble_eq_true rfl) ⟨Nat.le_refl _, Nat.le_refl _⟩ rfl ?_
  rintro _ _ ⟨y1, I1, L1, rfl, rfl, hP1⟩
  replace h := h y1 I1 L1 hP1
  refine z_istore_n (pc' := 10) (ls' := [some (.ref 44), some (.int y1), none, none]) dX9_law_9 rfl (by decide) rfl ?_
  refine z_aload_n (pc' := 11) (x := 44) dX9_law_10 rfl rfl ?_
  refine z_geti (pc' := 14) (x := (I1 44 13)) dX9_law_11 rfl fl_X9_144 rfl rfl rfl ?_
  refine z_istore_n (pc' := 15) (ls' := [some (.ref 44), some (.int y1), some (.int (I1 44 13)), none]) dX9_law_14 rfl (by decide) rfl ?_
  refine z_aload_n (pc' := 16) (x := 44) dX9_law_15 rfl rfl ?_
  refine z_iconst (pc' := 17) (v := 0) dX9_law_16 rfl (by decide) ?_
  refine z_puti (pc' := 20) (w' := zs (xI I1 44 13 (0 : Int32)) L1) dX9_law_17 rfl fl_X9_144 rfl rfl rfl rfl rfl rfl ?_
  refine z_aload_n (pc' := 21) (x := 44) dX9_law_20 rfl rfl ?_
  refine z_geti (pc' := 24) (x := (I1 44 19)) dX9_law_21 rfl fl_X9_156 rfl rfl rfl ?_
  refine z_if_lt (pc' := 27) (tgt := 35) dX9_law_24 rfl (by decide) (fun c2 => ?_) (fun c2 => ?_)
  · replace h := h.1 c2
    refine z_iconst (pc' := 36) (v := 0) dX9_law_35 rfl (by decide) ?_
    refine z_istore_n (pc' := 37) (ls' := [some (.ref 44), some (.int y1), some (.int (I1 44 13)), some (.int (0 : Int32))]) dX9_law_36 rfl (by decide) rfl ?_
    refine z_sub (pc' := 0) [some (.ref 44), none, some (.int (I1 44 13)), some (.int (0 : Int32))] (zsub_s (zsub_n (zsub_s (zsub_s zsub_nil)))) ?_
    exact h
  · replace h := h.2 c2
    refine z_bipush (pc' := 29) (v := -100) dX9_law_27 rfl (by decide) ?_
    refine z_aload_n (pc' := 30) (x := 44) dX9_law_29 rfl rfl ?_
    refine z_geti (pc' := 33) (x := (I1 44 19)) dX9_law_30 rfl fl_X9_156 rfl rfl rfl ?_
    refine z_isub (pc' := 34) dX9_law_33 rfl ?_
    exact z_iret dX9_law_34 rfl rfl ⟨Nat.le_refl _, Nat.le_refl _⟩ ⟨_, _, _, rfl, rfl, h⟩
set_option maxHeartbeats 4000000 in
set_option maxRecDepth 100000 in
theorem t_X9_law_37 {l : Launch} {G : zG} {d : Nat} {P : Int32 → zIM → zLM → Prop} {I : zIM} {L : zLM} {x2 : Int32} {x3 : Int32}   (h : ((x2 ≤ x3 → (P (1 : Int32) (xI I 44 15 x2) L)) ∧ (¬ x2 ≤ x3 → (∃ j2 : Nat, x3 = nI j2 ∧ j2 < 120 ∧ (K_X9_law_37 l G d P (xI I 54 j2 (I 53 j2)) L x2 (x3 + (1 : Int32))))))) : K_X9_law_37 l G d P I L x2 x3  := by
  refine z_iload_n (pc' := 38) (x := x3) dX9_law_37 rfl rfl ?_
  refine z_iload_n (pc' := 39) (x := x2) dX9_law_38 rfl rfl ?_
  refine z_icmp_ge (pc' := 42) (tgt := 60) dX9_law_39 rfl (by decide) (fun c1 => ?_) (fun c1 => ?_)
  · replace h := h.1 c1
    refine z_aload_n (pc' := 61) (x := 44) dX9_law_60 rfl rfl ?_
    refine z_iload_n (pc' := 62) (x := x2) dX9_law_61 rfl rfl ?_
    refine z_puti (pc' := 65) (w' := zs (xI I 44 15 x2) L) dX9_law_62 rfl fl_X9_83 rfl rfl rfl rfl rfl rfl ?_
    refine z_iconst (pc' := 66) (v := 1) dX9_law_65 rfl (by decide) ?_
    exact z_iret dX9_law_66 rfl rfl ⟨Nat.le_refl _, Nat.le_refl _⟩ ⟨_, _, _, rfl, rfl, h⟩
  · replace h := h.2 c1
    refine z_aload_n (pc' := 43) (x := 44) dX9_law_42 rfl rfl ?_
    refine z_getr (pc' := 46) (x := 54) dX9_law_43 rfl fl_X9_37 rfl rfl rfl ?_
    refine z_iload_n (pc' := 47) (x := x3) dX9_law_46 rfl rfl ?_
    refine z_aload_n (pc' := 48) (x := 44) dX9_law_47 rfl rfl ?_
    refine z_getr (pc' := 51) (x := 53) dX9_law_48 rfl fl_X9_34 rfl rfl rfl ?_
    refine z_iload_n (pc' := 52) (x := x3) dX9_law_51 rfl rfl ?_
    obtain ⟨j2, ha2, hb2, h⟩ := h
    refine z_iald (pc' := 53) (x := (I 53 j2)) (j := j2) dX9_law_52 rfl rfl (by decide) ha2 hb2 rfl ?_
    refine z_iast (pc' := 54) (j := j2) (w' := zs (xI I 54 j2 (I 53 j2)) L) dX9_law_53 rfl rfl (by decide) ha2 hb2 rfl ?_
    refine z_iinc (pc' := 57) (x := x3) (v := (x3 + (1 : Int32))) (ls' := [some (.ref 44), none, some (.int x2), some (.int (x3 + (1 : Int32)))]) dX9_law_54 rfl rfl (by rfl) (by decide) rfl ?_
    refine z_goto (pc' := 37) dX9_law_57 (by decide) ?_
    exact h
set_option maxHeartbeats 4000000 in
set_option maxRecDepth 100000 in
theorem t_X9_hitsOf {l : Launch} {G : zG} {d : Nat} {P : Int32 → zIM → zLM → Prop} {I : zIM} {L : zLM} {x1 : Int32} {x2 : Int32} {x3 : Int32} {x4 : Int32}  (h : ((0 ≤ (I 44 15) → (∃ j2 : Nat, x1 = nI j2 ∧ j2 < 12 ∧ (∃ (d3 : Nat) (P3 : Int32 → zIM → zLM → Prop), d3 + 1 ≤ d ∧ zCi l G d3 mX9_workOut [.ref 44, .int (0 : Int32), .int (I 44 15)] (xI (xI (xI (xI (xI I 55 0 (I 45 j2)) 55 1 x1) 55 2 x2) 55 3 x3) 55 4 x4) L P3 ∧ ∀ (y3 : Int32) (I3 : zIM) (L3 : zLM), P3 y3 I3 L3 → (((0 ≤ y3 → (((y3 ≤ (12 : Int32) → (P y3 I3 L3)) ∧ (¬ y3 ≤ (12 : Int32) → (P (12 : Int32) I3 L3))))) ∧ (¬ 0 ≤ y3 → (P (0 : Int32) I3 L3))))))) ∧ (¬ 0 ≤ (I 44 15) → (∃ j6 : Nat, x1 = nI j6 ∧ j6 < 12 ∧ (P (I 45 j6) I L))))) : zCi l G d mX9_hitsOf [.ref 44, .int x1, .int x2, .int x3, .int x4] I L P := by
  refine zCn.of (ls := [some (.ref 44), some (.int x1), some (.int x2), some (.int x3), some (.int x4), none]) (by decide) (Nat.le_of_ble_eq_true rfl) rfl ?_
  refine z_aload_n (pc' := 1) (x := 44) dX9_hitsOf_0 rfl rfl ?_
  refine z_geti (pc' := 4) (x := (I 44 15)) dX9_hitsOf_1 rfl fl_X9_83 rfl rfl rfl ?_
  refine z_if_ge (pc' := 7) (tgt := 14) dX9_hitsOf_4 rfl (by decide) (fun c1 => ?_) (fun c1 => ?_)
  · replace h := h.1 c1
    refine z_aload_n (pc' := 15) (x := 44) dX9_hitsOf_14 rfl rfl ?_
    refine z_getr (pc' := 18) (x := 55) dX9_hitsOf_15 rfl fl_X9_40 rfl rfl rfl ?_
    refine z_iconst (pc' := 19) (v := 0) dX9_hitsOf_18 rfl (by decide) ?_
    refine z_aload_n (pc' := 20) (x := 44) dX9_hitsOf_19 rfl rfl ?_
    refine z_getr (pc' := 23) (x := 45) dX9_hitsOf_20 rfl fl_X9_9 rfl rfl rfl ?_
    refine z_iload_n (pc' := 24) (x := x1) dX9_hitsOf_23 rfl rfl ?_
    obtain ⟨j2, ha2, hb2, h⟩ := h
    refine z_iald (pc' := 25) (x := (I 45 j2)) (j := j2) dX9_hitsOf_24 rfl rfl (by decide) ha2 hb2 rfl ?_
    refine z_iast (pc' := 26) (j := 0) (w' := zs (xI I 55 0 (I 45 j2)) L) dX9_hitsOf_25 rfl rfl (by decide) rfl (by decide) rfl ?_
    refine z_aload_n (pc' := 27) (x := 44) dX9_hitsOf_26 rfl rfl ?_
    refine z_getr (pc' := 30) (x := 55) dX9_hitsOf_27 rfl fl_X9_40 rfl rfl rfl ?_
    refine z_iconst (pc' := 31) (v := 1) dX9_hitsOf_30 rfl (by decide) ?_
    refine z_iload_n (pc' := 32) (x := x1) dX9_hitsOf_31 rfl rfl ?_
    refine z_iast (pc' := 33) (j := 1) (w' := zs (xI (xI I 55 0 (I 45 j2)) 55 1 x1) L) dX9_hitsOf_32 rfl rfl (by decide) rfl (by decide) rfl ?_
    refine z_aload_n (pc' := 34) (x := 44) dX9_hitsOf_33 rfl rfl ?_
    refine z_getr (pc' := 37) (x := 55) dX9_hitsOf_34 rfl fl_X9_40 rfl rfl rfl ?_
    refine z_iconst (pc' := 38) (v := 2) dX9_hitsOf_37 rfl (by decide) ?_
    refine z_iload_n (pc' := 39) (x := x2) dX9_hitsOf_38 rfl rfl ?_
    refine z_iast (pc' := 40) (j := 2) (w' := zs (xI (xI (xI I 55 0 (I 45 j2)) 55 1 x1) 55 2 x2) L) dX9_hitsOf_39 rfl rfl (by decide) rfl (by decide) rfl ?_
    refine z_aload_n (pc' := 41) (x := 44) dX9_hitsOf_40 rfl rfl ?_
    refine z_getr (pc' := 44) (x := 55) dX9_hitsOf_41 rfl fl_X9_40 rfl rfl rfl ?_
    refine z_iconst (pc' := 45) (v := 3) dX9_hitsOf_44 rfl (by decide) ?_
    refine z_iload_n (pc' := 46) (x := x3) dX9_hitsOf_45 rfl rfl ?_
    refine z_iast (pc' := 47) (j := 3) (w' := zs (xI (xI (xI (xI I 55 0 (I 45 j2)) 55 1 x1) 55 2 x2) 55 3 x3) L) dX9_hitsOf_46 rfl rfl (by decide) rfl (by decide) rfl ?_
    refine z_aload_n (pc' := 48) (x := 44) dX9_hitsOf_47 rfl rfl ?_
    refine z_getr (pc' := 51) (x := 55) dX9_hitsOf_48 rfl fl_X9_40 rfl rfl rfl ?_
    refine z_iconst (pc' := 52) (v := 4) dX9_hitsOf_51 rfl (by decide) ?_
    refine z_iload (pc' := 54) (x := x4) dX9_hitsOf_52 rfl rfl ?_
    refine z_iast (pc' := 55) (j := 4) (w' := zs (xI (xI (xI (xI (xI I 55 0 (I 45 j2)) 55 1 x1) 55 2 x2) 55 3 x3) 55 4 x4) L) dX9_hitsOf_54 rfl rfl (by decide) rfl (by decide) rfl ?_
    refine z_aload_n (pc' := 56) (x := 44) dX9_hitsOf_55 rfl rfl ?_
    refine z_iconst (pc' := 57) (v := 0) dX9_hitsOf_56 rfl (by decide) ?_
    refine z_aload_n (pc' := 58) (x := 44) dX9_hitsOf_57 rfl rfl ?_
    refine z_geti (pc' := 61) (x := (I 44 15)) dX9_hitsOf_58 rfl fl_X9_83 rfl rfl rfl ?_
    obtain ⟨d3, P3, hd3, hC3, h⟩ := h
    refine z_callV (pc' := 64) (M' := mX9_workOut) (As := [.int (0 : Int32), .int (I 44 15)]) dX9_hitsOf_61 rfl ml_X9_194 me_X9_workOut hC3 rfl (by decide) rfl rfl hd3 (Nat.le_of_ble_eq_true rfl) ⟨Nat.le_refl _, Nat.le_refl _⟩ rfl ?_
    rintro _ _ ⟨y3, I3, L3, rfl, rfl, hP3⟩
    replace h := h y3 I3 L3 hP3
    refine z_istore (pc' := 66) (ls' := [some (.ref 44), some (.int x1), some (.int x2), some (.int x3), some (.int x4), some (.int y3)]) dX9_hitsOf_64 rfl (by decide) rfl ?_
    refine z_iload (pc' := 68) (x := y3) dX9_hitsOf_66 rfl rfl ?_
    refine z_if_ge (pc' := 71) (tgt := 75) dX9_hitsOf_68 rfl (by decide) (fun c4 => ?_) (fun c4 => ?_)
    · replace h := h.1 c4
      refine z_iload (pc' := 77) (x := y3) dX9_hitsOf_75 rfl rfl ?_
      refine z_bipush (pc' := 79) (v := 12) dX9_hitsOf_77 rfl (by decide) ?_
      refine z_icmp_le (pc' := 82) (tgt := 87) dX9_hitsOf_79 rfl (by decide) (fun c5 => ?_) (fun c5 => ?_)
      · replace h := h.1 c5
        refine z_iload (pc' := 89) (x := y3) dX9_hitsOf_87 rfl rfl ?_
        exact z_iret dX9_hitsOf_89 rfl rfl ⟨Nat.le_refl _, Nat.le_refl _⟩ ⟨_, _, _, rfl, rfl, h⟩
      · replace h := h.2 c5
        refine z_bipush (pc' := 84) (v := 12) dX9_hitsOf_82 rfl (by decide) ?_
        refine z_goto (pc' := 89) dX9_hitsOf_84 (by decide) ?_
        exact z_iret dX9_hitsOf_89 rfl rfl ⟨Nat.le_refl _, Nat.le_refl _⟩ ⟨_, _, _, rfl, rfl, h⟩
    · replace h := h.2 c4
      refine z_iconst (pc' := 72) (v := 0) dX9_hitsOf_71 rfl (by decide) ?_
      refine z_goto (pc' := 89) dX9_hitsOf_72 (by decide) ?_
      exact z_iret dX9_hitsOf_89 rfl rfl ⟨Nat.le_refl _, Nat.le_refl _⟩ ⟨_, _, _, rfl, rfl, h⟩
  · replace h := h.2 c1
    refine z_aload_n (pc' := 8) (x := 44) dX9_hitsOf_7 rfl rfl ?_
    refine z_getr (pc' := 11) (x := 45) dX9_hitsOf_8 rfl fl_X9_9 rfl rfl rfl ?_
    refine z_iload_n (pc' := 12) (x := x1) dX9_hitsOf_11 rfl rfl ?_
    obtain ⟨j6, ha6, hb6, h⟩ := h
    refine z_iald (pc' := 13) (x := (I 45 j6)) (j := j6) dX9_hitsOf_12 rfl rfl (by decide) ha6 hb6 rfl ?_
    exact z_iret dX9_hitsOf_13 rfl rfl ⟨Nat.le_refl _, Nat.le_refl _⟩ ⟨_, _, _, rfl, rfl, h⟩
set_option maxHeartbeats 4000000 in
set_option maxRecDepth 100000 in
theorem t_X9_stateOf {l : Launch} {G : zG} {d : Nat} {P : Int32 → zIM → zLM → Prop} {I : zIM} {L : zLM} {x0 : Int32} {x1 : Int32} {x2 : Int32}  (h : P ((((x0 * (16 : Int32)) + x1) * (4 : Int32)) + x2) I L) : zCi l G d mX9_stateOf [.int x0, .int x1, .int x2] I L P := by
  refine zCn.of (ls := [some (.int x0), some (.int x1), some (.int x2)]) (by decide) (Nat.le_of_ble_eq_true rfl) rfl ?_
  refine z_iload_n (pc' := 1) (x := x0) dX9_stateOf_0 rfl rfl ?_
  refine z_bipush (pc' := 3) (v := 16) dX9_stateOf_1 rfl (by decide) ?_
  refine z_imul (pc' := 4) dX9_stateOf_3 rfl ?_
  refine z_iload_n (pc' := 5) (x := x1) dX9_stateOf_4 rfl rfl ?_
  refine z_iadd (pc' := 6) dX9_stateOf_5 rfl ?_
  refine z_iconst (pc' := 7) (v := 4) dX9_stateOf_6 rfl (by decide) ?_
  refine z_imul (pc' := 8) dX9_stateOf_7 rfl ?_
  refine z_iload_n (pc' := 9) (x := x2) dX9_stateOf_8 rfl rfl ?_
  refine z_iadd (pc' := 10) dX9_stateOf_9 rfl ?_
  exact z_iret dX9_stateOf_10 rfl rfl ⟨Nat.le_refl _, Nat.le_refl _⟩ ⟨_, _, _, rfl, rfl, h⟩
set_option maxHeartbeats 4000000 in
set_option maxRecDepth 100000 in
theorem t_X9_nextOf {l : Launch} {G : zG} {d : Nat} {P : Int32 → zIM → zLM → Prop} {I : zIM} {L : zLM} {x1 : Int32} {x2 : Int32}  (h : K_X9_nextOf_2 l G d P I L x1 x2 (1 : Int32)) : zCi l G d mX9_nextOf [.ref 44, .int x1, .int x2] I L P := by
  refine zCn.of (ls := [some (.ref 44), some (.int x1), some (.int x2), none, none]) (by decide) (Nat.le_of_ble_eq_true rfl) rfl ?_
  refine z_iconst (pc' := 1) (v := 1) dX9_nextOf_0 rfl (by decide) ?_
  refine z_istore_n (pc' := 2) (ls' := [some (.ref 44), some (.int x1), some (.int x2), some (.int (1 : Int32)), none]) dX9_nextOf_1 rfl (by decide) rfl ?_
  exact h
set_option maxHeartbeats 4000000 in
set_option maxRecDepth 100000 in
theorem t_X9_nextOf_2 {l : Launch} {G : zG} {d : Nat} {P : Int32 → zIM → zLM → Prop} {I : zIM} {L : zLM} {x1 : Int32} {x2 : Int32} {x3 : Int32}   (h : (((I 44 6) < x3 → (P x1 I L)) ∧ (¬ (I 44 6) < x3 → (∃ j2 : Nat, x1 = nI j2 ∧ j2 < 4 ∧ ((¬ (I 44 6) = 0) ∧ (∃ j4 : Nat, (((I 50 j2) + x3) % (I 44 6)) = nI j4 ∧ j4 < 4 ∧ (∃ (d5 : Nat) (P5 : Int32 → zIM → zLM → Prop), d5 + 1 ≤ d ∧ zCi l G d5 mX9_isIn [.int x2, .int (I 49 j4)] I L P5 ∧ ∀ (y5 : Int32) (I5 : zIM) (L5 : zLM), P5 y5 I5 L5 → (((y5 = 0 → (K_X9_nextOf_2 l G d P I5 L5 x1 x2 (x3 + (1 : Int32)))) ∧ (¬ y5 = 0 → (P (I 49 j4) I5 L5))))))))))) : K_X9_nextOf_2 l G d P I L x1 x2 x3  := by
  refine z_iload_n (pc' := 3) (x := x3) dX9_nextOf_2 rfl rfl ?_
  refine z_aload_n (pc' := 4) (x := 44) dX9_nextOf_3 rfl rfl ?_
  refine z_geti (pc' := 7) (x := (I 44 6)) dX9_nextOf_4 rfl fl_X9_96 rfl rfl rfl ?_
  refine z_icmp_gt (pc' := 10) (tgt := 48) dX9_nextOf_7 rfl (by decide) (fun c1 => ?_) (fun c1 => ?_)
  · replace h := h.1 c1
    refine z_iload_n (pc' := 49) (x := x1) dX9_nextOf_48 rfl rfl ?_
    exact z_iret dX9_nextOf_49 rfl rfl ⟨Nat.le_refl _, Nat.le_refl _⟩ ⟨_, _, _, rfl, rfl, h⟩
  · replace h := h.2 c1
    refine z_aload_n (pc' := 11) (x := 44) dX9_nextOf_10 rfl rfl ?_
    refine z_getr (pc' := 14) (x := 49) dX9_nextOf_11 rfl fl_X9_22 rfl rfl rfl ?_
    refine z_aload_n (pc' := 15) (x := 44) dX9_nextOf_14 rfl rfl ?_
    refine z_getr (pc' := 18) (x := 50) dX9_nextOf_15 rfl fl_X9_25 rfl rfl rfl ?_
    refine z_iload_n (pc' := 19) (x := x1) dX9_nextOf_18 rfl rfl ?_
    obtain ⟨j2, ha2, hb2, h⟩ := h
    refine z_iald (pc' := 20) (x := (I 50 j2)) (j := j2) dX9_nextOf_19 rfl rfl (by decide) ha2 hb2 rfl ?_
    refine z_iload_n (pc' := 21) (x := x3) dX9_nextOf_20 rfl rfl ?_
    refine z_iadd (pc' := 22) dX9_nextOf_21 rfl ?_
    refine z_aload_n (pc' := 23) (x := 44) dX9_nextOf_22 rfl rfl ?_
    refine z_geti (pc' := 26) (x := (I 44 6)) dX9_nextOf_23 rfl fl_X9_96 rfl rfl rfl ?_
    obtain ⟨hz3, h⟩ := h
    refine z_irem (pc' := 27) dX9_nextOf_26 rfl hz3 ?_
    obtain ⟨j4, ha4, hb4, h⟩ := h
    refine z_iald (pc' := 28) (x := (I 49 j4)) (j := j4) dX9_nextOf_27 rfl rfl (by decide) ha4 hb4 rfl ?_
    refine z_istore (pc' := 30) (ls' := [some (.ref 44), some (.int x1), some (.int x2), some (.int x3), some (.int (I 49 j4))]) dX9_nextOf_28 rfl (by decide) rfl ?_
    refine z_iload_n (pc' := 31) (x := x2) dX9_nextOf_30 rfl rfl ?_
    refine z_iload (pc' := 33) (x := (I 49 j4)) dX9_nextOf_31 rfl rfl ?_
    obtain ⟨d5, P5, hd5, hC5, h⟩ := h
    refine z_callS (pc' := 36) (M' := mX9_isIn) (As := [.int x2, .int (I 49 j4)]) dX9_nextOf_33 rfl ml_X9_133 me_X9_isIn hC5 rfl hd5 (Nat.le_of_ble_eq_true rfl) ⟨Nat.le_refl _, Nat.le_refl _⟩ rfl ?_
    rintro _ _ ⟨y5, I5, L5, rfl, rfl, hP5⟩
    replace h := h y5 I5 L5 hP5
    refine z_if_eq (pc' := 39) (tgt := 42) dX9_nextOf_36 rfl (by decide) (fun c6 => ?_) (fun c6 => ?_)
    · replace h := h.1 c6
      refine z_iinc (pc' := 45) (x := x3) (v := (x3 + (1 : Int32))) (ls' := [some (.ref 44), some (.int x1), some (.int x2), some (.int (x3 + (1 : Int32))), some (.int (I 49 j4))]) dX9_nextOf_42 rfl rfl (by rfl) (by decide) rfl ?_
      refine z_goto (pc' := 2) dX9_nextOf_45 (by decide) ?_
      refine z_sub (pc' := 0) [some (.ref 44), some (.int x1), some (.int x2), some (.int (x3 + (1 : Int32))), none] (zsub_s (zsub_s (zsub_s (zsub_s (zsub_n zsub_nil))))) ?_
      exact h
    · replace h := h.2 c6
      refine z_iload (pc' := 41) (x := (I 49 j4)) dX9_nextOf_39 rfl rfl ?_
      exact z_iret dX9_nextOf_41 rfl rfl ⟨Nat.le_refl _, Nat.le_refl _⟩ ⟨_, _, _, rfl, rfl, h⟩
set_option maxHeartbeats 4000000 in
set_option maxRecDepth 100000 in
theorem t_X9_isOver {l : Launch} {G : zG} {d : Nat} {P : Int32 → zIM → zLM → Prop} {I : zIM} {L : zLM} {x1 : Int32} {x2 : Int32}  (h : (((I 44 9) ≤ x1 → (P (1 : Int32) I L)) ∧ (¬ (I 44 9) ≤ x1 → (∃ (d2 : Nat) (P2 : Int32 → zIM → zLM → Prop), d2 + 1 ≤ d ∧ zCi l G d2 mX9_bitsOf [.int x2] I L P2 ∧ ∀ (y2 : Int32) (I2 : zIM) (L2 : zLM), P2 y2 I2 L2 → ((((2 : Int32) ≤ y2 → (P (0 : Int32) I2 L2)) ∧ (¬ (2 : Int32) ≤ y2 → (P (1 : Int32) I2 L2)))))))) : zCi l G d mX9_isOver [.ref 44, .int x1, .int x2] I L P := by
  refine zCn.of (ls := [some (.ref 44), some (.int x1), some (.int x2)]) (by decide) (Nat.le_of_ble_eq_true rfl) rfl ?_
  refine z_iload_n (pc' := 1) (x := x1) dX9_isOver_0 rfl rfl ?_
  refine z_aload_n (pc' := 2) (x := 44) dX9_isOver_1 rfl rfl ?_
  refine z_geti (pc' := 5) (x := (I 44 9)) dX9_isOver_2 rfl fl_X9_87 rfl rfl rfl ?_
  refine z_icmp_ge (pc' := 8) (tgt := 16) dX9_isOver_5 rfl (by decide) (fun c1 => ?_) (fun c1 => ?_)
  · replace h := h.1 c1
    refine z_iconst (pc' := 17) (v := 1) dX9_isOver_16 rfl (by decide) ?_
    refine z_goto (pc' := 21) dX9_isOver_17 (by decide) ?_
    exact z_iret dX9_isOver_21 rfl rfl ⟨Nat.le_refl _, Nat.le_refl _⟩ ⟨_, _, _, rfl, rfl, h⟩
  · replace h := h.2 c1
    refine z_iload_n (pc' := 9) (x := x2) dX9_isOver_8 rfl rfl ?_
    obtain ⟨d2, P2, hd2, hC2, h⟩ := h
    refine z_callS (pc' := 12) (M' := mX9_bitsOf) (As := [.int x2]) dX9_isOver_9 rfl ml_X9_197 me_X9_bitsOf hC2 rfl hd2 (Nat.le_of_ble_eq_true rfl) ⟨Nat.le_refl _, Nat.le_refl _⟩ rfl ?_
    rintro _ _ ⟨y2, I2, L2, rfl, rfl, hP2⟩
    replace h := h y2 I2 L2 hP2
    refine z_iconst (pc' := 13) (v := 2) dX9_isOver_12 rfl (by decide) ?_
    refine z_icmp_ge (pc' := 16) (tgt := 20) dX9_isOver_13 rfl (by decide) (fun c3 => ?_) (fun c3 => ?_)
    · replace h := h.1 c3
      refine z_iconst (pc' := 21) (v := 0) dX9_isOver_20 rfl (by decide) ?_
      exact z_iret dX9_isOver_21 rfl rfl ⟨Nat.le_refl _, Nat.le_refl _⟩ ⟨_, _, _, rfl, rfl, h⟩
    · replace h := h.2 c3
      refine z_iconst (pc' := 17) (v := 1) dX9_isOver_16 rfl (by decide) ?_
      refine z_goto (pc' := 21) dX9_isOver_17 (by decide) ?_
      exact z_iret dX9_isOver_21 rfl rfl ⟨Nat.le_refl _, Nat.le_refl _⟩ ⟨_, _, _, rfl, rfl, h⟩
set_option maxHeartbeats 4000000 in
set_option maxRecDepth 100000 in
theorem t_X9_byHits {l : Launch} {G : zG} {d : Nat} {P : Int32 → zIM → zLM → Prop} {I : zIM} {L : zLM} {x1 : Int32} {x2 : Int32} {x3 : Int32}  (h : K_X9_byHits_7 l G d P I L x1 x2 x3 (9 : Int32) (0 : Int32)) : zCi l G d mX9_byHits [.ref 44, .int x1, .int x2, .int x3] I L P := by
  refine zCn.of (ls := [some (.ref 44), some (.int x1), some (.int x2), some (.int x3), none, none, none, none]) (by decide) (Nat.le_of_ble_eq_true rfl) rfl ?_
  refine z_bipush (pc' := 2) (v := 9) dX9_byHits_0 rfl (by decide) ?_
  refine z_istore (pc' := 4) (ls' := [some (.ref 44), some (.int x1), some (.int x2), some (.int x3), some (.int (9 : Int32)), none, none, none]) dX9_byHits_2 rfl (by decide) rfl ?_
  refine z_iconst (pc' := 5) (v := 0) dX9_byHits_4 rfl (by decide) ?_
  refine z_istore (pc' := 7) (ls' := [some (.ref 44), some (.int x1), some (.int x2), some (.int x3), some (.int (9 : Int32)), some (.int (0 : Int32)), none, none]) dX9_byHits_5 rfl (by decide) rfl ?_
  exact h
set_option maxHeartbeats 4000000 in
set_option maxRecDepth 100000 in
theorem t_X9_byHits_7 {l : Launch} {G : zG} {d : Nat} {P : Int32 → zIM → zLM → Prop} {I : zIM} {L : zLM} {x1 : Int32} {x2 : Int32} {x3 : Int32} {x4 : Int32} {x5 : Int32}   (h : (((I 44 6) ≤ x5 → (P x4 I L)) ∧ (¬ (I 44 6) ≤ x5 → (∃ (d2 : Nat) (P2 : Int32 → zIM → zLM → Prop), d2 + 1 ≤ d ∧ zCi l G d2 mX9_isIn [.int x2, .int x5] I L P2 ∧ ∀ (y2 : Int32) (I2 : zIM) (L2 : zLM), P2 y2 I2 L2 → (((y2 = 0 → (((x4 = (9 : Int32) → (K_X9_byHits_7 l G d P I2 L2 x1 x2 x3 x4 (x5 + (1 : Int32)))) ∧ (¬ x4 = (9 : Int32) → (K_X9_byHits_7 l G d P I2 L2 x1 x2 x3 x4 (x5 + (1 : Int32))))))) ∧ (¬ y2 = 0 → (((x5 = x1 → (((x4 = (9 : Int32) → (K_X9_byHits_7 l G d P I2 L2 x1 x2 x3 x4 (x5 + (1 : Int32)))) ∧ (¬ x4 = (9 : Int32) → (K_X9_byHits_7 l G d P I2 L2 x1 x2 x3 x4 (x5 + (1 : Int32))))))) ∧ (¬ x5 = x1 → (((x4 = (9 : Int32) → (K_X9_byHits_7 l G d P I2 L2 x1 x2 x3 x5 (x5 + (1 : Int32)))) ∧ (¬ x4 = (9 : Int32) → (((x3 = 0 → (∃ j9 : Nat, x5 = nI j9 ∧ j9 < 12 ∧ (∃ j10 : Nat, x4 = nI j10 ∧ j10 < 12 ∧ ((((I2 45 j10) ≤ (I2 45 j9) → (K_X9_byHits_7 l G d P I2 L2 x1 x2 x3 x4 (x5 + (1 : Int32)))) ∧ (¬ (I2 45 j10) ≤ (I2 45 j9) → (K_X9_byHits_7 l G d P I2 L2 x1 x2 x3 x5 (x5 + (1 : Int32))))))))) ∧ (¬ x3 = 0 → (∃ j12 : Nat, x5 = nI j12 ∧ j12 < 12 ∧ (∃ j13 : Nat, x4 = nI j13 ∧ j13 < 12 ∧ ((((I2 45 j12) ≤ (I2 45 j13) → (K_X9_byHits_7 l G d P I2 L2 x1 x2 x3 x4 (x5 + (1 : Int32)))) ∧ (¬ (I2 45 j12) ≤ (I2 45 j13) → (K_X9_byHits_7 l G d P I2 L2 x1 x2 x3 x5 (x5 + (1 : Int32)))))))))))))))))))))))) : K_X9_byHits_7 l G d P I L x1 x2 x3 x4 x5  := by
  refine z_iload (pc' := 9) (x := x5) dX9_byHits_7 rfl rfl ?_
  refine z_aload_n (pc' := 10) (x := 44) dX9_byHits_9 rfl rfl ?_
  refine z_geti (pc' := 13) (x := (I 44 6)) dX9_byHits_10 rfl fl_X9_96 rfl rfl rfl ?_
  refine z_icmp_ge (pc' := 16) (tgt := 123) dX9_byHits_13 rfl (by decide) (fun c1 => ?_) (fun c1 => ?_)
  · replace h := h.1 c1
    refine z_iload (pc' := 125) (x := x4) dX9_byHits_123 rfl rfl ?_
    exact z_iret dX9_byHits_125 rfl rfl ⟨Nat.le_refl _, Nat.le_refl _⟩ ⟨_, _, _, rfl, rfl, h⟩
  · replace h := h.2 c1
    refine z_iload_n (pc' := 17) (x := x2) dX9_byHits_16 rfl rfl ?_
    refine z_iload (pc' := 19) (x := x5) dX9_byHits_17 rfl rfl ?_
    obtain ⟨d2, P2, hd2, hC2, h⟩ := h
    refine z_callS (pc' := 22) (M' := mX9_isIn) (As := [.int x2, .int x5]) dX9_byHits_19 rfl ml_X9_133 me_X9_isIn hC2 rfl hd2 (Nat.le_of_ble_eq_true rfl) ⟨Nat.le_refl _, Nat.le_refl _⟩ rfl ?_
    rintro _ _ ⟨y2, I2, L2, rfl, rfl, hP2⟩
    replace h := h y2 I2 L2 hP2
    refine z_if_eq (pc' := 25) (tgt := 35) dX9_byHits_22 rfl (by decide) (fun c3 => ?_) (fun c3 => ?_)
    · replace h := h.1 c3
      refine z_iconst (pc' := 36) (v := 0) dX9_byHits_35 rfl (by decide) ?_
      refine z_istore (pc' := 38) (ls' := [some (.ref 44), some (.int x1), some (.int x2), some (.int x3), some (.int x4), some (.int x5), some (.int (0 : Int32)), none]) dX9_byHits_36 rfl (by decide) rfl ?_
      refine z_iload (pc' := 40) (x := x4) dX9_byHits_38 rfl rfl ?_
      refine z_bipush (pc' := 42) (v := 9) dX9_byHits_40 rfl (by decide) ?_
      refine z_icmp_eq (pc' := 45) (tgt := 91) dX9_byHits_42 rfl (by decide) (fun c4 => ?_) (fun c4 => ?_)
      · replace h := h.1 c4
        refine z_iconst (pc' := 92) (v := 1) dX9_byHits_91 rfl (by decide) ?_
        refine z_goto (pc' := 96) dX9_byHits_92 (by decide) ?_
        refine z_istore (pc' := 98) (ls' := [some (.ref 44), some (.int x1), some (.int x2), some (.int x3), some (.int x4), some (.int x5), some (.int (0 : Int32)), some (.int (1 : Int32))]) dX9_byHits_96 rfl (by decide) rfl ?_
        refine z_iload (pc' := 100) (x := (0 : Int32)) dX9_byHits_98 rfl rfl ?_
        refine z_if_eq (pc' := 103) (tgt := 113) dX9_byHits_100 rfl (by decide) (fun _ => ?_) (fun c => absurd c (by decide))
        refine z_iload (pc' := 115) (x := x4) dX9_byHits_113 rfl rfl ?_
        refine z_istore (pc' := 117) (ls' := [some (.ref 44), some (.int x1), some (.int x2), some (.int x3), some (.int x4), some (.int x5), some (.int (0 : Int32)), some (.int (1 : Int32))]) dX9_byHits_115 rfl (by decide) rfl ?_
        refine z_iinc (pc' := 120) (x := x5) (v := (x5 + (1 : Int32))) (ls' := [some (.ref 44), some (.int x1), some (.int x2), some (.int x3), some (.int x4), some (.int (x5 + (1 : Int32))), some (.int (0 : Int32)), some (.int (1 : Int32))]) dX9_byHits_117 rfl rfl (by rfl) (by decide) rfl ?_
        refine z_goto (pc' := 7) dX9_byHits_120 (by decide) ?_
        refine z_sub (pc' := 0) [some (.ref 44), some (.int x1), some (.int x2), some (.int x3), some (.int x4), some (.int (x5 + (1 : Int32))), none, none] (zsub_s (zsub_s (zsub_s (zsub_s (zsub_s (zsub_s (zsub_n (zsub_n zsub_nil)))))))) ?_
        exact h
      · replace h := h.2 c4
        refine z_iload (pc' := 47) (x := (0 : Int32)) dX9_byHits_45 rfl rfl ?_
        refine z_if_eq (pc' := 50) (tgt := 95) dX9_byHits_47 rfl (by decide) (fun _ => ?_) (fun c => absurd c (by decide))
        refine z_iconst (pc' := 96) (v := 0) dX9_byHits_95 rfl (by decide) ?_
        refine z_istore (pc' := 98) (ls' := [some (.ref 44), some (.int x1), some (.int x2), some (.int x3), some (.int x4), some (.int x5), some (.int (0 : Int32)), some (.int (0 : Int32))]) dX9_byHits_96 rfl (by decide) rfl ?_
        refine z_iload (pc' := 100) (x := (0 : Int32)) dX9_byHits_98 rfl rfl ?_
        refine z_if_eq (pc' := 103) (tgt := 113) dX9_byHits_100 rfl (by decide) (fun _ => ?_) (fun c => absurd c (by decide))
        refine z_iload (pc' := 115) (x := x4) dX9_byHits_113 rfl rfl ?_
        refine z_istore (pc' := 117) (ls' := [some (.ref 44), some (.int x1), some (.int x2), some (.int x3), some (.int x4), some (.int x5), some (.int (0 : Int32)), some (.int (0 : Int32))]) dX9_byHits_115 rfl (by decide) rfl ?_
        refine z_iinc (pc' := 120) (x := x5) (v := (x5 + (1 : Int32))) (ls' := [some (.ref 44), some (.int x1), some (.int x2), some (.int x3), some (.int x4), some (.int (x5 + (1 : Int32))), some (.int (0 : Int32)), some (.int (0 : Int32))]) dX9_byHits_117 rfl rfl (by rfl) (by decide) rfl ?_
        refine z_goto (pc' := 7) dX9_byHits_120 (by decide) ?_
        refine z_sub (pc' := 0) [some (.ref 44), some (.int x1), some (.int x2), some (.int x3), some (.int x4), some (.int (x5 + (1 : Int32))), none, none] (zsub_s (zsub_s (zsub_s (zsub_s (zsub_s (zsub_s (zsub_n (zsub_n zsub_nil)))))))) ?_
        exact h
    · replace h := h.2 c3
      refine z_iload (pc' := 27) (x := x5) dX9_byHits_25 rfl rfl ?_
      refine z_iload_n (pc' := 28) (x := x1) dX9_byHits_27 rfl rfl ?_
      refine z_icmp_eq (pc' := 31) (tgt := 35) dX9_byHits_28 rfl (by decide) (fun c5 => ?_) (fun c5 => ?_)
      · replace h := h.1 c5
        refine z_iconst (pc' := 36) (v := 0) dX9_byHits_35 rfl (by decide) ?_
        refine z_istore (pc' := 38) (ls' := [some (.ref 44), some (.int x1), some (.int x2), some (.int x3), some (.int x4), some (.int x5), some (.int (0 : Int32)), none]) dX9_byHits_36 rfl (by decide) rfl ?_
        refine z_iload (pc' := 40) (x := x4) dX9_byHits_38 rfl rfl ?_
        refine z_bipush (pc' := 42) (v := 9) dX9_byHits_40 rfl (by decide) ?_
        refine z_icmp_eq (pc' := 45) (tgt := 91) dX9_byHits_42 rfl (by decide) (fun c6 => ?_) (fun c6 => ?_)
        · replace h := h.1 c6
          refine z_iconst (pc' := 92) (v := 1) dX9_byHits_91 rfl (by decide) ?_
          refine z_goto (pc' := 96) dX9_byHits_92 (by decide) ?_
          refine z_istore (pc' := 98) (ls' := [some (.ref 44), some (.int x1), some (.int x2), some (.int x3), some (.int x4), some (.int x5), some (.int (0 : Int32)), some (.int (1 : Int32))]) dX9_byHits_96 rfl (by decide) rfl ?_
          refine z_iload (pc' := 100) (x := (0 : Int32)) dX9_byHits_98 rfl rfl ?_
          refine z_if_eq (pc' := 103) (tgt := 113) dX9_byHits_100 rfl (by decide) (fun _ => ?_) (fun c => absurd c (by decide))
          refine z_iload (pc' := 115) (x := x4) dX9_byHits_113 rfl rfl ?_
          refine z_istore (pc' := 117) (ls' := [some (.ref 44), some (.int x1), some (.int x2), some (.int x3), some (.int x4), some (.int x5), some (.int (0 : Int32)), some (.int (1 : Int32))]) dX9_byHits_115 rfl (by decide) rfl ?_
          refine z_iinc (pc' := 120) (x := x5) (v := (x5 + (1 : Int32))) (ls' := [some (.ref 44), some (.int x1), some (.int x2), some (.int x3), some (.int x4), some (.int (x5 + (1 : Int32))), some (.int (0 : Int32)), some (.int (1 : Int32))]) dX9_byHits_117 rfl rfl (by rfl) (by decide) rfl ?_
          refine z_goto (pc' := 7) dX9_byHits_120 (by decide) ?_
          refine z_sub (pc' := 0) [some (.ref 44), some (.int x1), some (.int x2), some (.int x3), some (.int x4), some (.int (x5 + (1 : Int32))), none, none] (zsub_s (zsub_s (zsub_s (zsub_s (zsub_s (zsub_s (zsub_n (zsub_n zsub_nil)))))))) ?_
          exact h
        · replace h := h.2 c6
          refine z_iload (pc' := 47) (x := (0 : Int32)) dX9_byHits_45 rfl rfl ?_
          refine z_if_eq (pc' := 50) (tgt := 95) dX9_byHits_47 rfl (by decide) (fun _ => ?_) (fun c => absurd c (by decide))
          refine z_iconst (pc' := 96) (v := 0) dX9_byHits_95 rfl (by decide) ?_
          refine z_istore (pc' := 98) (ls' := [some (.ref 44), some (.int x1), some (.int x2), some (.int x3), some (.int x4), some (.int x5), some (.int (0 : Int32)), some (.int (0 : Int32))]) dX9_byHits_96 rfl (by decide) rfl ?_
          refine z_iload (pc' := 100) (x := (0 : Int32)) dX9_byHits_98 rfl rfl ?_
          refine z_if_eq (pc' := 103) (tgt := 113) dX9_byHits_100 rfl (by decide) (fun _ => ?_) (fun c => absurd c (by decide))
          refine z_iload (pc' := 115) (x := x4) dX9_byHits_113 rfl rfl ?_
          refine z_istore (pc' := 117) (ls' := [some (.ref 44), some (.int x1), some (.int x2), some (.int x3), some (.int x4), some (.int x5), some (.int (0 : Int32)), some (.int (0 : Int32))]) dX9_byHits_115 rfl (by decide) rfl ?_
          refine z_iinc (pc' := 120) (x := x5) (v := (x5 + (1 : Int32))) (ls' := [some (.ref 44), some (.int x1), some (.int x2), some (.int x3), some (.int x4), some (.int (x5 + (1 : Int32))), some (.int (0 : Int32)), some (.int (0 : Int32))]) dX9_byHits_117 rfl rfl (by rfl) (by decide) rfl ?_
          refine z_goto (pc' := 7) dX9_byHits_120 (by decide) ?_
          refine z_sub (pc' := 0) [some (.ref 44), some (.int x1), some (.int x2), some (.int x3), some (.int x4), some (.int (x5 + (1 : Int32))), none, none] (zsub_s (zsub_s (zsub_s (zsub_s (zsub_s (zsub_s (zsub_n (zsub_n zsub_nil)))))))) ?_
          exact h
      · replace h := h.2 c5
        refine z_iconst (pc' := 32) (v := 1) dX9_byHits_31 rfl (by decide) ?_
        refine z_goto (pc' := 36) dX9_byHits_32 (by decide) ?_
        refine z_istore (pc' := 38) (ls' := [some (.ref 44), some (.int x1), some (.int x2), some (.int x3), some (.int x4), some (.int x5), some (.int (1 : Int32)), none]) dX9_byHits_36 rfl (by decide) rfl ?_
        refine z_iload (pc' := 40) (x := x4) dX9_byHits_38 rfl rfl ?_
        refine z_bipush (pc' := 42) (v := 9) dX9_byHits_40 rfl (by decide) ?_
        refine z_icmp_eq (pc' := 45) (tgt := 91) dX9_byHits_42 rfl (by decide) (fun c7 => ?_) (fun c7 => ?_)
        · replace h := h.1 c7
          refine z_iconst (pc' := 92) (v := 1) dX9_byHits_91 rfl (by decide) ?_
          refine z_goto (pc' := 96) dX9_byHits_92 (by decide) ?_
          refine z_istore (pc' := 98) (ls' := [some (.ref 44), some (.int x1), some (.int x2), some (.int x3), some (.int x4), some (.int x5), some (.int (1 : Int32)), some (.int (1 : Int32))]) dX9_byHits_96 rfl (by decide) rfl ?_
          refine z_iload (pc' := 100) (x := (1 : Int32)) dX9_byHits_98 rfl rfl ?_
          refine z_if_eq (pc' := 103) (tgt := 113) dX9_byHits_100 rfl (by decide) (fun c => absurd c (by decide)) (fun _ => ?_)
          refine z_iload (pc' := 105) (x := (1 : Int32)) dX9_byHits_103 rfl rfl ?_
          refine z_if_eq (pc' := 108) (tgt := 113) dX9_byHits_105 rfl (by decide) (fun c => absurd c (by decide)) (fun _ => ?_)
          refine z_iload (pc' := 110) (x := x5) dX9_byHits_108 rfl rfl ?_
          refine z_goto (pc' := 115) dX9_byHits_110 (by decide) ?_
          refine z_istore (pc' := 117) (ls' := [some (.ref 44), some (.int x1), some (.int x2), some (.int x3), some (.int x5), some (.int x5), some (.int (1 : Int32)), some (.int (1 : Int32))]) dX9_byHits_115 rfl (by decide) rfl ?_
          refine z_iinc (pc' := 120) (x := x5) (v := (x5 + (1 : Int32))) (ls' := [some (.ref 44), some (.int x1), some (.int x2), some (.int x3), some (.int x5), some (.int (x5 + (1 : Int32))), some (.int (1 : Int32)), some (.int (1 : Int32))]) dX9_byHits_117 rfl rfl (by rfl) (by decide) rfl ?_
          refine z_goto (pc' := 7) dX9_byHits_120 (by decide) ?_
          refine z_sub (pc' := 0) [some (.ref 44), some (.int x1), some (.int x2), some (.int x3), some (.int x5), some (.int (x5 + (1 : Int32))), none, none] (zsub_s (zsub_s (zsub_s (zsub_s (zsub_s (zsub_s (zsub_n (zsub_n zsub_nil)))))))) ?_
          exact h
        · replace h := h.2 c7
          refine z_iload (pc' := 47) (x := (1 : Int32)) dX9_byHits_45 rfl rfl ?_
          refine z_if_eq (pc' := 50) (tgt := 95) dX9_byHits_47 rfl (by decide) (fun c => absurd c (by decide)) (fun _ => ?_)
          refine z_iload_n (pc' := 51) (x := x3) dX9_byHits_50 rfl rfl ?_
          refine z_if_eq (pc' := 54) (tgt := 74) dX9_byHits_51 rfl (by decide) (fun c8 => ?_) (fun c8 => ?_)
          · replace h := h.1 c8
            refine z_aload_n (pc' := 75) (x := 44) dX9_byHits_74 rfl rfl ?_
            refine z_getr (pc' := 78) (x := 45) dX9_byHits_75 rfl fl_X9_9 rfl rfl rfl ?_
            refine z_iload (pc' := 80) (x := x5) dX9_byHits_78 rfl rfl ?_
            obtain ⟨j9, ha9, hb9, h⟩ := h
            refine z_iald (pc' := 81) (x := (I2 45 j9)) (j := j9) dX9_byHits_80 rfl rfl (by decide) ha9 hb9 rfl ?_
            refine z_aload_n (pc' := 82) (x := 44) dX9_byHits_81 rfl rfl ?_
            refine z_getr (pc' := 85) (x := 45) dX9_byHits_82 rfl fl_X9_9 rfl rfl rfl ?_
            refine z_iload (pc' := 87) (x := x4) dX9_byHits_85 rfl rfl ?_
            obtain ⟨j10, ha10, hb10, h⟩ := h
            refine z_iald (pc' := 88) (x := (I2 45 j10)) (j := j10) dX9_byHits_87 rfl rfl (by decide) ha10 hb10 rfl ?_
            refine z_icmp_ge (pc' := 91) (tgt := 95) dX9_byHits_88 rfl (by decide) (fun c11 => ?_) (fun c11 => ?_)
            · replace h := h.1 c11
              refine z_iconst (pc' := 96) (v := 0) dX9_byHits_95 rfl (by decide) ?_
              refine z_istore (pc' := 98) (ls' := [some (.ref 44), some (.int x1), some (.int x2), some (.int x3), some (.int x4), some (.int x5), some (.int (1 : Int32)), some (.int (0 : Int32))]) dX9_byHits_96 rfl (by decide) rfl ?_
              refine z_iload (pc' := 100) (x := (1 : Int32)) dX9_byHits_98 rfl rfl ?_
              refine z_if_eq (pc' := 103) (tgt := 113) dX9_byHits_100 rfl (by decide) (fun c => absurd c (by decide)) (fun _ => ?_)
              refine z_iload (pc' := 105) (x := (0 : Int32)) dX9_byHits_103 rfl rfl ?_
              refine z_if_eq (pc' := 108) (tgt := 113) dX9_byHits_105 rfl (by decide) (fun _ => ?_) (fun c => absurd c (by decide))
              refine z_iload (pc' := 115) (x := x4) dX9_byHits_113 rfl rfl ?_
              refine z_istore (pc' := 117) (ls' := [some (.ref 44), some (.int x1), some (.int x2), some (.int x3), some (.int x4), some (.int x5), some (.int (1 : Int32)), some (.int (0 : Int32))]) dX9_byHits_115 rfl (by decide) rfl ?_
              refine z_iinc (pc' := 120) (x := x5) (v := (x5 + (1 : Int32))) (ls' := [some (.ref 44), some (.int x1), some (.int x2), some (.int x3), some (.int x4), some (.int (x5 + (1 : Int32))), some (.int (1 : Int32)), some (.int (0 : Int32))]) dX9_byHits_117 rfl rfl (by rfl) (by decide) rfl ?_
              refine z_goto (pc' := 7) dX9_byHits_120 (by decide) ?_
              refine z_sub (pc' := 0) [some (.ref 44), some (.int x1), some (.int x2), some (.int x3), some (.int x4), some (.int (x5 + (1 : Int32))), none, none] (zsub_s (zsub_s (zsub_s (zsub_s (zsub_s (zsub_s (zsub_n (zsub_n zsub_nil)))))))) ?_
              exact h
            · replace h := h.2 c11
              refine z_iconst (pc' := 92) (v := 1) dX9_byHits_91 rfl (by decide) ?_
              refine z_goto (pc' := 96) dX9_byHits_92 (by decide) ?_
              refine z_istore (pc' := 98) (ls' := [some (.ref 44), some (.int x1), some (.int x2), some (.int x3), some (.int x4), some (.int x5), some (.int (1 : Int32)), some (.int (1 : Int32))]) dX9_byHits_96 rfl (by decide) rfl ?_
              refine z_iload (pc' := 100) (x := (1 : Int32)) dX9_byHits_98 rfl rfl ?_
              refine z_if_eq (pc' := 103) (tgt := 113) dX9_byHits_100 rfl (by decide) (fun c => absurd c (by decide)) (fun _ => ?_)
              refine z_iload (pc' := 105) (x := (1 : Int32)) dX9_byHits_103 rfl rfl ?_
              refine z_if_eq (pc' := 108) (tgt := 113) dX9_byHits_105 rfl (by decide) (fun c => absurd c (by decide)) (fun _ => ?_)
              refine z_iload (pc' := 110) (x := x5) dX9_byHits_108 rfl rfl ?_
              refine z_goto (pc' := 115) dX9_byHits_110 (by decide) ?_
              refine z_istore (pc' := 117) (ls' := [some (.ref 44), some (.int x1), some (.int x2), some (.int x3), some (.int x5), some (.int x5), some (.int (1 : Int32)), some (.int (1 : Int32))]) dX9_byHits_115 rfl (by decide) rfl ?_
              refine z_iinc (pc' := 120) (x := x5) (v := (x5 + (1 : Int32))) (ls' := [some (.ref 44), some (.int x1), some (.int x2), some (.int x3), some (.int x5), some (.int (x5 + (1 : Int32))), some (.int (1 : Int32)), some (.int (1 : Int32))]) dX9_byHits_117 rfl rfl (by rfl) (by decide) rfl ?_
              refine z_goto (pc' := 7) dX9_byHits_120 (by decide) ?_
              refine z_sub (pc' := 0) [some (.ref 44), some (.int x1), some (.int x2), some (.int x3), some (.int x5), some (.int (x5 + (1 : Int32))), none, none] (zsub_s (zsub_s (zsub_s (zsub_s (zsub_s (zsub_s (zsub_n (zsub_n zsub_nil)))))))) ?_
              exact h
          · replace h := h.2 c8
            refine z_aload_n (pc' := 55) (x := 44) dX9_byHits_54 rfl rfl ?_
            refine z_getr (pc' := 58) (x := 45) dX9_byHits_55 rfl fl_X9_9 rfl rfl rfl ?_
            refine z_iload (pc' := 60) (x := x5) dX9_byHits_58 rfl rfl ?_
            obtain ⟨j12, ha12, hb12, h⟩ := h
            refine z_iald (pc' := 61) (x := (I2 45 j12)) (j := j12) dX9_byHits_60 rfl rfl (by decide) ha12 hb12 rfl ?_
            refine z_aload_n (pc' := 62) (x := 44) dX9_byHits_61 rfl rfl ?_
            refine z_getr (pc' := 65) (x := 45) dX9_byHits_62 rfl fl_X9_9 rfl rfl rfl ?_
            refine z_iload (pc' := 67) (x := x4) dX9_byHits_65 rfl rfl ?_
            obtain ⟨j13, ha13, hb13, h⟩ := h
            refine z_iald (pc' := 68) (x := (I2 45 j13)) (j := j13) dX9_byHits_67 rfl rfl (by decide) ha13 hb13 rfl ?_
            refine z_icmp_le (pc' := 71) (tgt := 95) dX9_byHits_68 rfl (by decide) (fun c14 => ?_) (fun c14 => ?_)
            · replace h := h.1 c14
              refine z_iconst (pc' := 96) (v := 0) dX9_byHits_95 rfl (by decide) ?_
              refine z_istore (pc' := 98) (ls' := [some (.ref 44), some (.int x1), some (.int x2), some (.int x3), some (.int x4), some (.int x5), some (.int (1 : Int32)), some (.int (0 : Int32))]) dX9_byHits_96 rfl (by decide) rfl ?_
              refine z_iload (pc' := 100) (x := (1 : Int32)) dX9_byHits_98 rfl rfl ?_
              refine z_if_eq (pc' := 103) (tgt := 113) dX9_byHits_100 rfl (by decide) (fun c => absurd c (by decide)) (fun _ => ?_)
              refine z_iload (pc' := 105) (x := (0 : Int32)) dX9_byHits_103 rfl rfl ?_
              refine z_if_eq (pc' := 108) (tgt := 113) dX9_byHits_105 rfl (by decide) (fun _ => ?_) (fun c => absurd c (by decide))
              refine z_iload (pc' := 115) (x := x4) dX9_byHits_113 rfl rfl ?_
              refine z_istore (pc' := 117) (ls' := [some (.ref 44), some (.int x1), some (.int x2), some (.int x3), some (.int x4), some (.int x5), some (.int (1 : Int32)), some (.int (0 : Int32))]) dX9_byHits_115 rfl (by decide) rfl ?_
              refine z_iinc (pc' := 120) (x := x5) (v := (x5 + (1 : Int32))) (ls' := [some (.ref 44), some (.int x1), some (.int x2), some (.int x3), some (.int x4), some (.int (x5 + (1 : Int32))), some (.int (1 : Int32)), some (.int (0 : Int32))]) dX9_byHits_117 rfl rfl (by rfl) (by decide) rfl ?_
              refine z_goto (pc' := 7) dX9_byHits_120 (by decide) ?_
              refine z_sub (pc' := 0) [some (.ref 44), some (.int x1), some (.int x2), some (.int x3), some (.int x4), some (.int (x5 + (1 : Int32))), none, none] (zsub_s (zsub_s (zsub_s (zsub_s (zsub_s (zsub_s (zsub_n (zsub_n zsub_nil)))))))) ?_
              exact h
            · replace h := h.2 c14
              refine z_goto (pc' := 91) dX9_byHits_71 (by decide) ?_
              refine z_iconst (pc' := 92) (v := 1) dX9_byHits_91 rfl (by decide) ?_
              refine z_goto (pc' := 96) dX9_byHits_92 (by decide) ?_
              refine z_istore (pc' := 98) (ls' := [some (.ref 44), some (.int x1), some (.int x2), some (.int x3), some (.int x4), some (.int x5), some (.int (1 : Int32)), some (.int (1 : Int32))]) dX9_byHits_96 rfl (by decide) rfl ?_
              refine z_iload (pc' := 100) (x := (1 : Int32)) dX9_byHits_98 rfl rfl ?_
              refine z_if_eq (pc' := 103) (tgt := 113) dX9_byHits_100 rfl (by decide) (fun c => absurd c (by decide)) (fun _ => ?_)
              refine z_iload (pc' := 105) (x := (1 : Int32)) dX9_byHits_103 rfl rfl ?_
              refine z_if_eq (pc' := 108) (tgt := 113) dX9_byHits_105 rfl (by decide) (fun c => absurd c (by decide)) (fun _ => ?_)
              refine z_iload (pc' := 110) (x := x5) dX9_byHits_108 rfl rfl ?_
              refine z_goto (pc' := 115) dX9_byHits_110 (by decide) ?_
              refine z_istore (pc' := 117) (ls' := [some (.ref 44), some (.int x1), some (.int x2), some (.int x3), some (.int x5), some (.int x5), some (.int (1 : Int32)), some (.int (1 : Int32))]) dX9_byHits_115 rfl (by decide) rfl ?_
              refine z_iinc (pc' := 120) (x := x5) (v := (x5 + (1 : Int32))) (ls' := [some (.ref 44), some (.int x1), some (.int x2), some (.int x3), some (.int x5), some (.int (x5 + (1 : Int32))), some (.int (1 : Int32)), some (.int (1 : Int32))]) dX9_byHits_117 rfl rfl (by rfl) (by decide) rfl ?_
              refine z_goto (pc' := 7) dX9_byHits_120 (by decide) ?_
              refine z_sub (pc' := 0) [some (.ref 44), some (.int x1), some (.int x2), some (.int x3), some (.int x5), some (.int (x5 + (1 : Int32))), none, none] (zsub_s (zsub_s (zsub_s (zsub_s (zsub_s (zsub_s (zsub_n (zsub_n zsub_nil)))))))) ?_
              exact h
set_option maxHeartbeats 4000000 in
set_option maxRecDepth 100000 in
theorem t_X9_plainAim {l : Launch} {G : zG} {d : Nat} {P : Int32 → zIM → zLM → Prop} {I : zIM} {L : zLM} {x1 : Int32} {x2 : Int32}  (h : ∃ j1 : Nat, ((4 : Int32) + x1) = nI j1 ∧ j1 < 12 ∧ ((((I 45 j1) = (0 : Int32) → (∃ (d3 : Nat) (P3 : Int32 → zIM → zLM → Prop), d3 + 1 ≤ d ∧ zCi l G d3 mX9_byHits [.ref 44, .int x1, .int x2, .int (1 : Int32)] I L P3 ∧ ∀ (y3 : Int32) (I3 : zIM) (L3 : zLM), P3 y3 I3 L3 → (P y3 I3 L3))) ∧ ((I 45 j1) = (1 : Int32) → (∃ (d4 : Nat) (P4 : Int32 → zIM → zLM → Prop), d4 + 1 ≤ d ∧ zCi l G d4 mX9_byHits [.ref 44, .int x1, .int x2, .int (0 : Int32)] I L P4 ∧ ∀ (y4 : Int32) (I4 : zIM) (L4 : zLM), P4 y4 I4 L4 → (P y4 I4 L4))) ∧ ((I 45 j1) = (2 : Int32) → (P (9 : Int32) I L)) ∧ ((I 45 j1) = (3 : Int32) → (∃ (d5 : Nat) (P5 : Int32 → zIM → zLM → Prop), d5 + 1 ≤ d ∧ zCi l G d5 mX9_nextOf [.ref 44, .int x1, .int x2] I L P5 ∧ ∀ (y5 : Int32) (I5 : zIM) (L5 : zLM), P5 y5 I5 L5 → (P y5 I5 L5))) ∧ ((I 45 j1) = (4 : Int32) → (∃ j6 : Nat, ((8 : Int32) + x1) = nI j6 ∧ j6 < 12 ∧ ((((I 44 6) ≤ (I 45 j6) → (P (9 : Int32) I L)) ∧ (¬ (I 44 6) ≤ (I 45 j6) → ((((I 45 j6) = x1 → (P (9 : Int32) I L)) ∧ (¬ (I 45 j6) = x1 → (∃ (d9 : Nat) (P9 : Int32 → zIM → zLM → Prop), d9 + 1 ≤ d ∧ zCi l G d9 mX9_isIn [.int x2, .int (I 45 j6)] I L P9 ∧ ∀ (y9 : Int32) (I9 : zIM) (L9 : zLM), P9 y9 I9 L9 → (((y9 = 0 → (P (9 : Int32) I9 L9)) ∧ (¬ y9 = 0 → (P (I 45 j6) I9 L9))))))))))))) ∧ (¬ (I 45 j1) = (0 : Int32) → ¬ (I 45 j1) = (1 : Int32) → ¬ (I 45 j1) = (2 : Int32) → ¬ (I 45 j1) = (3 : Int32) → ¬ (I 45 j1) = (4 : Int32) → (P (9 : Int32) I L))))) : zCi l G d mX9_plainAim [.ref 44, .int x1, .int x2] I L P := by
  refine zCn.of (ls := [some (.ref 44), some (.int x1), some (.int x2), none]) (by decide) (Nat.le_of_ble_eq_true rfl) rfl ?_
  refine z_aload_n (pc' := 1) (x := 44) dX9_plainAim_0 rfl rfl ?_
  refine z_getr (pc' := 4) (x := 45) dX9_plainAim_1 rfl fl_X9_9 rfl rfl rfl ?_
  refine z_iconst (pc' := 5) (v := 4) dX9_plainAim_4 rfl (by decide) ?_
  refine z_iload_n (pc' := 6) (x := x1) dX9_plainAim_5 rfl rfl ?_
  refine z_iadd (pc' := 7) dX9_plainAim_6 rfl ?_
  obtain ⟨j1, ha1, hb1, h⟩ := h
  refine z_iald (pc' := 8) (x := (I 45 j1)) (j := j1) dX9_plainAim_7 rfl rfl (by decide) ha1 hb1 rfl ?_
  by_cases c2_0 : (I 45 j1) = (0 : Int32)
  · replace h := h.1 c2_0
    refine z_tableIn (pc' := 44) dX9_plainAim_8 (by rw [c2_0]; decide) (by rw [c2_0]; decide) (by rw [c2_0]; rfl) (by decide) ?_
    refine z_aload_n (pc' := 45) (x := 44) dX9_plainAim_44 rfl rfl ?_
    refine z_iload_n (pc' := 46) (x := x1) dX9_plainAim_45 rfl rfl ?_
    refine z_iload_n (pc' := 47) (x := x2) dX9_plainAim_46 rfl rfl ?_
    refine z_iconst (pc' := 48) (v := 1) dX9_plainAim_47 rfl (by decide) ?_
    obtain ⟨d3, P3, hd3, hC3, h⟩ := h
    refine z_callV (pc' := 51) (M' := mX9_byHits) (As := [.int x1, .int x2, .int (1 : Int32)]) dX9_plainAim_48 rfl ml_X9_200 me_X9_byHits hC3 rfl (by decide) rfl rfl hd3 (Nat.le_of_ble_eq_true rfl) ⟨Nat.le_refl _, Nat.le_refl _⟩ rfl ?_
    rintro _ _ ⟨y3, I3, L3, rfl, rfl, hP3⟩
    replace h := h y3 I3 L3 hP3
    exact z_iret dX9_plainAim_51 rfl rfl ⟨Nat.le_refl _, Nat.le_refl _⟩ ⟨_, _, _, rfl, rfl, h⟩
  by_cases c2_1 : (I 45 j1) = (1 : Int32)
  · replace h := h.2.1 c2_1
    refine z_tableIn (pc' := 52) dX9_plainAim_8 (by rw [c2_1]; decide) (by rw [c2_1]; decide) (by rw [c2_1]; rfl) (by decide) ?_
    refine z_aload_n (pc' := 53) (x := 44) dX9_plainAim_52 rfl rfl ?_
    refine z_iload_n (pc' := 54) (x := x1) dX9_plainAim_53 rfl rfl ?_
    refine z_iload_n (pc' := 55) (x := x2) dX9_plainAim_54 rfl rfl ?_
    refine z_iconst (pc' := 56) (v := 0) dX9_plainAim_55 rfl (by decide) ?_
    obtain ⟨d4, P4, hd4, hC4, h⟩ := h
    refine z_callV (pc' := 59) (M' := mX9_byHits) (As := [.int x1, .int x2, .int (0 : Int32)]) dX9_plainAim_56 rfl ml_X9_200 me_X9_byHits hC4 rfl (by decide) rfl rfl hd4 (Nat.le_of_ble_eq_true rfl) ⟨Nat.le_refl _, Nat.le_refl _⟩ rfl ?_
    rintro _ _ ⟨y4, I4, L4, rfl, rfl, hP4⟩
    replace h := h y4 I4 L4 hP4
    exact z_iret dX9_plainAim_59 rfl rfl ⟨Nat.le_refl _, Nat.le_refl _⟩ ⟨_, _, _, rfl, rfl, h⟩
  by_cases c2_2 : (I 45 j1) = (2 : Int32)
  · replace h := h.2.2.1 c2_2
    refine z_tableIn (pc' := 105) dX9_plainAim_8 (by rw [c2_2]; decide) (by rw [c2_2]; decide) (by rw [c2_2]; rfl) (by decide) ?_
    refine z_bipush (pc' := 107) (v := 9) dX9_plainAim_105 rfl (by decide) ?_
    exact z_iret dX9_plainAim_107 rfl rfl ⟨Nat.le_refl _, Nat.le_refl _⟩ ⟨_, _, _, rfl, rfl, h⟩
  by_cases c2_3 : (I 45 j1) = (3 : Int32)
  · replace h := h.2.2.2.1 c2_3
    refine z_tableIn (pc' := 60) dX9_plainAim_8 (by rw [c2_3]; decide) (by rw [c2_3]; decide) (by rw [c2_3]; rfl) (by decide) ?_
    refine z_aload_n (pc' := 61) (x := 44) dX9_plainAim_60 rfl rfl ?_
    refine z_iload_n (pc' := 62) (x := x1) dX9_plainAim_61 rfl rfl ?_
    refine z_iload_n (pc' := 63) (x := x2) dX9_plainAim_62 rfl rfl ?_
    obtain ⟨d5, P5, hd5, hC5, h⟩ := h
    refine z_callV (pc' := 66) (M' := mX9_nextOf) (As := [.int x1, .int x2]) dX9_plainAim_63 rfl ml_X9_204 me_X9_nextOf hC5 rfl (by decide) rfl rfl hd5 (Nat.le_of_ble_eq_true rfl) ⟨Nat.le_refl _, Nat.le_refl _⟩ rfl ?_
    rintro _ _ ⟨y5, I5, L5, rfl, rfl, hP5⟩
    replace h := h y5 I5 L5 hP5
    exact z_iret dX9_plainAim_66 rfl rfl ⟨Nat.le_refl _, Nat.le_refl _⟩ ⟨_, _, _, rfl, rfl, h⟩
  by_cases c2_4 : (I 45 j1) = (4 : Int32)
  · replace h := h.2.2.2.2.1 c2_4
    refine z_tableIn (pc' := 67) dX9_plainAim_8 (by rw [c2_4]; decide) (by rw [c2_4]; decide) (by rw [c2_4]; rfl) (by decide) ?_
    refine z_aload_n (pc' := 68) (x := 44) dX9_plainAim_67 rfl rfl ?_
    refine z_getr (pc' := 71) (x := 45) dX9_plainAim_68 rfl fl_X9_9 rfl rfl rfl ?_
    refine z_bipush (pc' := 73) (v := 8) dX9_plainAim_71 rfl (by decide) ?_
    refine z_iload_n (pc' := 74) (x := x1) dX9_plainAim_73 rfl rfl ?_
    refine z_iadd (pc' := 75) dX9_plainAim_74 rfl ?_
    obtain ⟨j6, ha6, hb6, h⟩ := h
    refine z_iald (pc' := 76) (x := (I 45 j6)) (j := j6) dX9_plainAim_75 rfl rfl (by decide) ha6 hb6 rfl ?_
    refine z_istore_n (pc' := 77) (ls' := [some (.ref 44), some (.int x1), some (.int x2), some (.int (I 45 j6))]) dX9_plainAim_76 rfl (by decide) rfl ?_
    refine z_iload_n (pc' := 78) (x := (I 45 j6)) dX9_plainAim_77 rfl rfl ?_
    refine z_aload_n (pc' := 79) (x := 44) dX9_plainAim_78 rfl rfl ?_
    refine z_geti (pc' := 82) (x := (I 44 6)) dX9_plainAim_79 rfl fl_X9_96 rfl rfl rfl ?_
    refine z_icmp_ge (pc' := 85) (tgt := 102) dX9_plainAim_82 rfl (by decide) (fun c7 => ?_) (fun c7 => ?_)
    · replace h := h.1 c7
      refine z_bipush (pc' := 104) (v := 9) dX9_plainAim_102 rfl (by decide) ?_
      exact z_iret dX9_plainAim_104 rfl rfl ⟨Nat.le_refl _, Nat.le_refl _⟩ ⟨_, _, _, rfl, rfl, h⟩
    · replace h := h.2 c7
      refine z_iload_n (pc' := 86) (x := (I 45 j6)) dX9_plainAim_85 rfl rfl ?_
      refine z_iload_n (pc' := 87) (x := x1) dX9_plainAim_86 rfl rfl ?_
      refine z_icmp_eq (pc' := 90) (tgt := 102) dX9_plainAim_87 rfl (by decide) (fun c8 => ?_) (fun c8 => ?_)
      · replace h := h.1 c8
        refine z_bipush (pc' := 104) (v := 9) dX9_plainAim_102 rfl (by decide) ?_
        exact z_iret dX9_plainAim_104 rfl rfl ⟨Nat.le_refl _, Nat.le_refl _⟩ ⟨_, _, _, rfl, rfl, h⟩
      · replace h := h.2 c8
        refine z_iload_n (pc' := 91) (x := x2) dX9_plainAim_90 rfl rfl ?_
        refine z_iload_n (pc' := 92) (x := (I 45 j6)) dX9_plainAim_91 rfl rfl ?_
        obtain ⟨d9, P9, hd9, hC9, h⟩ := h
        refine z_callS (pc' := 95) (M' := mX9_isIn) (As := [.int x2, .int (I 45 j6)]) dX9_plainAim_92 rfl ml_X9_133 me_X9_isIn hC9 rfl hd9 (Nat.le_of_ble_eq_true rfl) ⟨Nat.le_refl _, Nat.le_refl _⟩ rfl ?_
        rintro _ _ ⟨y9, I9, L9, rfl, rfl, hP9⟩
        replace h := h y9 I9 L9 hP9
        refine z_if_eq (pc' := 98) (tgt := 102) dX9_plainAim_95 rfl (by decide) (fun c10 => ?_) (fun c10 => ?_)
        · replace h := h.1 c10
          refine z_bipush (pc' := 104) (v := 9) dX9_plainAim_102 rfl (by decide) ?_
          exact z_iret dX9_plainAim_104 rfl rfl ⟨Nat.le_refl _, Nat.le_refl _⟩ ⟨_, _, _, rfl, rfl, h⟩
        · replace h := h.2 c10
          refine z_iload_n (pc' := 99) (x := (I 45 j6)) dX9_plainAim_98 rfl rfl ?_
          refine z_goto (pc' := 104) dX9_plainAim_99 (by decide) ?_
          exact z_iret dX9_plainAim_104 rfl rfl ⟨Nat.le_refl _, Nat.le_refl _⟩ ⟨_, _, _, rfl, rfl, h⟩
  replace h := h.2.2.2.2.2 c2_0 c2_1 c2_2 c2_3 c2_4
  have hne2 : (I 45 j1).toInt < 0 ∨ 4 < (I 45 j1).toInt := by
    have nc2_0 := lv_neT c2_0 (a := 0) (by decide); have nc2_1 := lv_neT c2_1 (a := 1) (by decide); have nc2_2 := lv_neT c2_2 (a := 2) (by decide); have nc2_3 := lv_neT c2_3 (a := 3) (by decide); have nc2_4 := lv_neT c2_4 (a := 4) (by decide); omega
  refine z_tableOut (pc' := 105) dX9_plainAim_8 hne2 (by decide) ?_
  refine z_bipush (pc' := 107) (v := 9) dX9_plainAim_105 rfl (by decide) ?_
  exact z_iret dX9_plainAim_107 rfl rfl ⟨Nat.le_refl _, Nat.le_refl _⟩ ⟨_, _, _, rfl, rfl, h⟩
set_option maxHeartbeats 4000000 in
set_option maxRecDepth 100000 in
theorem t_X9_worthBy {l : Launch} {G : zG} {d : Nat} {P : zIM → zLM → Prop} {I : zIM} {L : zLM} {x1 : Int32} {x2 : Int32} {x3 : Int32} {x4 : Int32} {x5 : Int32}  (h : ∃ (d1 : Nat) (P1 : Int32 → zIM → zLM → Prop), d1 + 1 ≤ d ∧ zCi l G d1 mX9_nextOf [.ref 44, .int x3, .int x2] I L P1 ∧ ∀ (y1 : Int32) (I1 : zIM) (L1 : zLM), P1 y1 I1 L1 → (∃ (d2 : Nat) (P2 : Int32 → zIM → zLM → Prop), d2 + 1 ≤ d ∧ zCi l G d2 mX9_stateOf [.int (x1 + (1 : Int32)), .int x2, .int y1] I1 L1 P2 ∧ ∀ (y2 : Int32) (I2 : zIM) (L2 : zLM), P2 y2 I2 L2 → (((¬ x4 = (9 : Int32) → (∃ (d4 : Nat) (P4 : Int32 → zIM → zLM → Prop), d4 + 1 ≤ d ∧ zCi l G d4 mX9_nextOf [.ref 44, .int x3, .int (x2 &&& (((1 : Int32) <<< (x4 &&& 31)) ^^^ (-1 : Int32)))] I2 L2 P4 ∧ ∀ (y4 : Int32) (I4 : zIM) (L4 : zLM), P4 y4 I4 L4 → (∃ (d5 : Nat) (P5 : Int32 → zIM → zLM → Prop), d5 + 1 ≤ d ∧ zCi l G d5 mX9_stateOf [.int (x1 + (1 : Int32)), .int (x2 &&& (((1 : Int32) <<< (x4 &&& 31)) ^^^ (-1 : Int32))), .int y4] I4 L4 P5 ∧ ∀ (y5 : Int32) (I5 : zIM) (L5 : zLM), P5 y5 I5 L5 → (K_X9_worthBy_60 l G d P I5 L5 x5 ((4 : Int32) * y2) ((4 : Int32) * y5) (0 : Int32))))) ∧ (x4 = (9 : Int32) → (∃ (d6 : Nat) (P6 : Int32 → zIM → zLM → Prop), d6 + 1 ≤ d ∧ zCi l G d6 mX9_nextOf [.ref 44, .int x3, .int x2] I2 L2 P6 ∧ ∀ (y6 : Int32) (I6 : zIM) (L6 : zLM), P6 y6 I6 L6 → (∃ (d7 : Nat) (P7 : Int32 → zIM → zLM → Prop), d7 + 1 ≤ d ∧ zCi l G d7 mX9_stateOf [.int (x1 + (1 : Int32)), .int x2, .int y6] I6 L6 P7 ∧ ∀ (y7 : Int32) (I7 : zIM) (L7 : zLM), P7 y7 I7 L7 → (K_X9_worthBy_60 l G d P I7 L7 x5 ((4 : Int32) * y2) ((4 : Int32) * y7) (0 : Int32))))))))) : zCv l G d mX9_worthBy [.ref 44, .int x1, .int x2, .int x3, .int x4, .int x5] I L P := by
  refine zCn.of (ls := [some (.ref 44), some (.int x1), some (.int x2), some (.int x3), some (.int x4), some (.int x5), none, none, none, none]) (by decide) (Nat.le_of_ble_eq_true rfl) rfl ?_
  refine z_iconst (pc' := 1) (v := 4) dX9_worthBy_0 rfl (by decide) ?_
  refine z_iload_n (pc' := 2) (x := x1) dX9_worthBy_1 rfl rfl ?_
  refine z_iconst (pc' := 3) (v := 1) dX9_worthBy_2 rfl (by decide) ?_
  refine z_iadd (pc' := 4) dX9_worthBy_3 rfl ?_
  refine z_iload_n (pc' := 5) (x := x2) dX9_worthBy_4 rfl rfl ?_
  refine z_aload_n (pc' := 6) (x := 44) dX9_worthBy_5 rfl rfl ?_
  refine z_iload_n (pc' := 7) (x := x3) dX9_worthBy_6 rfl rfl ?_
  refine z_iload_n (pc' := 8) (x := x2) dX9_worthBy_7 rfl rfl ?_
  obtain ⟨d1, P1, hd1, hC1, h⟩ := h
  refine z_callV (pc' := 11) (M' := mX9_nextOf) (As := [.int x3, .int x2]) dX9_worthBy_8 rfl ml_X9_204 me_X9_nextOf hC1 rfl (by decide) rfl rfl hd1 (Nat.le_of_ble_eq_true rfl) ⟨Nat.le_refl _, Nat.le_refl _⟩ rfl ?_
  rintro _ _ ⟨y1, I1, L1, rfl, rfl, hP1⟩
  replace h := h y1 I1 L1 hP1
  obtain ⟨d2, P2, hd2, hC2, h⟩ := h
  refine z_callS (pc' := 14) (M' := mX9_stateOf) (As := [.int (x1 + (1 : Int32)), .int x2, .int y1]) dX9_worthBy_11 rfl ml_X9_207 me_X9_stateOf hC2 rfl hd2 (Nat.le_of_ble_eq_true rfl) ⟨Nat.le_refl _, Nat.le_refl _⟩ rfl ?_
  rintro _ _ ⟨y2, I2, L2, rfl, rfl, hP2⟩
  replace h := h y2 I2 L2 hP2
  refine z_imul (pc' := 15) dX9_worthBy_14 rfl ?_
  refine z_istore (pc' := 17) (ls' := [some (.ref 44), some (.int x1), some (.int x2), some (.int x3), some (.int x4), some (.int x5), some (.int ((4 : Int32) * y2)), none, none, none]) dX9_worthBy_15 rfl (by decide) rfl ?_
  refine z_iload (pc' := 19) (x := x4) dX9_worthBy_17 rfl rfl ?_
  refine z_bipush (pc' := 21) (v := 9) dX9_worthBy_19 rfl (by decide) ?_
  refine z_icmp_ne (pc' := 24) (tgt := 28) dX9_worthBy_21 rfl (by decide) (fun c3 => ?_) (fun c3 => ?_)
  · replace h := h.1 c3
    refine z_iload_n (pc' := 29) (x := x2) dX9_worthBy_28 rfl rfl ?_
    refine z_iconst (pc' := 30) (v := 1) dX9_worthBy_29 rfl (by decide) ?_
    refine z_iload (pc' := 32) (x := x4) dX9_worthBy_30 rfl rfl ?_
    refine z_ishl (pc' := 33) dX9_worthBy_32 rfl ?_
    refine z_iconst (pc' := 34) (v := -1) dX9_worthBy_33 rfl (by decide) ?_
    refine z_ixor (pc' := 35) dX9_worthBy_34 rfl ?_
    refine z_iand (pc' := 36) dX9_worthBy_35 rfl ?_
    refine z_istore (pc' := 38) (ls' := [some (.ref 44), some (.int x1), some (.int x2), some (.int x3), some (.int x4), some (.int x5), some (.int ((4 : Int32) * y2)), some (.int (x2 &&& (((1 : Int32) <<< (x4 &&& 31)) ^^^ (-1 : Int32)))), none, none]) dX9_worthBy_36 rfl (by decide) rfl ?_
    refine z_iconst (pc' := 39) (v := 4) dX9_worthBy_38 rfl (by decide) ?_
    refine z_iload_n (pc' := 40) (x := x1) dX9_worthBy_39 rfl rfl ?_
    refine z_iconst (pc' := 41) (v := 1) dX9_worthBy_40 rfl (by decide) ?_
    refine z_iadd (pc' := 42) dX9_worthBy_41 rfl ?_
    refine z_iload (pc' := 44) (x := (x2 &&& (((1 : Int32) <<< (x4 &&& 31)) ^^^ (-1 : Int32)))) dX9_worthBy_42 rfl rfl ?_
    refine z_aload_n (pc' := 45) (x := 44) dX9_worthBy_44 rfl rfl ?_
    refine z_iload_n (pc' := 46) (x := x3) dX9_worthBy_45 rfl rfl ?_
    refine z_iload (pc' := 48) (x := (x2 &&& (((1 : Int32) <<< (x4 &&& 31)) ^^^ (-1 : Int32)))) dX9_worthBy_46 rfl rfl ?_
    obtain ⟨d4, P4, hd4, hC4, h⟩ := h
    refine z_callV (pc' := 51) (M' := mX9_nextOf) (As := [.int x3, .int (x2 &&& (((1 : Int32) <<< (x4 &&& 31)) ^^^ (-1 : Int32)))]) dX9_worthBy_48 rfl ml_X9_204 me_X9_nextOf hC4 rfl (by decide) rfl rfl hd4 (Nat.le_of_ble_eq_true rfl) ⟨Nat.le_refl _, Nat.le_refl _⟩ rfl ?_
    rintro _ _ ⟨y4, I4, L4, rfl, rfl, hP4⟩
    replace h := h y4 I4 L4 hP4
    obtain ⟨d5, P5, hd5, hC5, h⟩ := h
    refine z_callS (pc' := 54) (M' := mX9_stateOf) (As := [.int (x1 + (1 : Int32)), .int (x2 &&& (((1 : Int32) <<< (x4 &&& 31)) ^^^ (-1 : Int32))), .int y4]) dX9_worthBy_51 rfl ml_X9_207 me_X9_stateOf hC5 rfl hd5 (Nat.le_of_ble_eq_true rfl) ⟨Nat.le_refl _, Nat.le_refl _⟩ rfl ?_
    rintro _ _ ⟨y5, I5, L5, rfl, rfl, hP5⟩
    replace h := h y5 I5 L5 hP5
    refine z_imul (pc' := 55) dX9_worthBy_54 rfl ?_
    refine z_istore (pc' := 57) (ls' := [some (.ref 44), some (.int x1), some (.int x2), some (.int x3), some (.int x4), some (.int x5), some (.int ((4 : Int32) * y2)), some (.int (x2 &&& (((1 : Int32) <<< (x4 &&& 31)) ^^^ (-1 : Int32)))), some (.int ((4 : Int32) * y5)), none]) dX9_worthBy_55 rfl (by decide) rfl ?_
    refine z_iconst (pc' := 58) (v := 0) dX9_worthBy_57 rfl (by decide) ?_
    refine z_istore (pc' := 60) (ls' := [some (.ref 44), some (.int x1), some (.int x2), some (.int x3), some (.int x4), some (.int x5), some (.int ((4 : Int32) * y2)), some (.int (x2 &&& (((1 : Int32) <<< (x4 &&& 31)) ^^^ (-1 : Int32)))), some (.int ((4 : Int32) * y5)), some (.int (0 : Int32))]) dX9_worthBy_58 rfl (by decide) rfl ?_
    refine z_sub (pc' := 0) [some (.ref 44), none, none, none, none, some (.int x5), some (.int ((4 : Int32) * y2)), none, some (.int ((4 : Int32) * y5)), some (.int (0 : Int32))] (zsub_s (zsub_n (zsub_n (zsub_n (zsub_n (zsub_s (zsub_s (zsub_n (zsub_s (zsub_s zsub_nil)))))))))) ?_
    exact h
  · replace h := h.2 c3
    refine z_iload_n (pc' := 25) (x := x2) dX9_worthBy_24 rfl rfl ?_
    refine z_goto (pc' := 36) dX9_worthBy_25 (by decide) ?_
    refine z_istore (pc' := 38) (ls' := [some (.ref 44), some (.int x1), some (.int x2), some (.int x3), some (.int x4), some (.int x5), some (.int ((4 : Int32) * y2)), some (.int x2), none, none]) dX9_worthBy_36 rfl (by decide) rfl ?_
    refine z_iconst (pc' := 39) (v := 4) dX9_worthBy_38 rfl (by decide) ?_
    refine z_iload_n (pc' := 40) (x := x1) dX9_worthBy_39 rfl rfl ?_
    refine z_iconst (pc' := 41) (v := 1) dX9_worthBy_40 rfl (by decide) ?_
    refine z_iadd (pc' := 42) dX9_worthBy_41 rfl ?_
    refine z_iload (pc' := 44) (x := x2) dX9_worthBy_42 rfl rfl ?_
    refine z_aload_n (pc' := 45) (x := 44) dX9_worthBy_44 rfl rfl ?_
    refine z_iload_n (pc' := 46) (x := x3) dX9_worthBy_45 rfl rfl ?_
    refine z_iload (pc' := 48) (x := x2) dX9_worthBy_46 rfl rfl ?_
    obtain ⟨d6, P6, hd6, hC6, h⟩ := h
    refine z_callV (pc' := 51) (M' := mX9_nextOf) (As := [.int x3, .int x2]) dX9_worthBy_48 rfl ml_X9_204 me_X9_nextOf hC6 rfl (by decide) rfl rfl hd6 (Nat.le_of_ble_eq_true rfl) ⟨Nat.le_refl _, Nat.le_refl _⟩ rfl ?_
    rintro _ _ ⟨y6, I6, L6, rfl, rfl, hP6⟩
    replace h := h y6 I6 L6 hP6
    obtain ⟨d7, P7, hd7, hC7, h⟩ := h
    refine z_callS (pc' := 54) (M' := mX9_stateOf) (As := [.int (x1 + (1 : Int32)), .int x2, .int y6]) dX9_worthBy_51 rfl ml_X9_207 me_X9_stateOf hC7 rfl hd7 (Nat.le_of_ble_eq_true rfl) ⟨Nat.le_refl _, Nat.le_refl _⟩ rfl ?_
    rintro _ _ ⟨y7, I7, L7, rfl, rfl, hP7⟩
    replace h := h y7 I7 L7 hP7
    refine z_imul (pc' := 55) dX9_worthBy_54 rfl ?_
    refine z_istore (pc' := 57) (ls' := [some (.ref 44), some (.int x1), some (.int x2), some (.int x3), some (.int x4), some (.int x5), some (.int ((4 : Int32) * y2)), some (.int x2), some (.int ((4 : Int32) * y7)), none]) dX9_worthBy_55 rfl (by decide) rfl ?_
    refine z_iconst (pc' := 58) (v := 0) dX9_worthBy_57 rfl (by decide) ?_
    refine z_istore (pc' := 60) (ls' := [some (.ref 44), some (.int x1), some (.int x2), some (.int x3), some (.int x4), some (.int x5), some (.int ((4 : Int32) * y2)), some (.int x2), some (.int ((4 : Int32) * y7)), some (.int (0 : Int32))]) dX9_worthBy_58 rfl (by decide) rfl ?_
    refine z_sub (pc' := 0) [some (.ref 44), none, none, none, none, some (.int x5), some (.int ((4 : Int32) * y2)), none, some (.int ((4 : Int32) * y7)), some (.int (0 : Int32))] (zsub_s (zsub_n (zsub_n (zsub_n (zsub_n (zsub_s (zsub_s (zsub_n (zsub_s (zsub_s zsub_nil)))))))))) ?_
    exact h
set_option maxHeartbeats 4000000 in
set_option maxRecDepth 100000 in
theorem t_X9_worthBy_60 {l : Launch} {G : zG} {d : Nat} {P : zIM → zLM → Prop} {I : zIM} {L : zLM} {x5 : Int32} {x6 : Int32} {x8 : Int32} {x9 : Int32}   (h : (((I 44 6) ≤ x9 → (P I L)) ∧ (¬ (I 44 6) ≤ x9 → (∃ j2 : Nat, (x8 + x9) = nI j2 ∧ j2 < 2560 ∧ (∃ j3 : Nat, (x6 + x9) = nI j3 ∧ j3 < 2560 ∧ (∃ j4 : Nat, x9 = nI j4 ∧ j4 < 4 ∧ (K_X9_worthBy_60 l G d P I (xL L 60 j4 (((x5.toInt64) * (L 57 j2)) + ((((12 : Int32) - x5).toInt64) * (L 57 j3)))) x5 x6 x8 (x9 + (1 : Int32))))))))) : K_X9_worthBy_60 l G d P I L x5 x6 x8 x9  := by
  refine z_iload (pc' := 62) (x := x9) dX9_worthBy_60 rfl rfl ?_
  refine z_aload_n (pc' := 63) (x := 44) dX9_worthBy_62 rfl rfl ?_
  refine z_geti (pc' := 66) (x := (I 44 6)) dX9_worthBy_63 rfl fl_X9_96 rfl rfl rfl ?_
  refine z_icmp_ge (pc' := 69) (tgt := 114) dX9_worthBy_66 rfl (by decide) (fun c1 => ?_) (fun c1 => ?_)
  · replace h := h.1 c1
    exact z_vret dX9_worthBy_114 rfl ⟨Nat.le_refl _, Nat.le_refl _⟩ ⟨_, _, rfl, rfl, h⟩
  · replace h := h.2 c1
    refine z_aload_n (pc' := 70) (x := 44) dX9_worthBy_69 rfl rfl ?_
    refine z_getr (pc' := 73) (x := 60) dX9_worthBy_70 rfl fl_X9_56 rfl rfl rfl ?_
    refine z_iload (pc' := 75) (x := x9) dX9_worthBy_73 rfl rfl ?_
    refine z_iload (pc' := 77) (x := x5) dX9_worthBy_75 rfl rfl ?_
    refine z_i2l (pc' := 78) dX9_worthBy_77 rfl ?_
    refine z_aload_n (pc' := 79) (x := 44) dX9_worthBy_78 rfl rfl ?_
    refine z_getr (pc' := 82) (x := 57) dX9_worthBy_79 rfl fl_X9_47 rfl rfl rfl ?_
    refine z_iload (pc' := 84) (x := x8) dX9_worthBy_82 rfl rfl ?_
    refine z_iload (pc' := 86) (x := x9) dX9_worthBy_84 rfl rfl ?_
    refine z_iadd (pc' := 87) dX9_worthBy_86 rfl ?_
    obtain ⟨j2, ha2, hb2, h⟩ := h
    refine z_lald (pc' := 88) (x := (L 57 j2)) (j := j2) dX9_worthBy_87 rfl rfl (by decide) ha2 hb2 rfl ?_
    refine z_lmul (pc' := 89) dX9_worthBy_88 rfl ?_
    refine z_bipush (pc' := 91) (v := 12) dX9_worthBy_89 rfl (by decide) ?_
    refine z_iload (pc' := 93) (x := x5) dX9_worthBy_91 rfl rfl ?_
    refine z_isub (pc' := 94) dX9_worthBy_93 rfl ?_
    refine z_i2l (pc' := 95) dX9_worthBy_94 rfl ?_
    refine z_aload_n (pc' := 96) (x := 44) dX9_worthBy_95 rfl rfl ?_
    refine z_getr (pc' := 99) (x := 57) dX9_worthBy_96 rfl fl_X9_47 rfl rfl rfl ?_
    refine z_iload (pc' := 101) (x := x6) dX9_worthBy_99 rfl rfl ?_
    refine z_iload (pc' := 103) (x := x9) dX9_worthBy_101 rfl rfl ?_
    refine z_iadd (pc' := 104) dX9_worthBy_103 rfl ?_
    obtain ⟨j3, ha3, hb3, h⟩ := h
    refine z_lald (pc' := 105) (x := (L 57 j3)) (j := j3) dX9_worthBy_104 rfl rfl (by decide) ha3 hb3 rfl ?_
    refine z_lmul (pc' := 106) dX9_worthBy_105 rfl ?_
    refine z_ladd (pc' := 107) dX9_worthBy_106 rfl ?_
    obtain ⟨j4, ha4, hb4, h⟩ := h
    refine z_last (pc' := 108) (j := j4) (w' := zs I (xL L 60 j4 (((x5.toInt64) * (L 57 j2)) + ((((12 : Int32) - x5).toInt64) * (L 57 j3))))) dX9_worthBy_107 rfl rfl (by decide) ha4 hb4 rfl ?_
    refine z_iinc (pc' := 111) (x := x9) (v := (x9 + (1 : Int32))) (ls' := [some (.ref 44), none, none, none, none, some (.int x5), some (.int x6), none, some (.int x8), some (.int (x9 + (1 : Int32)))]) dX9_worthBy_108 rfl rfl (by rfl) (by decide) rfl ?_
    refine z_goto (pc' := 60) dX9_worthBy_111 (by decide) ?_
    exact h
set_option maxHeartbeats 4000000 in
set_option maxRecDepth 100000 in
theorem t_X9_hitsAt {l : Launch} {G : zG} {d : Nat} {P : Int32 → zIM → zLM → Prop} {I : zIM} {L : zLM} {x1 : Int32} {x2 : Int32} {x3 : Int32} {x4 : Int32}  (h : ((¬ x4 = (9 : Int32) → (∃ (d2 : Nat) (P2 : Int32 → zIM → zLM → Prop), d2 + 1 ≤ d ∧ zCi l G d2 mX9_bitsOf [.int x2] I L P2 ∧ ∀ (y2 : Int32) (I2 : zIM) (L2 : zLM), P2 y2 I2 L2 → (∃ (d3 : Nat) (P3 : Int32 → zIM → zLM → Prop), d3 + 1 ≤ d ∧ zCi l G d3 mX9_hitsOf [.ref 44, .int x3, .int x4, .int y2, .int x1] I2 L2 P3 ∧ ∀ (y3 : Int32) (I3 : zIM) (L3 : zLM), P3 y3 I3 L3 → (P y3 I3 L3)))) ∧ (x4 = (9 : Int32) → (P (0 : Int32) I L)))) : zCi l G d mX9_hitsAt [.ref 44, .int x1, .int x2, .int x3, .int x4] I L P := by
  refine zCn.of (ls := [some (.ref 44), some (.int x1), some (.int x2), some (.int x3), some (.int x4)]) (by decide) (Nat.le_of_ble_eq_true rfl) rfl ?_
  refine z_iload (pc' := 2) (x := x4) dX9_hitsAt_0 rfl rfl ?_
  refine z_bipush (pc' := 4) (v := 9) dX9_hitsAt_2 rfl (by decide) ?_
  refine z_icmp_ne (pc' := 7) (tgt := 11) dX9_hitsAt_4 rfl (by decide) (fun c1 => ?_) (fun c1 => ?_)
  · replace h := h.1 c1
    refine z_aload_n (pc' := 12) (x := 44) dX9_hitsAt_11 rfl rfl ?_
    refine z_iload_n (pc' := 13) (x := x3) dX9_hitsAt_12 rfl rfl ?_
    refine z_iload (pc' := 15) (x := x4) dX9_hitsAt_13 rfl rfl ?_
    refine z_iload_n (pc' := 16) (x := x2) dX9_hitsAt_15 rfl rfl ?_
    obtain ⟨d2, P2, hd2, hC2, h⟩ := h
    refine z_callS (pc' := 19) (M' := mX9_bitsOf) (As := [.int x2]) dX9_hitsAt_16 rfl ml_X9_197 me_X9_bitsOf hC2 rfl hd2 (Nat.le_of_ble_eq_true rfl) ⟨Nat.le_refl _, Nat.le_refl _⟩ rfl ?_
    rintro _ _ ⟨y2, I2, L2, rfl, rfl, hP2⟩
    replace h := h y2 I2 L2 hP2
    refine z_iload_n (pc' := 20) (x := x1) dX9_hitsAt_19 rfl rfl ?_
    obtain ⟨d3, P3, hd3, hC3, h⟩ := h
    refine z_callV (pc' := 23) (M' := mX9_hitsOf) (As := [.int x3, .int x4, .int y2, .int x1]) dX9_hitsAt_20 rfl ml_X9_211 me_X9_hitsOf hC3 rfl (by decide) rfl rfl hd3 (Nat.le_of_ble_eq_true rfl) ⟨Nat.le_refl _, Nat.le_refl _⟩ rfl ?_
    rintro _ _ ⟨y3, I3, L3, rfl, rfl, hP3⟩
    replace h := h y3 I3 L3 hP3
    exact z_iret dX9_hitsAt_23 rfl rfl ⟨Nat.le_refl _, Nat.le_refl _⟩ ⟨_, _, _, rfl, rfl, h⟩
  · replace h := h.2 c1
    refine z_iconst (pc' := 8) (v := 0) dX9_hitsAt_7 rfl (by decide) ?_
    refine z_goto (pc' := 23) dX9_hitsAt_8 (by decide) ?_
    exact z_iret dX9_hitsAt_23 rfl rfl ⟨Nat.le_refl _, Nat.le_refl _⟩ ⟨_, _, _, rfl, rfl, h⟩
set_option maxHeartbeats 4000000 in
set_option maxRecDepth 100000 in
theorem t_X9_settles {l : Launch} {G : zG} {d : Nat} {P : zIM → zLM → Prop} {I : zIM} {L : zLM} {x1 : Int32} {x2 : Int32} {x3 : Int32}  (h : ∃ (d1 : Nat) (P1 : Int32 → zIM → zLM → Prop), d1 + 1 ≤ d ∧ zCi l G d1 mX9_stateOf [.int x1, .int x2, .int x3] I L P1 ∧ ∀ (y1 : Int32) (I1 : zIM) (L1 : zLM), P1 y1 I1 L1 → (∃ (d2 : Nat) (P2 : Int32 → zIM → zLM → Prop), d2 + 1 ≤ d ∧ zCi l G d2 mX9_plainAim [.ref 44, .int x3, .int x2] I1 L1 P2 ∧ ∀ (y2 : Int32) (I2 : zIM) (L2 : zLM), P2 y2 I2 L2 → (∃ j3 : Nat, ((4 : Int32) + x3) = nI j3 ∧ j3 < 12 ∧ (((¬ (I2 45 j3) = (5 : Int32) → (∃ j5 : Nat, y1 = nI j5 ∧ j5 < 640 ∧ (∃ (d6 : Nat) (P6 : Int32 → zIM → zLM → Prop), d6 + 1 ≤ d ∧ zCi l G d6 mX9_hitsAt [.ref 44, .int x1, .int x2, .int x3, .int y2] (xI I2 58 j5 y2) L2 P6 ∧ ∀ (y6 : Int32) (I6 : zIM) (L6 : zLM), P6 y6 I6 L6 → (∃ (d7 : Nat) (P7 : zIM → zLM → Prop), d7 + 1 ≤ d ∧ zCv l G d7 mX9_worthBy [.ref 44, .int x1, .int x2, .int x3, .int y2, .int y6] (xI I6 59 j5 y6) L6 P7 ∧ ∀ (I7 : zIM) (L7 : zLM), P7 I7 L7 → (K_X9_settles_190 l G d P I7 L7 y1 (0 : Int32)))))) ∧ ((I2 45 j3) = (5 : Int32) → (∃ (d8 : Nat) (P8 : zIM → zLM → Prop), d8 + 1 ≤ d ∧ zCv l G d8 mX9_worthBy [.ref 44, .int x1, .int x2, .int x3, .int (9 : Int32), .int (0 : Int32)] I2 L2 P8 ∧ ∀ (I8 : zIM) (L8 : zLM), P8 I8 L8 → (∃ j9 : Nat, x3 = nI j9 ∧ j9 < 4 ∧ (K_X9_settles_49 l G d P I8 L8 x1 x2 x3 y1 y2 (L8 60 j9) (0 : Int32)))))))))) : zCv l G d mX9_settles [.ref 44, .int x1, .int x2, .int x3] I L P := by
  refine zCn.of (ls := [some (.ref 44), some (.int x1), some (.int x2), some (.int x3), none, none, none, none, none]) (by decide) (Nat.le_of_ble_eq_true rfl) rfl ?_
  refine z_iload_n (pc' := 1) (x := x1) dX9_settles_0 rfl rfl ?_
  refine z_iload_n (pc' := 2) (x := x2) dX9_settles_1 rfl rfl ?_
  refine z_iload_n (pc' := 3) (x := x3) dX9_settles_2 rfl rfl ?_
  obtain ⟨d1, P1, hd1, hC1, h⟩ := h
  refine z_callS (pc' := 6) (M' := mX9_stateOf) (As := [.int x1, .int x2, .int x3]) dX9_settles_3 rfl ml_X9_207 me_X9_stateOf hC1 rfl hd1 (Nat.le_of_ble_eq_true rfl) ⟨Nat.le_refl _, Nat.le_refl _⟩ rfl ?_
  rintro _ _ ⟨y1, I1, L1, rfl, rfl, hP1⟩
  replace h := h y1 I1 L1 hP1
  refine z_istore (pc' := 8) (ls' := [some (.ref 44), some (.int x1), some (.int x2), some (.int x3), some (.int y1), none, none, none, none]) dX9_settles_6 rfl (by decide) rfl ?_
  refine z_aload_n (pc' := 9) (x := 44) dX9_settles_8 rfl rfl ?_
  refine z_iload_n (pc' := 10) (x := x3) dX9_settles_9 rfl rfl ?_
  refine z_iload_n (pc' := 11) (x := x2) dX9_settles_10 rfl rfl ?_
  obtain ⟨d2, P2, hd2, hC2, h⟩ := h
  refine z_callV (pc' := 14) (M' := mX9_plainAim) (As := [.int x3, .int x2]) dX9_settles_11 rfl ml_X9_215 me_X9_plainAim hC2 rfl (by decide) rfl rfl hd2 (Nat.le_of_ble_eq_true rfl) ⟨Nat.le_refl _, Nat.le_refl _⟩ rfl ?_
  rintro _ _ ⟨y2, I2, L2, rfl, rfl, hP2⟩
  replace h := h y2 I2 L2 hP2
  refine z_istore (pc' := 16) (ls' := [some (.ref 44), some (.int x1), some (.int x2), some (.int x3), some (.int y1), some (.int y2), none, none, none]) dX9_settles_14 rfl (by decide) rfl ?_
  refine z_aload_n (pc' := 17) (x := 44) dX9_settles_16 rfl rfl ?_
  refine z_getr (pc' := 20) (x := 45) dX9_settles_17 rfl fl_X9_9 rfl rfl rfl ?_
  refine z_iconst (pc' := 21) (v := 4) dX9_settles_20 rfl (by decide) ?_
  refine z_iload_n (pc' := 22) (x := x3) dX9_settles_21 rfl rfl ?_
  refine z_iadd (pc' := 23) dX9_settles_22 rfl ?_
  obtain ⟨j3, ha3, hb3, h⟩ := h
  refine z_iald (pc' := 24) (x := (I2 45 j3)) (j := j3) dX9_settles_23 rfl rfl (by decide) ha3 hb3 rfl ?_
  refine z_iconst (pc' := 25) (v := 5) dX9_settles_24 rfl (by decide) ?_
  refine z_icmp_ne (pc' := 28) (tgt := 146) dX9_settles_25 rfl (by decide) (fun c4 => ?_) (fun c4 => ?_)
  · replace h := h.1 c4
    refine z_aload_n (pc' := 147) (x := 44) dX9_settles_146 rfl rfl ?_
    refine z_getr (pc' := 150) (x := 58) dX9_settles_147 rfl fl_X9_50 rfl rfl rfl ?_
    refine z_iload (pc' := 152) (x := y1) dX9_settles_150 rfl rfl ?_
    refine z_iload (pc' := 154) (x := y2) dX9_settles_152 rfl rfl ?_
    obtain ⟨j5, ha5, hb5, h⟩ := h
    refine z_iast (pc' := 155) (j := j5) (w' := zs (xI I2 58 j5 y2) L2) dX9_settles_154 rfl rfl (by decide) ha5 hb5 rfl ?_
    refine z_aload_n (pc' := 156) (x := 44) dX9_settles_155 rfl rfl ?_
    refine z_getr (pc' := 159) (x := 59) dX9_settles_156 rfl fl_X9_53 rfl rfl rfl ?_
    refine z_iload (pc' := 161) (x := y1) dX9_settles_159 rfl rfl ?_
    refine z_aload_n (pc' := 162) (x := 44) dX9_settles_161 rfl rfl ?_
    refine z_iload_n (pc' := 163) (x := x1) dX9_settles_162 rfl rfl ?_
    refine z_iload_n (pc' := 164) (x := x2) dX9_settles_163 rfl rfl ?_
    refine z_iload_n (pc' := 165) (x := x3) dX9_settles_164 rfl rfl ?_
    refine z_iload (pc' := 167) (x := y2) dX9_settles_165 rfl rfl ?_
    obtain ⟨d6, P6, hd6, hC6, h⟩ := h
    refine z_callV (pc' := 170) (M' := mX9_hitsAt) (As := [.int x1, .int x2, .int x3, .int y2]) dX9_settles_167 rfl ml_X9_222 me_X9_hitsAt hC6 rfl (by decide) rfl rfl hd6 (Nat.le_of_ble_eq_true rfl) ⟨Nat.le_refl _, Nat.le_refl _⟩ rfl ?_
    rintro _ _ ⟨y6, I6, L6, rfl, rfl, hP6⟩
    replace h := h y6 I6 L6 hP6
    refine z_iast (pc' := 171) (j := j5) (w' := zs (xI I6 59 j5 y6) L6) dX9_settles_170 rfl rfl (by decide) ha5 hb5 rfl ?_
    refine z_aload_n (pc' := 172) (x := 44) dX9_settles_171 rfl rfl ?_
    refine z_iload_n (pc' := 173) (x := x1) dX9_settles_172 rfl rfl ?_
    refine z_iload_n (pc' := 174) (x := x2) dX9_settles_173 rfl rfl ?_
    refine z_iload_n (pc' := 175) (x := x3) dX9_settles_174 rfl rfl ?_
    refine z_iload (pc' := 177) (x := y2) dX9_settles_175 rfl rfl ?_
    refine z_aload_n (pc' := 178) (x := 44) dX9_settles_177 rfl rfl ?_
    refine z_getr (pc' := 181) (x := 59) dX9_settles_178 rfl fl_X9_53 rfl rfl rfl ?_
    refine z_iload (pc' := 183) (x := y1) dX9_settles_181 rfl rfl ?_
    refine z_iald (pc' := 184) (x := y6) (j := j5) dX9_settles_183 rfl rfl (by decide) ha5 hb5 xI_self ?_
    obtain ⟨d7, P7, hd7, hC7, h⟩ := h
    refine z_callV (pc' := 187) (M' := mX9_worthBy) (As := [.int x1, .int x2, .int x3, .int y2, .int y6]) dX9_settles_184 rfl ml_X9_218 me_X9_worthBy hC7 rfl (by decide) rfl rfl hd7 (Nat.le_of_ble_eq_true rfl) ⟨Nat.le_refl _, Nat.le_refl _⟩ rfl ?_
    rintro _ _ ⟨I7, L7, rfl, rfl, hP7⟩
    replace h := h I7 L7 hP7
    refine z_iconst (pc' := 188) (v := 0) dX9_settles_187 rfl (by decide) ?_
    refine z_istore (pc' := 190) (ls' := [some (.ref 44), some (.int x1), some (.int x2), some (.int x3), some (.int y1), some (.int y2), some (.int (0 : Int32)), none, none]) dX9_settles_188 rfl (by decide) rfl ?_
    refine z_sub (pc' := 0) [some (.ref 44), none, none, none, some (.int y1), none, some (.int (0 : Int32)), none, none] (zsub_s (zsub_n (zsub_n (zsub_n (zsub_s (zsub_n (zsub_s (zsub_n (zsub_n zsub_nil))))))))) ?_
    exact h
  · replace h := h.2 c4
    refine z_aload_n (pc' := 29) (x := 44) dX9_settles_28 rfl rfl ?_
    refine z_iload_n (pc' := 30) (x := x1) dX9_settles_29 rfl rfl ?_
    refine z_iload_n (pc' := 31) (x := x2) dX9_settles_30 rfl rfl ?_
    refine z_iload_n (pc' := 32) (x := x3) dX9_settles_31 rfl rfl ?_
    refine z_bipush (pc' := 34) (v := 9) dX9_settles_32 rfl (by decide) ?_
    refine z_iconst (pc' := 35) (v := 0) dX9_settles_34 rfl (by decide) ?_
    obtain ⟨d8, P8, hd8, hC8, h⟩ := h
    refine z_callV (pc' := 38) (M' := mX9_worthBy) (As := [.int x1, .int x2, .int x3, .int (9 : Int32), .int (0 : Int32)]) dX9_settles_35 rfl ml_X9_218 me_X9_worthBy hC8 rfl (by decide) rfl rfl hd8 (Nat.le_of_ble_eq_true rfl) ⟨Nat.le_refl _, Nat.le_refl _⟩ rfl ?_
    rintro _ _ ⟨I8, L8, rfl, rfl, hP8⟩
    replace h := h I8 L8 hP8
    refine z_aload_n (pc' := 39) (x := 44) dX9_settles_38 rfl rfl ?_
    refine z_getr (pc' := 42) (x := 60) dX9_settles_39 rfl fl_X9_56 rfl rfl rfl ?_
    refine z_iload_n (pc' := 43) (x := x3) dX9_settles_42 rfl rfl ?_
    obtain ⟨j9, ha9, hb9, h⟩ := h
    refine z_lald (pc' := 44) (x := (L8 60 j9)) (j := j9) dX9_settles_43 rfl rfl (by decide) ha9 hb9 rfl ?_
    refine z_lstore (pc' := 46) (ls' := [some (.ref 44), some (.int x1), some (.int x2), some (.int x3), some (.int y1), some (.int y2), some (.long (L8 60 j9)), none, none]) dX9_settles_44 rfl (by decide) rfl ?_
    refine z_iconst (pc' := 47) (v := 0) dX9_settles_46 rfl (by decide) ?_
    refine z_istore (pc' := 49) (ls' := [some (.ref 44), some (.int x1), some (.int x2), some (.int x3), some (.int y1), some (.int y2), some (.long (L8 60 j9)), none, some (.int (0 : Int32))]) dX9_settles_47 rfl (by decide) rfl ?_
    exact h
set_option maxHeartbeats 4000000 in
set_option maxRecDepth 100000 in
theorem t_X9_settles_190 {l : Launch} {G : zG} {d : Nat} {P : zIM → zLM → Prop} {I : zIM} {L : zLM} {x4 : Int32} {x6 : Int32}   (h : (((I 44 6) ≤ x6 → (P I L)) ∧ (¬ (I 44 6) ≤ x6 → (∃ j2 : Nat, x6 = nI j2 ∧ j2 < 4 ∧ (∃ j3 : Nat, (((4 : Int32) * x4) + x6) = nI j3 ∧ j3 < 2560 ∧ (K_X9_settles_190 l G d P I (xL L 57 j3 (L 60 j2)) x4 (x6 + (1 : Int32)))))))) : K_X9_settles_190 l G d P I L x4 x6  := by
  refine z_iload (pc' := 192) (x := x6) dX9_settles_190 rfl rfl ?_
  refine z_aload_n (pc' := 193) (x := 44) dX9_settles_192 rfl rfl ?_
  refine z_geti (pc' := 196) (x := (I 44 6)) dX9_settles_193 rfl fl_X9_96 rfl rfl rfl ?_
  refine z_icmp_ge (pc' := 199) (tgt := 224) dX9_settles_196 rfl (by decide) (fun c1 => ?_) (fun c1 => ?_)
  · replace h := h.1 c1
    exact z_vret dX9_settles_224 rfl ⟨Nat.le_refl _, Nat.le_refl _⟩ ⟨_, _, rfl, rfl, h⟩
  · replace h := h.2 c1
    refine z_aload_n (pc' := 200) (x := 44) dX9_settles_199 rfl rfl ?_
    refine z_getr (pc' := 203) (x := 57) dX9_settles_200 rfl fl_X9_47 rfl rfl rfl ?_
    refine z_iconst (pc' := 204) (v := 4) dX9_settles_203 rfl (by decide) ?_
    refine z_iload (pc' := 206) (x := x4) dX9_settles_204 rfl rfl ?_
    refine z_imul (pc' := 207) dX9_settles_206 rfl ?_
    refine z_iload (pc' := 209) (x := x6) dX9_settles_207 rfl rfl ?_
    refine z_iadd (pc' := 210) dX9_settles_209 rfl ?_
    refine z_aload_n (pc' := 211) (x := 44) dX9_settles_210 rfl rfl ?_
    refine z_getr (pc' := 214) (x := 60) dX9_settles_211 rfl fl_X9_56 rfl rfl rfl ?_
    refine z_iload (pc' := 216) (x := x6) dX9_settles_214 rfl rfl ?_
    obtain ⟨j2, ha2, hb2, h⟩ := h
    refine z_lald (pc' := 217) (x := (L 60 j2)) (j := j2) dX9_settles_216 rfl rfl (by decide) ha2 hb2 rfl ?_
    obtain ⟨j3, ha3, hb3, h⟩ := h
    refine z_last (pc' := 218) (j := j3) (w' := zs I (xL L 57 j3 (L 60 j2))) dX9_settles_217 rfl rfl (by decide) ha3 hb3 rfl ?_
    refine z_iinc (pc' := 221) (x := x6) (v := (x6 + (1 : Int32))) (ls' := [some (.ref 44), none, none, none, some (.int x4), none, some (.int (x6 + (1 : Int32))), none, none]) dX9_settles_218 rfl rfl (by rfl) (by decide) rfl ?_
    refine z_goto (pc' := 190) dX9_settles_221 (by decide) ?_
    exact h
set_option maxHeartbeats 4000000 in
set_option maxRecDepth 100000 in
theorem t_X9_settles_49 {l : Launch} {G : zG} {d : Nat} {P : zIM → zLM → Prop} {I : zIM} {L : zLM} {x1 : Int32} {x2 : Int32} {x3 : Int32} {x4 : Int32} {x5 : Int32} {x6 : Int64} {x8 : Int32}   (h : (((I 44 6) ≤ x8 → (∃ j2 : Nat, x4 = nI j2 ∧ j2 < 640 ∧ (∃ (d3 : Nat) (P3 : Int32 → zIM → zLM → Prop), d3 + 1 ≤ d ∧ zCi l G d3 mX9_hitsAt [.ref 44, .int x1, .int x2, .int x3, .int x5] (xI I 58 j2 x5) L P3 ∧ ∀ (y3 : Int32) (I3 : zIM) (L3 : zLM), P3 y3 I3 L3 → (∃ (d4 : Nat) (P4 : zIM → zLM → Prop), d4 + 1 ≤ d ∧ zCv l G d4 mX9_worthBy [.ref 44, .int x1, .int x2, .int x3, .int x5, .int y3] (xI I3 59 j2 y3) L3 P4 ∧ ∀ (I4 : zIM) (L4 : zLM), P4 I4 L4 → (K_X9_settles_190 l G d P I4 L4 x4 (0 : Int32)))))) ∧ (¬ (I 44 6) ≤ x8 → (((x8 = x3 → (K_X9_settles_49 l G d P I L x1 x2 x3 x4 x5 x6 (x8 + (1 : Int32)))) ∧ (¬ x8 = x3 → (∃ (d6 : Nat) (P6 : Int32 → zIM → zLM → Prop), d6 + 1 ≤ d ∧ zCi l G d6 mX9_isIn [.int x2, .int x8] I L P6 ∧ ∀ (y6 : Int32) (I6 : zIM) (L6 : zLM), P6 y6 I6 L6 → (((¬ y6 = 0 → (∃ (d8 : Nat) (P8 : Int32 → zIM → zLM → Prop), d8 + 1 ≤ d ∧ zCi l G d8 mX9_hitsAt [.ref 44, .int x1, .int x2, .int x3, .int x8] I6 L6 P8 ∧ ∀ (y8 : Int32) (I8 : zIM) (L8 : zLM), P8 y8 I8 L8 → (∃ (d9 : Nat) (P9 : zIM → zLM → Prop), d9 + 1 ≤ d ∧ zCv l G d9 mX9_worthBy [.ref 44, .int x1, .int x2, .int x3, .int x8, .int y8] I8 L8 P9 ∧ ∀ (I9 : zIM) (L9 : zLM), P9 I9 L9 → (∃ j10 : Nat, x3 = nI j10 ∧ j10 < 4 ∧ ((((L9 60 j10) ≤ x6 → ((((L9 60 j10) ≤ x6 → (K_X9_settles_49 l G d P I9 L9 x1 x2 x3 x4 x5 x6 (x8 + (1 : Int32)))) ∧ (¬ (L9 60 j10) ≤ x6 → (K_X9_settles_49 l G d P I9 L9 x1 x2 x3 x4 x5 (L9 60 j10) (x8 + (1 : Int32))))))) ∧ (¬ (L9 60 j10) ≤ x6 → ((((L9 60 j10) ≤ x6 → (K_X9_settles_49 l G d P I9 L9 x1 x2 x3 x4 x8 x6 (x8 + (1 : Int32)))) ∧ (¬ (L9 60 j10) ≤ x6 → (K_X9_settles_49 l G d P I9 L9 x1 x2 x3 x4 x8 (L9 60 j10) (x8 + (1 : Int32))))))))))))) ∧ (y6 = 0 → (K_X9_settles_49 l G d P I6 L6 x1 x2 x3 x4 x5 x6 (x8 + (1 : Int32))))))))))))) : K_X9_settles_49 l G d P I L x1 x2 x3 x4 x5 x6 x8  := by
  refine z_iload (pc' := 51) (x := x8) dX9_settles_49 rfl rfl ?_
  refine z_aload_n (pc' := 52) (x := 44) dX9_settles_51 rfl rfl ?_
  refine z_geti (pc' := 55) (x := (I 44 6)) dX9_settles_52 rfl fl_X9_96 rfl rfl rfl ?_
  refine z_icmp_ge (pc' := 58) (tgt := 146) dX9_settles_55 rfl (by decide) (fun c1 => ?_) (fun c1 => ?_)
  · replace h := h.1 c1
    refine z_aload_n (pc' := 147) (x := 44) dX9_settles_146 rfl rfl ?_
    refine z_getr (pc' := 150) (x := 58) dX9_settles_147 rfl fl_X9_50 rfl rfl rfl ?_
    refine z_iload (pc' := 152) (x := x4) dX9_settles_150 rfl rfl ?_
    refine z_iload (pc' := 154) (x := x5) dX9_settles_152 rfl rfl ?_
    obtain ⟨j2, ha2, hb2, h⟩ := h
    refine z_iast (pc' := 155) (j := j2) (w' := zs (xI I 58 j2 x5) L) dX9_settles_154 rfl rfl (by decide) ha2 hb2 rfl ?_
    refine z_aload_n (pc' := 156) (x := 44) dX9_settles_155 rfl rfl ?_
    refine z_getr (pc' := 159) (x := 59) dX9_settles_156 rfl fl_X9_53 rfl rfl rfl ?_
    refine z_iload (pc' := 161) (x := x4) dX9_settles_159 rfl rfl ?_
    refine z_aload_n (pc' := 162) (x := 44) dX9_settles_161 rfl rfl ?_
    refine z_iload_n (pc' := 163) (x := x1) dX9_settles_162 rfl rfl ?_
    refine z_iload_n (pc' := 164) (x := x2) dX9_settles_163 rfl rfl ?_
    refine z_iload_n (pc' := 165) (x := x3) dX9_settles_164 rfl rfl ?_
    refine z_iload (pc' := 167) (x := x5) dX9_settles_165 rfl rfl ?_
    obtain ⟨d3, P3, hd3, hC3, h⟩ := h
    refine z_callV (pc' := 170) (M' := mX9_hitsAt) (As := [.int x1, .int x2, .int x3, .int x5]) dX9_settles_167 rfl ml_X9_222 me_X9_hitsAt hC3 rfl (by decide) rfl rfl hd3 (Nat.le_of_ble_eq_true rfl) ⟨Nat.le_refl _, Nat.le_refl _⟩ rfl ?_
    rintro _ _ ⟨y3, I3, L3, rfl, rfl, hP3⟩
    replace h := h y3 I3 L3 hP3
    refine z_iast (pc' := 171) (j := j2) (w' := zs (xI I3 59 j2 y3) L3) dX9_settles_170 rfl rfl (by decide) ha2 hb2 rfl ?_
    refine z_aload_n (pc' := 172) (x := 44) dX9_settles_171 rfl rfl ?_
    refine z_iload_n (pc' := 173) (x := x1) dX9_settles_172 rfl rfl ?_
    refine z_iload_n (pc' := 174) (x := x2) dX9_settles_173 rfl rfl ?_
    refine z_iload_n (pc' := 175) (x := x3) dX9_settles_174 rfl rfl ?_
    refine z_iload (pc' := 177) (x := x5) dX9_settles_175 rfl rfl ?_
    refine z_aload_n (pc' := 178) (x := 44) dX9_settles_177 rfl rfl ?_
    refine z_getr (pc' := 181) (x := 59) dX9_settles_178 rfl fl_X9_53 rfl rfl rfl ?_
    refine z_iload (pc' := 183) (x := x4) dX9_settles_181 rfl rfl ?_
    refine z_iald (pc' := 184) (x := y3) (j := j2) dX9_settles_183 rfl rfl (by decide) ha2 hb2 xI_self ?_
    obtain ⟨d4, P4, hd4, hC4, h⟩ := h
    refine z_callV (pc' := 187) (M' := mX9_worthBy) (As := [.int x1, .int x2, .int x3, .int x5, .int y3]) dX9_settles_184 rfl ml_X9_218 me_X9_worthBy hC4 rfl (by decide) rfl rfl hd4 (Nat.le_of_ble_eq_true rfl) ⟨Nat.le_refl _, Nat.le_refl _⟩ rfl ?_
    rintro _ _ ⟨I4, L4, rfl, rfl, hP4⟩
    replace h := h I4 L4 hP4
    refine z_iconst (pc' := 188) (v := 0) dX9_settles_187 rfl (by decide) ?_
    refine z_istore (pc' := 190) (ls' := [some (.ref 44), some (.int x1), some (.int x2), some (.int x3), some (.int x4), some (.int x5), some (.int (0 : Int32)), none, some (.int x8)]) dX9_settles_188 rfl (by decide) rfl ?_
    refine z_sub (pc' := 0) [some (.ref 44), none, none, none, some (.int x4), none, some (.int (0 : Int32)), none, none] (zsub_s (zsub_n (zsub_n (zsub_n (zsub_s (zsub_n (zsub_s (zsub_n (zsub_n zsub_nil))))))))) ?_
    exact h
  · replace h := h.2 c1
    refine z_iload (pc' := 60) (x := x8) dX9_settles_58 rfl rfl ?_
    refine z_iload_n (pc' := 61) (x := x3) dX9_settles_60 rfl rfl ?_
    refine z_icmp_eq (pc' := 64) (tgt := 140) dX9_settles_61 rfl (by decide) (fun c5 => ?_) (fun c5 => ?_)
    · replace h := h.1 c5
      refine z_iinc (pc' := 143) (x := x8) (v := (x8 + (1 : Int32))) (ls' := [some (.ref 44), some (.int x1), some (.int x2), some (.int x3), some (.int x4), some (.int x5), some (.long x6), none, some (.int (x8 + (1 : Int32)))]) dX9_settles_140 rfl rfl (by rfl) (by decide) rfl ?_
      refine z_goto (pc' := 49) dX9_settles_143 (by decide) ?_
      exact h
    · replace h := h.2 c5
      refine z_iload_n (pc' := 65) (x := x2) dX9_settles_64 rfl rfl ?_
      refine z_iload (pc' := 67) (x := x8) dX9_settles_65 rfl rfl ?_
      obtain ⟨d6, P6, hd6, hC6, h⟩ := h
      refine z_callS (pc' := 70) (M' := mX9_isIn) (As := [.int x2, .int x8]) dX9_settles_67 rfl ml_X9_133 me_X9_isIn hC6 rfl hd6 (Nat.le_of_ble_eq_true rfl) ⟨Nat.le_refl _, Nat.le_refl _⟩ rfl ?_
      rintro _ _ ⟨y6, I6, L6, rfl, rfl, hP6⟩
      replace h := h y6 I6 L6 hP6
      refine z_if_ne (pc' := 73) (tgt := 76) dX9_settles_70 rfl (by decide) (fun c7 => ?_) (fun c7 => ?_)
      · replace h := h.1 c7
        refine z_aload_n (pc' := 77) (x := 44) dX9_settles_76 rfl rfl ?_
        refine z_iload_n (pc' := 78) (x := x1) dX9_settles_77 rfl rfl ?_
        refine z_iload_n (pc' := 79) (x := x2) dX9_settles_78 rfl rfl ?_
        refine z_iload_n (pc' := 80) (x := x3) dX9_settles_79 rfl rfl ?_
        refine z_iload (pc' := 82) (x := x8) dX9_settles_80 rfl rfl ?_
        refine z_aload_n (pc' := 83) (x := 44) dX9_settles_82 rfl rfl ?_
        refine z_iload_n (pc' := 84) (x := x1) dX9_settles_83 rfl rfl ?_
        refine z_iload_n (pc' := 85) (x := x2) dX9_settles_84 rfl rfl ?_
        refine z_iload_n (pc' := 86) (x := x3) dX9_settles_85 rfl rfl ?_
        refine z_iload (pc' := 88) (x := x8) dX9_settles_86 rfl rfl ?_
        obtain ⟨d8, P8, hd8, hC8, h⟩ := h
        refine z_callV (pc' := 91) (M' := mX9_hitsAt) (As := [.int x1, .int x2, .int x3, .int x8]) dX9_settles_88 rfl ml_X9_222 me_X9_hitsAt hC8 rfl (by decide) rfl rfl hd8 (Nat.le_of_ble_eq_true rfl) ⟨Nat.le_refl _, Nat.le_refl _⟩ rfl ?_
        rintro _ _ ⟨y8, I8, L8, rfl, rfl, hP8⟩
        replace h := h y8 I8 L8 hP8
        obtain ⟨d9, P9, hd9, hC9, h⟩ := h
        refine z_callV (pc' := 94) (M' := mX9_worthBy) (As := [.int x1, .int x2, .int x3, .int x8, .int y8]) dX9_settles_91 rfl ml_X9_218 me_X9_worthBy hC9 rfl (by decide) rfl rfl hd9 (Nat.le_of_ble_eq_true rfl) ⟨Nat.le_refl _, Nat.le_refl _⟩ rfl ?_
        rintro _ _ ⟨I9, L9, rfl, rfl, hP9⟩
        replace h := h I9 L9 hP9
        refine z_aload_n (pc' := 95) (x := 44) dX9_settles_94 rfl rfl ?_
        refine z_getr (pc' := 98) (x := 60) dX9_settles_95 rfl fl_X9_56 rfl rfl rfl ?_
        refine z_iload_n (pc' := 99) (x := x3) dX9_settles_98 rfl rfl ?_
        obtain ⟨j10, ha10, hb10, h⟩ := h
        refine z_lald (pc' := 100) (x := (L9 60 j10)) (j := j10) dX9_settles_99 rfl rfl (by decide) ha10 hb10 rfl ?_
        refine z_lload (pc' := 102) (x := x6) dX9_settles_100 rfl rfl ?_
        refine z_lc_le (pc' := 106) (tgt := 111) dX9_settles_102 dX9_settles_103 rfl (by decide) (fun c11 => ?_) (fun c11 => ?_)
        · replace h := h.1 c11
          refine z_iload (pc' := 113) (x := x5) dX9_settles_111 rfl rfl ?_
          refine z_istore (pc' := 115) (ls' := [some (.ref 44), some (.int x1), some (.int x2), some (.int x3), some (.int x4), some (.int x5), some (.long x6), none, some (.int x8)]) dX9_settles_113 rfl (by decide) rfl ?_
          refine z_aload_n (pc' := 116) (x := 44) dX9_settles_115 rfl rfl ?_
          refine z_getr (pc' := 119) (x := 60) dX9_settles_116 rfl fl_X9_56 rfl rfl rfl ?_
          refine z_iload_n (pc' := 120) (x := x3) dX9_settles_119 rfl rfl ?_
          refine z_lald (pc' := 121) (x := (L9 60 j10)) (j := j10) dX9_settles_120 rfl rfl (by decide) ha10 hb10 rfl ?_
          refine z_lload (pc' := 123) (x := x6) dX9_settles_121 rfl rfl ?_
          refine z_lc_le (pc' := 127) (tgt := 136) dX9_settles_123 dX9_settles_124 rfl (by decide) (fun c12 => ?_) (fun c12 => ?_)
          · replace h := h.1 c12
            refine z_lload (pc' := 138) (x := x6) dX9_settles_136 rfl rfl ?_
            refine z_lstore (pc' := 140) (ls' := [some (.ref 44), some (.int x1), some (.int x2), some (.int x3), some (.int x4), some (.int x5), some (.long x6), none, some (.int x8)]) dX9_settles_138 rfl (by decide) rfl ?_
            refine z_iinc (pc' := 143) (x := x8) (v := (x8 + (1 : Int32))) (ls' := [some (.ref 44), some (.int x1), some (.int x2), some (.int x3), some (.int x4), some (.int x5), some (.long x6), none, some (.int (x8 + (1 : Int32)))]) dX9_settles_140 rfl rfl (by rfl) (by decide) rfl ?_
            refine z_goto (pc' := 49) dX9_settles_143 (by decide) ?_
            exact h
          · replace h := h.2 c12
            refine z_aload_n (pc' := 128) (x := 44) dX9_settles_127 rfl rfl ?_
            refine z_getr (pc' := 131) (x := 60) dX9_settles_128 rfl fl_X9_56 rfl rfl rfl ?_
            refine z_iload_n (pc' := 132) (x := x3) dX9_settles_131 rfl rfl ?_
            refine z_lald (pc' := 133) (x := (L9 60 j10)) (j := j10) dX9_settles_132 rfl rfl (by decide) ha10 hb10 rfl ?_
            refine z_goto (pc' := 138) dX9_settles_133 (by decide) ?_
            refine z_lstore (pc' := 140) (ls' := [some (.ref 44), some (.int x1), some (.int x2), some (.int x3), some (.int x4), some (.int x5), some (.long (L9 60 j10)), none, some (.int x8)]) dX9_settles_138 rfl (by decide) rfl ?_
            refine z_iinc (pc' := 143) (x := x8) (v := (x8 + (1 : Int32))) (ls' := [some (.ref 44), some (.int x1), some (.int x2), some (.int x3), some (.int x4), some (.int x5), some (.long (L9 60 j10)), none, some (.int (x8 + (1 : Int32)))]) dX9_settles_140 rfl rfl (by rfl) (by decide) rfl ?_
            refine z_goto (pc' := 49) dX9_settles_143 (by decide) ?_
            exact h
        · replace h := h.2 c11
          refine z_iload (pc' := 108) (x := x8) dX9_settles_106 rfl rfl ?_
          refine z_goto (pc' := 113) dX9_settles_108 (by decide) ?_
          refine z_istore (pc' := 115) (ls' := [some (.ref 44), some (.int x1), some (.int x2), some (.int x3), some (.int x4), some (.int x8), some (.long x6), none, some (.int x8)]) dX9_settles_113 rfl (by decide) rfl ?_
          refine z_aload_n (pc' := 116) (x := 44) dX9_settles_115 rfl rfl ?_
          refine z_getr (pc' := 119) (x := 60) dX9_settles_116 rfl fl_X9_56 rfl rfl rfl ?_
          refine z_iload_n (pc' := 120) (x := x3) dX9_settles_119 rfl rfl ?_
          refine z_lald (pc' := 121) (x := (L9 60 j10)) (j := j10) dX9_settles_120 rfl rfl (by decide) ha10 hb10 rfl ?_
          refine z_lload (pc' := 123) (x := x6) dX9_settles_121 rfl rfl ?_
          refine z_lc_le (pc' := 127) (tgt := 136) dX9_settles_123 dX9_settles_124 rfl (by decide) (fun c13 => ?_) (fun c13 => ?_)
          · replace h := h.1 c13
            refine z_lload (pc' := 138) (x := x6) dX9_settles_136 rfl rfl ?_
            refine z_lstore (pc' := 140) (ls' := [some (.ref 44), some (.int x1), some (.int x2), some (.int x3), some (.int x4), some (.int x8), some (.long x6), none, some (.int x8)]) dX9_settles_138 rfl (by decide) rfl ?_
            refine z_iinc (pc' := 143) (x := x8) (v := (x8 + (1 : Int32))) (ls' := [some (.ref 44), some (.int x1), some (.int x2), some (.int x3), some (.int x4), some (.int x8), some (.long x6), none, some (.int (x8 + (1 : Int32)))]) dX9_settles_140 rfl rfl (by rfl) (by decide) rfl ?_
            refine z_goto (pc' := 49) dX9_settles_143 (by decide) ?_
            exact h
          · replace h := h.2 c13
            refine z_aload_n (pc' := 128) (x := 44) dX9_settles_127 rfl rfl ?_
            refine z_getr (pc' := 131) (x := 60) dX9_settles_128 rfl fl_X9_56 rfl rfl rfl ?_
            refine z_iload_n (pc' := 132) (x := x3) dX9_settles_131 rfl rfl ?_
            refine z_lald (pc' := 133) (x := (L9 60 j10)) (j := j10) dX9_settles_132 rfl rfl (by decide) ha10 hb10 rfl ?_
            refine z_goto (pc' := 138) dX9_settles_133 (by decide) ?_
            refine z_lstore (pc' := 140) (ls' := [some (.ref 44), some (.int x1), some (.int x2), some (.int x3), some (.int x4), some (.int x8), some (.long (L9 60 j10)), none, some (.int x8)]) dX9_settles_138 rfl (by decide) rfl ?_
            refine z_iinc (pc' := 143) (x := x8) (v := (x8 + (1 : Int32))) (ls' := [some (.ref 44), some (.int x1), some (.int x2), some (.int x3), some (.int x4), some (.int x8), some (.long (L9 60 j10)), none, some (.int (x8 + (1 : Int32)))]) dX9_settles_140 rfl rfl (by rfl) (by decide) rfl ?_
            refine z_goto (pc' := 49) dX9_settles_143 (by decide) ?_
            exact h
      · replace h := h.2 c7
        refine z_goto (pc' := 140) dX9_settles_73 (by decide) ?_
        refine z_iinc (pc' := 143) (x := x8) (v := (x8 + (1 : Int32))) (ls' := [some (.ref 44), some (.int x1), some (.int x2), some (.int x3), some (.int x4), some (.int x5), some (.long x6), none, some (.int (x8 + (1 : Int32)))]) dX9_settles_140 rfl rfl (by rfl) (by decide) rfl ?_
        refine z_goto (pc' := 49) dX9_settles_143 (by decide) ?_
        exact h
set_option maxHeartbeats 4000000 in
set_option maxRecDepth 100000 in
theorem t_X9_ends1 {l : Launch} {G : zG} {d : Nat} {P : zIM → zLM → Prop} {I : zIM} {L : zLM} {x1 : Int32} {x2 : Int32} {x3 : Int32}  (h : ∃ (d1 : Nat) (P1 : Int32 → zIM → zLM → Prop), d1 + 1 ≤ d ∧ zCi l G d1 mX9_stateOf [.int x1, .int x2, .int x3] I L P1 ∧ ∀ (y1 : Int32) (I1 : zIM) (L1 : zLM), P1 y1 I1 L1 → (∃ j2 : Nat, y1 = nI j2 ∧ j2 < 640 ∧ (K_X9_ends1_28 l G d P (xI (xI I1 58 j2 (9 : Int32)) 59 j2 (0 : Int32)) L1 x1 x2 y1 (0 : Int32)))) : zCv l G d mX9_ends1 [.ref 44, .int x1, .int x2, .int x3] I L P := by
  refine zCn.of (ls := [some (.ref 44), some (.int x1), some (.int x2), some (.int x3), none, none]) (by decide) (Nat.le_of_ble_eq_true rfl) rfl ?_
  refine z_iload_n (pc' := 1) (x := x1) dX9_ends1_0 rfl rfl ?_
  refine z_iload_n (pc' := 2) (x := x2) dX9_ends1_1 rfl rfl ?_
  refine z_iload_n (pc' := 3) (x := x3) dX9_ends1_2 rfl rfl ?_
  obtain ⟨d1, P1, hd1, hC1, h⟩ := h
  refine z_callS (pc' := 6) (M' := mX9_stateOf) (As := [.int x1, .int x2, .int x3]) dX9_ends1_3 rfl ml_X9_207 me_X9_stateOf hC1 rfl hd1 (Nat.le_of_ble_eq_true rfl) ⟨Nat.le_refl _, Nat.le_refl _⟩ rfl ?_
  rintro _ _ ⟨y1, I1, L1, rfl, rfl, hP1⟩
  replace h := h y1 I1 L1 hP1
  refine z_istore (pc' := 8) (ls' := [some (.ref 44), some (.int x1), some (.int x2), some (.int x3), some (.int y1), none]) dX9_ends1_6 rfl (by decide) rfl ?_
  refine z_aload_n (pc' := 9) (x := 44) dX9_ends1_8 rfl rfl ?_
  refine z_getr (pc' := 12) (x := 58) dX9_ends1_9 rfl fl_X9_50 rfl rfl rfl ?_
  refine z_iload (pc' := 14) (x := y1) dX9_ends1_12 rfl rfl ?_
  refine z_bipush (pc' := 16) (v := 9) dX9_ends1_14 rfl (by decide) ?_
  obtain ⟨j2, ha2, hb2, h⟩ := h
  refine z_iast (pc' := 17) (j := j2) (w' := zs (xI I1 58 j2 (9 : Int32)) L1) dX9_ends1_16 rfl rfl (by decide) ha2 hb2 rfl ?_
  refine z_aload_n (pc' := 18) (x := 44) dX9_ends1_17 rfl rfl ?_
  refine z_getr (pc' := 21) (x := 59) dX9_ends1_18 rfl fl_X9_53 rfl rfl rfl ?_
  refine z_iload (pc' := 23) (x := y1) dX9_ends1_21 rfl rfl ?_
  refine z_iconst (pc' := 24) (v := 0) dX9_ends1_23 rfl (by decide) ?_
  refine z_iast (pc' := 25) (j := j2) (w' := zs (xI (xI I1 58 j2 (9 : Int32)) 59 j2 (0 : Int32)) L1) dX9_ends1_24 rfl rfl (by decide) ha2 hb2 rfl ?_
  refine z_iconst (pc' := 26) (v := 0) dX9_ends1_25 rfl (by decide) ?_
  refine z_istore (pc' := 28) (ls' := [some (.ref 44), some (.int x1), some (.int x2), some (.int x3), some (.int y1), some (.int (0 : Int32))]) dX9_ends1_26 rfl (by decide) rfl ?_
  refine z_sub (pc' := 0) [some (.ref 44), some (.int x1), some (.int x2), none, some (.int y1), some (.int (0 : Int32))] (zsub_s (zsub_s (zsub_s (zsub_n (zsub_s (zsub_s zsub_nil)))))) ?_
  exact h
set_option maxHeartbeats 4000000 in
set_option maxRecDepth 100000 in
theorem t_X9_ends1_28 {l : Launch} {G : zG} {d : Nat} {P : zIM → zLM → Prop} {I : zIM} {L : zLM} {x1 : Int32} {x2 : Int32} {x4 : Int32} {x5 : Int32}   (h : (((I 44 6) ≤ x5 → (P I L)) ∧ (¬ (I 44 6) ≤ x5 → (∃ (d2 : Nat) (P2 : Int32 → zIM → zLM → Prop), d2 + 1 ≤ d ∧ zCi l G d2 mX9_isIn [.int x2, .int x5] I L P2 ∧ ∀ (y2 : Int32) (I2 : zIM) (L2 : zLM), P2 y2 I2 L2 → (((y2 = 0 → (∃ j4 : Nat, (((4 : Int32) * x4) + x5) = nI j4 ∧ j4 < 2560 ∧ (K_X9_ends1_28 l G d P I2 (xL L2 57 j4 (0 : Int64)) x1 x2 x4 (x5 + (1 : Int32))))) ∧ (¬ y2 = 0 → (∃ (d5 : Nat) (P5 : Int32 → zIM → zLM → Prop), d5 + 1 ≤ d ∧ zCi l G d5 mX9_bitsOf [.int x2] I2 L2 P5 ∧ ∀ (y5 : Int32) (I5 : zIM) (L5 : zLM), P5 y5 I5 L5 → (∃ j6 : Nat, y5 = nI j6 ∧ j6 < 5 ∧ (∃ j7 : Nat, ((I5 44 9) - x1) = nI j7 ∧ j7 < 10 ∧ (∃ j8 : Nat, (((4 : Int32) * x4) + x5) = nI j8 ∧ j8 < 2560 ∧ (K_X9_ends1_28 l G d P I5 (xL L5 57 j8 (((I5 51 j6).toInt64) * (L5 56 j7))) x1 x2 x4 (x5 + (1 : Int32)))))))))))))) : K_X9_ends1_28 l G d P I L x1 x2 x4 x5  := by
  refine z_iload (pc' := 30) (x := x5) dX9_ends1_28 rfl rfl ?_
  refine z_aload_n (pc' := 31) (x := 44) dX9_ends1_30 rfl rfl ?_
  refine z_geti (pc' := 34) (x := (I 44 6)) dX9_ends1_31 rfl fl_X9_96 rfl rfl rfl ?_
  refine z_icmp_ge (pc' := 37) (tgt := 90) dX9_ends1_34 rfl (by decide) (fun c1 => ?_) (fun c1 => ?_)
  · replace h := h.1 c1
    exact z_vret dX9_ends1_90 rfl ⟨Nat.le_refl _, Nat.le_refl _⟩ ⟨_, _, rfl, rfl, h⟩
  · replace h := h.2 c1
    refine z_aload_n (pc' := 38) (x := 44) dX9_ends1_37 rfl rfl ?_
    refine z_getr (pc' := 41) (x := 57) dX9_ends1_38 rfl fl_X9_47 rfl rfl rfl ?_
    refine z_iconst (pc' := 42) (v := 4) dX9_ends1_41 rfl (by decide) ?_
    refine z_iload (pc' := 44) (x := x4) dX9_ends1_42 rfl rfl ?_
    refine z_imul (pc' := 45) dX9_ends1_44 rfl ?_
    refine z_iload (pc' := 47) (x := x5) dX9_ends1_45 rfl rfl ?_
    refine z_iadd (pc' := 48) dX9_ends1_47 rfl ?_
    refine z_iload_n (pc' := 49) (x := x2) dX9_ends1_48 rfl rfl ?_
    refine z_iload (pc' := 51) (x := x5) dX9_ends1_49 rfl rfl ?_
    obtain ⟨d2, P2, hd2, hC2, h⟩ := h
    refine z_callS (pc' := 54) (M' := mX9_isIn) (As := [.int x2, .int x5]) dX9_ends1_51 rfl ml_X9_133 me_X9_isIn hC2 rfl hd2 (Nat.le_of_ble_eq_true rfl) ⟨Nat.le_refl _, Nat.le_refl _⟩ rfl ?_
    rintro _ _ ⟨y2, I2, L2, rfl, rfl, hP2⟩
    replace h := h y2 I2 L2 hP2
    refine z_if_eq (pc' := 57) (tgt := 82) dX9_ends1_54 rfl (by decide) (fun c3 => ?_) (fun c3 => ?_)
    · replace h := h.1 c3
      refine z_lconst (pc' := 83) (v := 0) dX9_ends1_82 rfl (by decide) ?_
      obtain ⟨j4, ha4, hb4, h⟩ := h
      refine z_last (pc' := 84) (j := j4) (w' := zs I2 (xL L2 57 j4 (0 : Int64))) dX9_ends1_83 rfl rfl (by decide) ha4 hb4 rfl ?_
      refine z_iinc (pc' := 87) (x := x5) (v := (x5 + (1 : Int32))) (ls' := [some (.ref 44), some (.int x1), some (.int x2), none, some (.int x4), some (.int (x5 + (1 : Int32)))]) dX9_ends1_84 rfl rfl (by rfl) (by decide) rfl ?_
      refine z_goto (pc' := 28) dX9_ends1_87 (by decide) ?_
      exact h
    · replace h := h.2 c3
      refine z_aload_n (pc' := 58) (x := 44) dX9_ends1_57 rfl rfl ?_
      refine z_getr (pc' := 61) (x := 51) dX9_ends1_58 rfl fl_X9_28 rfl rfl rfl ?_
      refine z_iload_n (pc' := 62) (x := x2) dX9_ends1_61 rfl rfl ?_
      obtain ⟨d5, P5, hd5, hC5, h⟩ := h
      refine z_callS (pc' := 65) (M' := mX9_bitsOf) (As := [.int x2]) dX9_ends1_62 rfl ml_X9_197 me_X9_bitsOf hC5 rfl hd5 (Nat.le_of_ble_eq_true rfl) ⟨Nat.le_refl _, Nat.le_refl _⟩ rfl ?_
      rintro _ _ ⟨y5, I5, L5, rfl, rfl, hP5⟩
      replace h := h y5 I5 L5 hP5
      obtain ⟨j6, ha6, hb6, h⟩ := h
      refine z_iald (pc' := 66) (x := (I5 51 j6)) (j := j6) dX9_ends1_65 rfl rfl (by decide) ha6 hb6 rfl ?_
      refine z_i2l (pc' := 67) dX9_ends1_66 rfl ?_
      refine z_aload_n (pc' := 68) (x := 44) dX9_ends1_67 rfl rfl ?_
      refine z_getr (pc' := 71) (x := 56) dX9_ends1_68 rfl fl_X9_43 rfl rfl rfl ?_
      refine z_aload_n (pc' := 72) (x := 44) dX9_ends1_71 rfl rfl ?_
      refine z_geti (pc' := 75) (x := (I5 44 9)) dX9_ends1_72 rfl fl_X9_87 rfl rfl rfl ?_
      refine z_iload_n (pc' := 76) (x := x1) dX9_ends1_75 rfl rfl ?_
      refine z_isub (pc' := 77) dX9_ends1_76 rfl ?_
      obtain ⟨j7, ha7, hb7, h⟩ := h
      refine z_lald (pc' := 78) (x := (L5 56 j7)) (j := j7) dX9_ends1_77 rfl rfl (by decide) ha7 hb7 rfl ?_
      refine z_lmul (pc' := 79) dX9_ends1_78 rfl ?_
      refine z_goto (pc' := 83) dX9_ends1_79 (by decide) ?_
      obtain ⟨j8, ha8, hb8, h⟩ := h
      refine z_last (pc' := 84) (j := j8) (w' := zs I5 (xL L5 57 j8 (((I5 51 j6).toInt64) * (L5 56 j7)))) dX9_ends1_83 rfl rfl (by decide) ha8 hb8 rfl ?_
      refine z_iinc (pc' := 87) (x := x5) (v := (x5 + (1 : Int32))) (ls' := [some (.ref 44), some (.int x1), some (.int x2), none, some (.int x4), some (.int (x5 + (1 : Int32)))]) dX9_ends1_84 rfl rfl (by rfl) (by decide) rfl ?_
      refine z_goto (pc' := 28) dX9_ends1_87 (by decide) ?_
      exact h
set_option maxHeartbeats 4000000 in
set_option maxRecDepth 100000 in
theorem t_X9_solves {l : Launch} {G : zG} {d : Nat} {P : zIM → zLM → Prop} {I : zIM} {L : zLM}   (h : K_X9_solves_9 l G d P I (xL L 56 0 (1 : Int64)) (1 : Int32)) : zCv l G d mX9_solves [.ref 44] I L P := by
  refine zCn.of (ls := [some (.ref 44), none, none, none]) (by decide) (Nat.le_of_ble_eq_true rfl) rfl ?_
  refine z_aload_n (pc' := 1) (x := 44) dX9_solves_0 rfl rfl ?_
  refine z_getr (pc' := 4) (x := 56) dX9_solves_1 rfl fl_X9_43 rfl rfl rfl ?_
  refine z_iconst (pc' := 5) (v := 0) dX9_solves_4 rfl (by decide) ?_
  refine z_lconst (pc' := 6) (v := 1) dX9_solves_5 rfl (by decide) ?_
  refine z_last (pc' := 7) (j := 0) (w' := zs I (xL L 56 0 (1 : Int64))) dX9_solves_6 rfl rfl (by decide) rfl (by decide) rfl ?_
  refine z_iconst (pc' := 8) (v := 1) dX9_solves_7 rfl (by decide) ?_
  refine z_istore_n (pc' := 9) (ls' := [some (.ref 44), some (.int (1 : Int32)), none, none]) dX9_solves_8 rfl (by decide) rfl ?_
  exact h
set_option maxHeartbeats 4000000 in
set_option maxRecDepth 100000 in
theorem t_X9_solves_9 {l : Launch} {G : zG} {d : Nat} {P : zIM → zLM → Prop} {I : zIM} {L : zLM} {x1 : Int32}   (h : (((9 : Int32) < x1 → (K_X9_solves_44 l G d P I L (I 44 9))) ∧ (¬ (9 : Int32) < x1 → (∃ j2 : Nat, (x1 - (1 : Int32)) = nI j2 ∧ j2 < 10 ∧ (∃ j3 : Nat, x1 = nI j3 ∧ j3 < 10 ∧ (K_X9_solves_9 l G d P I (xL L 56 j3 ((12 : Int64) * (L 56 j2))) (x1 + (1 : Int32)))))))) : K_X9_solves_9 l G d P I L x1  := by
  refine z_iload_n (pc' := 10) (x := x1) dX9_solves_9 rfl rfl ?_
  refine z_bipush (pc' := 12) (v := 9) dX9_solves_10 rfl (by decide) ?_
  refine z_icmp_gt (pc' := 15) (tgt := 39) dX9_solves_12 rfl (by decide) (fun c1 => ?_) (fun c1 => ?_)
  · replace h := h.1 c1
    refine z_aload_n (pc' := 40) (x := 44) dX9_solves_39 rfl rfl ?_
    refine z_geti (pc' := 43) (x := (I 44 9)) dX9_solves_40 rfl fl_X9_87 rfl rfl rfl ?_
    refine z_istore_n (pc' := 44) (ls' := [some (.ref 44), some (.int (I 44 9)), none, none]) dX9_solves_43 rfl (by decide) rfl ?_
    exact h
  · replace h := h.2 c1
    refine z_aload_n (pc' := 16) (x := 44) dX9_solves_15 rfl rfl ?_
    refine z_getr (pc' := 19) (x := 56) dX9_solves_16 rfl fl_X9_43 rfl rfl rfl ?_
    refine z_iload_n (pc' := 20) (x := x1) dX9_solves_19 rfl rfl ?_
    refine z_ldc2 (pc' := 23) (v := 12) dX9_solves_20 rfl kl_X9_103 ?_
    refine z_aload_n (pc' := 24) (x := 44) dX9_solves_23 rfl rfl ?_
    refine z_getr (pc' := 27) (x := 56) dX9_solves_24 rfl fl_X9_43 rfl rfl rfl ?_
    refine z_iload_n (pc' := 28) (x := x1) dX9_solves_27 rfl rfl ?_
    refine z_iconst (pc' := 29) (v := 1) dX9_solves_28 rfl (by decide) ?_
    refine z_isub (pc' := 30) dX9_solves_29 rfl ?_
    obtain ⟨j2, ha2, hb2, h⟩ := h
    refine z_lald (pc' := 31) (x := (L 56 j2)) (j := j2) dX9_solves_30 rfl rfl (by decide) ha2 hb2 rfl ?_
    refine z_lmul (pc' := 32) dX9_solves_31 rfl ?_
    obtain ⟨j3, ha3, hb3, h⟩ := h
    refine z_last (pc' := 33) (j := j3) (w' := zs I (xL L 56 j3 ((12 : Int64) * (L 56 j2)))) dX9_solves_32 rfl rfl (by decide) ha3 hb3 rfl ?_
    refine z_iinc (pc' := 36) (x := x1) (v := (x1 + (1 : Int32))) (ls' := [some (.ref 44), some (.int (x1 + (1 : Int32))), none, none]) dX9_solves_33 rfl rfl (by rfl) (by decide) rfl ?_
    refine z_goto (pc' := 9) dX9_solves_36 (by decide) ?_
    exact h
set_option maxHeartbeats 4000000 in
set_option maxRecDepth 100000 in
theorem t_X9_solves_44 {l : Launch} {G : zG} {d : Nat} {P : zIM → zLM → Prop} {I : zIM} {L : zLM} {x1 : Int32}   (h : ((x1 < 0 → (P I L)) ∧ (¬ x1 < 0 → (K_X9_solves_50 l G d P I L x1 (0 : Int32))))) : K_X9_solves_44 l G d P I L x1  := by
  refine z_iload_n (pc' := 45) (x := x1) dX9_solves_44 rfl rfl ?_
  refine z_if_lt (pc' := 48) (tgt := 120) dX9_solves_45 rfl (by decide) (fun c1 => ?_) (fun c1 => ?_)
  · replace h := h.1 c1
    exact z_vret dX9_solves_120 rfl ⟨Nat.le_refl _, Nat.le_refl _⟩ ⟨_, _, rfl, rfl, h⟩
  · replace h := h.2 c1
    refine z_iconst (pc' := 49) (v := 0) dX9_solves_48 rfl (by decide) ?_
    refine z_istore_n (pc' := 50) (ls' := [some (.ref 44), some (.int x1), some (.int (0 : Int32)), none]) dX9_solves_49 rfl (by decide) rfl ?_
    exact h
set_option maxHeartbeats 4000000 in
set_option maxRecDepth 100000 in
theorem t_X9_solves_50 {l : Launch} {G : zG} {d : Nat} {P : zIM → zLM → Prop} {I : zIM} {L : zLM} {x1 : Int32} {x2 : Int32}   (h : ∃ (d1 : Nat) (P1 : Int32 → zIM → zLM → Prop), d1 + 1 ≤ d ∧ zCi l G d1 mX9_all [.ref 44] I L P1 ∧ ∀ (y1 : Int32) (I1 : zIM) (L1 : zLM), P1 y1 I1 L1 → (((y1 < x2 → (K_X9_solves_44 l G d P I1 L1 (x1 + (-1 : Int32)))) ∧ (¬ y1 < x2 → (K_X9_solves_60 l G d P I1 L1 x1 x2 (0 : Int32)))))) : K_X9_solves_50 l G d P I L x1 x2  := by
  refine z_iload_n (pc' := 51) (x := x2) dX9_solves_50 rfl rfl ?_
  refine z_aload_n (pc' := 52) (x := 44) dX9_solves_51 rfl rfl ?_
  obtain ⟨d1, P1, hd1, hC1, h⟩ := h
  refine z_callV (pc' := 55) (M' := mX9_all) (As := []) dX9_solves_52 rfl ml_X9_225 me_X9_all hC1 rfl (by decide) rfl rfl hd1 (Nat.le_of_ble_eq_true rfl) ⟨Nat.le_refl _, Nat.le_refl _⟩ rfl ?_
  rintro _ _ ⟨y1, I1, L1, rfl, rfl, hP1⟩
  replace h := h y1 I1 L1 hP1
  refine z_icmp_gt (pc' := 58) (tgt := 114) dX9_solves_55 rfl (by decide) (fun c2 => ?_) (fun c2 => ?_)
  · replace h := h.1 c2
    refine z_iinc (pc' := 117) (x := x1) (v := (x1 + (-1 : Int32))) (ls' := [some (.ref 44), some (.int (x1 + (-1 : Int32))), some (.int x2), none]) dX9_solves_114 rfl rfl (by rfl) (by decide) rfl ?_
    refine z_goto (pc' := 44) dX9_solves_117 (by decide) ?_
    refine z_sub (pc' := 0) [some (.ref 44), some (.int (x1 + (-1 : Int32))), none, none] (zsub_s (zsub_s (zsub_n (zsub_n zsub_nil)))) ?_
    exact h
  · replace h := h.2 c2
    refine z_iconst (pc' := 59) (v := 0) dX9_solves_58 rfl (by decide) ?_
    refine z_istore_n (pc' := 60) (ls' := [some (.ref 44), some (.int x1), some (.int x2), some (.int (0 : Int32))]) dX9_solves_59 rfl (by decide) rfl ?_
    exact h
set_option maxHeartbeats 4000000 in
set_option maxRecDepth 100000 in
theorem t_X9_solves_60 {l : Launch} {G : zG} {d : Nat} {P : zIM → zLM → Prop} {I : zIM} {L : zLM} {x1 : Int32} {x2 : Int32} {x3 : Int32}   (h : (((I 44 6) ≤ x3 → (K_X9_solves_50 l G d P I L x1 (x2 + (1 : Int32)))) ∧ (¬ (I 44 6) ≤ x3 → (∃ (d2 : Nat) (P2 : Int32 → zIM → zLM → Prop), d2 + 1 ≤ d ∧ zCi l G d2 mX9_isOver [.ref 44, .int x1, .int x2] I L P2 ∧ ∀ (y2 : Int32) (I2 : zIM) (L2 : zLM), P2 y2 I2 L2 → (((y2 = 0 → (∃ (d4 : Nat) (P4 : Int32 → zIM → zLM → Prop), d4 + 1 ≤ d ∧ zCi l G d4 mX9_isIn [.int x2, .int x3] I2 L2 P4 ∧ ∀ (y4 : Int32) (I4 : zIM) (L4 : zLM), P4 y4 I4 L4 → (((y4 = 0 → (K_X9_solves_60 l G d P I4 L4 x1 x2 (x3 + (1 : Int32)))) ∧ (¬ y4 = 0 → (∃ (d6 : Nat) (P6 : zIM → zLM → Prop), d6 + 1 ≤ d ∧ zCv l G d6 mX9_settles [.ref 44, .int x1, .int x2, .int x3] I4 L4 P6 ∧ ∀ (I6 : zIM) (L6 : zLM), P6 I6 L6 → (K_X9_solves_60 l G d P I6 L6 x1 x2 (x3 + (1 : Int32))))))))) ∧ (¬ y2 = 0 → (∃ (d7 : Nat) (P7 : zIM → zLM → Prop), d7 + 1 ≤ d ∧ zCv l G d7 mX9_ends1 [.ref 44, .int x1, .int x2, .int x3] I2 L2 P7 ∧ ∀ (I7 : zIM) (L7 : zLM), P7 I7 L7 → (K_X9_solves_60 l G d P I7 L7 x1 x2 (x3 + (1 : Int32))))))))))) : K_X9_solves_60 l G d P I L x1 x2 x3  := by
  refine z_iload_n (pc' := 61) (x := x3) dX9_solves_60 rfl rfl ?_
  refine z_aload_n (pc' := 62) (x := 44) dX9_solves_61 rfl rfl ?_
  refine z_geti (pc' := 65) (x := (I 44 6)) dX9_solves_62 rfl fl_X9_96 rfl rfl rfl ?_
  refine z_icmp_ge (pc' := 68) (tgt := 108) dX9_solves_65 rfl (by decide) (fun c1 => ?_) (fun c1 => ?_)
  · replace h := h.1 c1
    refine z_iinc (pc' := 111) (x := x2) (v := (x2 + (1 : Int32))) (ls' := [some (.ref 44), some (.int x1), some (.int (x2 + (1 : Int32))), some (.int x3)]) dX9_solves_108 rfl rfl (by rfl) (by decide) rfl ?_
    refine z_goto (pc' := 50) dX9_solves_111 (by decide) ?_
    refine z_sub (pc' := 0) [some (.ref 44), some (.int x1), some (.int (x2 + (1 : Int32))), none] (zsub_s (zsub_s (zsub_s (zsub_n zsub_nil)))) ?_
    exact h
  · replace h := h.2 c1
    refine z_aload_n (pc' := 69) (x := 44) dX9_solves_68 rfl rfl ?_
    refine z_iload_n (pc' := 70) (x := x1) dX9_solves_69 rfl rfl ?_
    refine z_iload_n (pc' := 71) (x := x2) dX9_solves_70 rfl rfl ?_
    obtain ⟨d2, P2, hd2, hC2, h⟩ := h
    refine z_callV (pc' := 74) (M' := mX9_isOver) (As := [.int x1, .int x2]) dX9_solves_71 rfl ml_X9_228 me_X9_isOver hC2 rfl (by decide) rfl rfl hd2 (Nat.le_of_ble_eq_true rfl) ⟨Nat.le_refl _, Nat.le_refl _⟩ rfl ?_
    rintro _ _ ⟨y2, I2, L2, rfl, rfl, hP2⟩
    replace h := h y2 I2 L2 hP2
    refine z_if_eq (pc' := 77) (tgt := 87) dX9_solves_74 rfl (by decide) (fun c3 => ?_) (fun c3 => ?_)
    · replace h := h.1 c3
      refine z_iload_n (pc' := 88) (x := x2) dX9_solves_87 rfl rfl ?_
      refine z_iload_n (pc' := 89) (x := x3) dX9_solves_88 rfl rfl ?_
      obtain ⟨d4, P4, hd4, hC4, h⟩ := h
      refine z_callS (pc' := 92) (M' := mX9_isIn) (As := [.int x2, .int x3]) dX9_solves_89 rfl ml_X9_133 me_X9_isIn hC4 rfl hd4 (Nat.le_of_ble_eq_true rfl) ⟨Nat.le_refl _, Nat.le_refl _⟩ rfl ?_
      rintro _ _ ⟨y4, I4, L4, rfl, rfl, hP4⟩
      replace h := h y4 I4 L4 hP4
      refine z_if_eq (pc' := 95) (tgt := 102) dX9_solves_92 rfl (by decide) (fun c5 => ?_) (fun c5 => ?_)
      · replace h := h.1 c5
        refine z_iinc (pc' := 105) (x := x3) (v := (x3 + (1 : Int32))) (ls' := [some (.ref 44), some (.int x1), some (.int x2), some (.int (x3 + (1 : Int32)))]) dX9_solves_102 rfl rfl (by rfl) (by decide) rfl ?_
        refine z_goto (pc' := 60) dX9_solves_105 (by decide) ?_
        exact h
      · replace h := h.2 c5
        refine z_aload_n (pc' := 96) (x := 44) dX9_solves_95 rfl rfl ?_
        refine z_iload_n (pc' := 97) (x := x1) dX9_solves_96 rfl rfl ?_
        refine z_iload_n (pc' := 98) (x := x2) dX9_solves_97 rfl rfl ?_
        refine z_iload_n (pc' := 99) (x := x3) dX9_solves_98 rfl rfl ?_
        obtain ⟨d6, P6, hd6, hC6, h⟩ := h
        refine z_callV (pc' := 102) (M' := mX9_settles) (As := [.int x1, .int x2, .int x3]) dX9_solves_99 rfl ml_X9_235 me_X9_settles hC6 rfl (by decide) rfl rfl hd6 (Nat.le_of_ble_eq_true rfl) ⟨Nat.le_refl _, Nat.le_refl _⟩ rfl ?_
        rintro _ _ ⟨I6, L6, rfl, rfl, hP6⟩
        replace h := h I6 L6 hP6
        refine z_iinc (pc' := 105) (x := x3) (v := (x3 + (1 : Int32))) (ls' := [some (.ref 44), some (.int x1), some (.int x2), some (.int (x3 + (1 : Int32)))]) dX9_solves_102 rfl rfl (by rfl) (by decide) rfl ?_
        refine z_goto (pc' := 60) dX9_solves_105 (by decide) ?_
        exact h
    · replace h := h.2 c3
      refine z_aload_n (pc' := 78) (x := 44) dX9_solves_77 rfl rfl ?_
      refine z_iload_n (pc' := 79) (x := x1) dX9_solves_78 rfl rfl ?_
      refine z_iload_n (pc' := 80) (x := x2) dX9_solves_79 rfl rfl ?_
      refine z_iload_n (pc' := 81) (x := x3) dX9_solves_80 rfl rfl ?_
      obtain ⟨d7, P7, hd7, hC7, h⟩ := h
      refine z_callV (pc' := 84) (M' := mX9_ends1) (As := [.int x1, .int x2, .int x3]) dX9_solves_81 rfl ml_X9_231 me_X9_ends1 hC7 rfl (by decide) rfl rfl hd7 (Nat.le_of_ble_eq_true rfl) ⟨Nat.le_refl _, Nat.le_refl _⟩ rfl ?_
      rintro _ _ ⟨I7, L7, rfl, rfl, hP7⟩
      replace h := h I7 L7 hP7
      refine z_goto (pc' := 102) dX9_solves_84 (by decide) ?_
      refine z_iinc (pc' := 105) (x := x3) (v := (x3 + (1 : Int32))) (ls' := [some (.ref 44), some (.int x1), some (.int x2), some (.int (x3 + (1 : Int32)))]) dX9_solves_102 rfl rfl (by rfl) (by decide) rfl ?_
      refine z_goto (pc' := 60) dX9_solves_105 (by decide) ?_
      exact h
set_option maxHeartbeats 4000000 in
set_option maxRecDepth 100000 in
theorem t_X9_startOf {l : Launch} {G : zG} {d : Nat} {P : Int32 → zIM → zLM → Prop} {I : zIM} {L : zLM} {x1 : Int32} {x2 : Int32}  (h : K_X9_startOf_2 l G d P I L x1 x2 (0 : Int32)) : zCi l G d mX9_startOf [.ref 44, .int x1, .int x2] I L P := by
  refine zCn.of (ls := [some (.ref 44), some (.int x1), some (.int x2), none, none]) (by decide) (Nat.le_of_ble_eq_true rfl) rfl ?_
  refine z_iconst (pc' := 1) (v := 0) dX9_startOf_0 rfl (by decide) ?_
  refine z_istore_n (pc' := 2) (ls' := [some (.ref 44), some (.int x1), some (.int x2), some (.int (0 : Int32)), none]) dX9_startOf_1 rfl (by decide) rfl ?_
  exact h
set_option maxHeartbeats 4000000 in
set_option maxRecDepth 100000 in
theorem t_X9_startOf_2 {l : Launch} {G : zG} {d : Nat} {P : Int32 → zIM → zLM → Prop} {I : zIM} {L : zLM} {x1 : Int32} {x2 : Int32} {x3 : Int32}   (h : (((I 44 6) ≤ x3 → (P (0 : Int32) I L)) ∧ (¬ (I 44 6) ≤ x3 → ((¬ (I 44 6) = 0) ∧ (∃ j3 : Nat, ((x2 + x3) % (I 44 6)) = nI j3 ∧ j3 < 4 ∧ (∃ (d4 : Nat) (P4 : Int32 → zIM → zLM → Prop), d4 + 1 ≤ d ∧ zCi l G d4 mX9_isIn [.int x1, .int (I 49 j3)] I L P4 ∧ ∀ (y4 : Int32) (I4 : zIM) (L4 : zLM), P4 y4 I4 L4 → (((y4 = 0 → (K_X9_startOf_2 l G d P I4 L4 x1 x2 (x3 + (1 : Int32)))) ∧ (¬ y4 = 0 → (P (I 49 j3) I4 L4)))))))))) : K_X9_startOf_2 l G d P I L x1 x2 x3  := by
  refine z_iload_n (pc' := 3) (x := x3) dX9_startOf_2 rfl rfl ?_
  refine z_aload_n (pc' := 4) (x := 44) dX9_startOf_3 rfl rfl ?_
  refine z_geti (pc' := 7) (x := (I 44 6)) dX9_startOf_4 rfl fl_X9_96 rfl rfl rfl ?_
  refine z_icmp_ge (pc' := 10) (tgt := 43) dX9_startOf_7 rfl (by decide) (fun c1 => ?_) (fun c1 => ?_)
  · replace h := h.1 c1
    refine z_iconst (pc' := 44) (v := 0) dX9_startOf_43 rfl (by decide) ?_
    exact z_iret dX9_startOf_44 rfl rfl ⟨Nat.le_refl _, Nat.le_refl _⟩ ⟨_, _, _, rfl, rfl, h⟩
  · replace h := h.2 c1
    refine z_aload_n (pc' := 11) (x := 44) dX9_startOf_10 rfl rfl ?_
    refine z_getr (pc' := 14) (x := 49) dX9_startOf_11 rfl fl_X9_22 rfl rfl rfl ?_
    refine z_iload_n (pc' := 15) (x := x2) dX9_startOf_14 rfl rfl ?_
    refine z_iload_n (pc' := 16) (x := x3) dX9_startOf_15 rfl rfl ?_
    refine z_iadd (pc' := 17) dX9_startOf_16 rfl ?_
    refine z_aload_n (pc' := 18) (x := 44) dX9_startOf_17 rfl rfl ?_
    refine z_geti (pc' := 21) (x := (I 44 6)) dX9_startOf_18 rfl fl_X9_96 rfl rfl rfl ?_
    obtain ⟨hz2, h⟩ := h
    refine z_irem (pc' := 22) dX9_startOf_21 rfl hz2 ?_
    obtain ⟨j3, ha3, hb3, h⟩ := h
    refine z_iald (pc' := 23) (x := (I 49 j3)) (j := j3) dX9_startOf_22 rfl rfl (by decide) ha3 hb3 rfl ?_
    refine z_istore (pc' := 25) (ls' := [some (.ref 44), some (.int x1), some (.int x2), some (.int x3), some (.int (I 49 j3))]) dX9_startOf_23 rfl (by decide) rfl ?_
    refine z_iload_n (pc' := 26) (x := x1) dX9_startOf_25 rfl rfl ?_
    refine z_iload (pc' := 28) (x := (I 49 j3)) dX9_startOf_26 rfl rfl ?_
    obtain ⟨d4, P4, hd4, hC4, h⟩ := h
    refine z_callS (pc' := 31) (M' := mX9_isIn) (As := [.int x1, .int (I 49 j3)]) dX9_startOf_28 rfl ml_X9_133 me_X9_isIn hC4 rfl hd4 (Nat.le_of_ble_eq_true rfl) ⟨Nat.le_refl _, Nat.le_refl _⟩ rfl ?_
    rintro _ _ ⟨y4, I4, L4, rfl, rfl, hP4⟩
    replace h := h y4 I4 L4 hP4
    refine z_if_eq (pc' := 34) (tgt := 37) dX9_startOf_31 rfl (by decide) (fun c5 => ?_) (fun c5 => ?_)
    · replace h := h.1 c5
      refine z_iinc (pc' := 40) (x := x3) (v := (x3 + (1 : Int32))) (ls' := [some (.ref 44), some (.int x1), some (.int x2), some (.int (x3 + (1 : Int32))), some (.int (I 49 j3))]) dX9_startOf_37 rfl rfl (by rfl) (by decide) rfl ?_
      refine z_goto (pc' := 2) dX9_startOf_40 (by decide) ?_
      refine z_sub (pc' := 0) [some (.ref 44), some (.int x1), some (.int x2), some (.int (x3 + (1 : Int32))), none] (zsub_s (zsub_s (zsub_s (zsub_s (zsub_n zsub_nil))))) ?_
      exact h
    · replace h := h.2 c5
      refine z_iload (pc' := 36) (x := (I 49 j3)) dX9_startOf_34 rfl rfl ?_
      exact z_iret dX9_startOf_36 rfl rfl ⟨Nat.le_refl _, Nat.le_refl _⟩ ⟨_, _, _, rfl, rfl, h⟩
set_option maxHeartbeats 4000000 in
set_option maxRecDepth 100000 in
theorem t_X9_worthFrom {l : Launch} {G : zG} {d : Nat} {P : Int64 → zIM → zLM → Prop} {I : zIM} {L : zLM} {x1 : Int32} {x2 : Int32} {x3 : Int32}  (h : ∃ (d1 : Nat) (P1 : Int32 → zIM → zLM → Prop), d1 + 1 ≤ d ∧ zCi l G d1 mX9_startOf [.ref 44, .int x1, .int x2] I L P1 ∧ ∀ (y1 : Int32) (I1 : zIM) (L1 : zLM), P1 y1 I1 L1 → (∃ (d2 : Nat) (P2 : Int32 → zIM → zLM → Prop), d2 + 1 ≤ d ∧ zCi l G d2 mX9_stateOf [.int (0 : Int32), .int x1, .int y1] I1 L1 P2 ∧ ∀ (y2 : Int32) (I2 : zIM) (L2 : zLM), P2 y2 I2 L2 → (∃ j3 : Nat, (((4 : Int32) * y2) + x3) = nI j3 ∧ j3 < 2560 ∧ (P (L2 57 j3) I2 L2)))) : zCl l G d mX9_worthFrom [.ref 44, .int x1, .int x2, .int x3] I L P := by
  refine zCn.of (ls := [some (.ref 44), some (.int x1), some (.int x2), some (.int x3)]) (by decide) (Nat.le_of_ble_eq_true rfl) rfl ?_
  refine z_aload_n (pc' := 1) (x := 44) dX9_worthFrom_0 rfl rfl ?_
  refine z_getr (pc' := 4) (x := 57) dX9_worthFrom_1 rfl fl_X9_47 rfl rfl rfl ?_
  refine z_iconst (pc' := 5) (v := 4) dX9_worthFrom_4 rfl (by decide) ?_
  refine z_iconst (pc' := 6) (v := 0) dX9_worthFrom_5 rfl (by decide) ?_
  refine z_iload_n (pc' := 7) (x := x1) dX9_worthFrom_6 rfl rfl ?_
  refine z_aload_n (pc' := 8) (x := 44) dX9_worthFrom_7 rfl rfl ?_
  refine z_iload_n (pc' := 9) (x := x1) dX9_worthFrom_8 rfl rfl ?_
  refine z_iload_n (pc' := 10) (x := x2) dX9_worthFrom_9 rfl rfl ?_
  obtain ⟨d1, P1, hd1, hC1, h⟩ := h
  refine z_callV (pc' := 13) (M' := mX9_startOf) (As := [.int x1, .int x2]) dX9_worthFrom_10 rfl ml_X9_238 me_X9_startOf hC1 rfl (by decide) rfl rfl hd1 (Nat.le_of_ble_eq_true rfl) ⟨Nat.le_refl _, Nat.le_refl _⟩ rfl ?_
  rintro _ _ ⟨y1, I1, L1, rfl, rfl, hP1⟩
  replace h := h y1 I1 L1 hP1
  obtain ⟨d2, P2, hd2, hC2, h⟩ := h
  refine z_callS (pc' := 16) (M' := mX9_stateOf) (As := [.int (0 : Int32), .int x1, .int y1]) dX9_worthFrom_13 rfl ml_X9_207 me_X9_stateOf hC2 rfl hd2 (Nat.le_of_ble_eq_true rfl) ⟨Nat.le_refl _, Nat.le_refl _⟩ rfl ?_
  rintro _ _ ⟨y2, I2, L2, rfl, rfl, hP2⟩
  replace h := h y2 I2 L2 hP2
  refine z_imul (pc' := 17) dX9_worthFrom_16 rfl ?_
  refine z_iload_n (pc' := 18) (x := x3) dX9_worthFrom_17 rfl rfl ?_
  refine z_iadd (pc' := 19) dX9_worthFrom_18 rfl ?_
  obtain ⟨j3, ha3, hb3, h⟩ := h
  refine z_lald (pc' := 20) (x := (L2 57 j3)) (j := j3) dX9_worthFrom_19 rfl rfl (by decide) ha3 hb3 rfl ?_
  exact z_lret dX9_worthFrom_20 rfl ⟨Nat.le_refl _, Nat.le_refl _⟩ ⟨_, _, _, rfl, rfl, h⟩
set_option maxHeartbeats 4000000 in
set_option maxRecDepth 100000 in
theorem t_X9_worthOf {l : Launch} {G : zG} {d : Nat} {P : Int64 → zIM → zLM → Prop} {I : zIM} {L : zLM} {x1 : Int32}  (h : ∃ (d1 : Nat) (P1 : zIM → zLM → Prop), d1 + 1 ≤ d ∧ zCv l G d1 mX9_solves [.ref 44] I L P1 ∧ ∀ (I1 : zIM) (L1 : zLM), P1 I1 L1 → (∃ (d2 : Nat) (P2 : Int32 → zIM → zLM → Prop), d2 + 1 ≤ d ∧ zCi l G d2 mX9_all [.ref 44] I1 L1 P2 ∧ ∀ (y2 : Int32) (I2 : zIM) (L2 : zLM), P2 y2 I2 L2 → (∃ (d3 : Nat) (P3 : Int64 → zIM → zLM → Prop), d3 + 1 ≤ d ∧ zCl l G d3 mX9_worthFrom [.ref 44, .int y2, .int (0 : Int32), .int x1] I2 L2 P3 ∧ ∀ (y3 : Int64) (I3 : zIM) (L3 : zLM), P3 y3 I3 L3 → (P y3 I3 L3)))) : zCl l G d mX9_worthOf [.ref 44, .int x1] I L P := by
  refine zCn.of (ls := [some (.ref 44), some (.int x1)]) (by decide) (Nat.le_of_ble_eq_true rfl) rfl ?_
  refine z_aload_n (pc' := 1) (x := 44) dX9_worthOf_0 rfl rfl ?_
  obtain ⟨d1, P1, hd1, hC1, h⟩ := h
  refine z_callV (pc' := 4) (M' := mX9_solves) (As := []) dX9_worthOf_1 rfl ml_X9_241 me_X9_solves hC1 rfl (by decide) rfl rfl hd1 (Nat.le_of_ble_eq_true rfl) ⟨Nat.le_refl _, Nat.le_refl _⟩ rfl ?_
  rintro _ _ ⟨I1, L1, rfl, rfl, hP1⟩
  replace h := h I1 L1 hP1
  refine z_aload_n (pc' := 5) (x := 44) dX9_worthOf_4 rfl rfl ?_
  refine z_aload_n (pc' := 6) (x := 44) dX9_worthOf_5 rfl rfl ?_
  obtain ⟨d2, P2, hd2, hC2, h⟩ := h
  refine z_callV (pc' := 9) (M' := mX9_all) (As := []) dX9_worthOf_6 rfl ml_X9_225 me_X9_all hC2 rfl (by decide) rfl rfl hd2 (Nat.le_of_ble_eq_true rfl) ⟨Nat.le_refl _, Nat.le_refl _⟩ rfl ?_
  rintro _ _ ⟨y2, I2, L2, rfl, rfl, hP2⟩
  replace h := h y2 I2 L2 hP2
  refine z_iconst (pc' := 10) (v := 0) dX9_worthOf_9 rfl (by decide) ?_
  refine z_iload_n (pc' := 11) (x := x1) dX9_worthOf_10 rfl rfl ?_
  obtain ⟨d3, P3, hd3, hC3, h⟩ := h
  refine z_callV (pc' := 14) (M' := mX9_worthFrom) (As := [.int y2, .int (0 : Int32), .int x1]) dX9_worthOf_11 rfl ml_X9_244 me_X9_worthFrom hC3 rfl (by decide) rfl rfl hd3 (Nat.le_of_ble_eq_true rfl) ⟨Nat.le_refl _, Nat.le_refl _⟩ rfl ?_
  rintro _ _ ⟨y3, I3, L3, rfl, rfl, hP3⟩
  replace h := h y3 I3 L3 hP3
  exact z_lret dX9_worthOf_14 rfl ⟨Nat.le_refl _, Nat.le_refl _⟩ ⟨_, _, _, rfl, rfl, h⟩
set_option maxHeartbeats 4000000 in
set_option maxRecDepth 100000 in
theorem t_X9_atEnd {l : Launch} {G : zG} {d : Nat} {P : Int64 → zIM → zLM → Prop} {I : zIM} {L : zLM} {x1 : Int32} {x2 : Int32} {x3 : Int32} {x4 : Int32}  (h : ((x3 = (0 : Int32) → (∃ (d2 : Nat) (P2 : Int32 → zIM → zLM → Prop), d2 + 1 ≤ d ∧ zCi l G d2 mX9_isIn [.int x2, .int x4] I L P2 ∧ ∀ (y2 : Int32) (I2 : zIM) (L2 : zLM), P2 y2 I2 L2 → (((y2 = 0 → (P (0 : Int64) I2 L2)) ∧ (¬ y2 = 0 → (P (1 : Int64) I2 L2)))))) ∧ (x3 = (1 : Int32) → (((¬ x2 = ((1 : Int32) <<< (x4 &&& 31)) → (P (0 : Int64) I L)) ∧ (x2 = ((1 : Int32) <<< (x4 &&& 31)) → (P (1 : Int64) I L))))) ∧ (x3 = (2 : Int32) → (((¬ x2 = x4 → (P (0 : Int64) I L)) ∧ (x2 = x4 → (P (1 : Int64) I L))))) ∧ (¬ x3 = (0 : Int32) → ¬ x3 = (1 : Int32) → ¬ x3 = (2 : Int32) → (P (x1.toInt64) I L)))) : zCl l G d mX9_atEnd [.ref 44, .int x1, .int x2, .int x3, .int x4] I L P := by
  refine zCn.of (ls := [some (.ref 44), some (.int x1), some (.int x2), some (.int x3), some (.int x4)]) (by decide) (Nat.le_of_ble_eq_true rfl) rfl ?_
  refine z_iload_n (pc' := 1) (x := x3) dX9_atEnd_0 rfl rfl ?_
  by_cases c1_0 : x3 = (0 : Int32)
  · replace h := h.1 c1_0
    refine z_tableIn (pc' := 28) dX9_atEnd_1 (by rw [c1_0]; decide) (by rw [c1_0]; decide) (by rw [c1_0]; rfl) (by decide) ?_
    refine z_iload_n (pc' := 29) (x := x2) dX9_atEnd_28 rfl rfl ?_
    refine z_iload (pc' := 31) (x := x4) dX9_atEnd_29 rfl rfl ?_
    obtain ⟨d2, P2, hd2, hC2, h⟩ := h
    refine z_callS (pc' := 34) (M' := mX9_isIn) (As := [.int x2, .int x4]) dX9_atEnd_31 rfl ml_X9_133 me_X9_isIn hC2 rfl hd2 (Nat.le_of_ble_eq_true rfl) ⟨Nat.le_refl _, Nat.le_refl _⟩ rfl ?_
    rintro _ _ ⟨y2, I2, L2, rfl, rfl, hP2⟩
    replace h := h y2 I2 L2 hP2
    refine z_if_eq (pc' := 37) (tgt := 41) dX9_atEnd_34 rfl (by decide) (fun c3 => ?_) (fun c3 => ?_)
    · replace h := h.1 c3
      refine z_lconst (pc' := 42) (v := 0) dX9_atEnd_41 rfl (by decide) ?_
      exact z_lret dX9_atEnd_42 rfl ⟨Nat.le_refl _, Nat.le_refl _⟩ ⟨_, _, _, rfl, rfl, h⟩
    · replace h := h.2 c3
      refine z_lconst (pc' := 38) (v := 1) dX9_atEnd_37 rfl (by decide) ?_
      refine z_goto (pc' := 42) dX9_atEnd_38 (by decide) ?_
      exact z_lret dX9_atEnd_42 rfl ⟨Nat.le_refl _, Nat.le_refl _⟩ ⟨_, _, _, rfl, rfl, h⟩
  by_cases c1_1 : x3 = (1 : Int32)
  · replace h := h.2.1 c1_1
    refine z_tableIn (pc' := 43) dX9_atEnd_1 (by rw [c1_1]; decide) (by rw [c1_1]; decide) (by rw [c1_1]; rfl) (by decide) ?_
    refine z_iload_n (pc' := 44) (x := x2) dX9_atEnd_43 rfl rfl ?_
    refine z_iconst (pc' := 45) (v := 1) dX9_atEnd_44 rfl (by decide) ?_
    refine z_iload (pc' := 47) (x := x4) dX9_atEnd_45 rfl rfl ?_
    refine z_ishl (pc' := 48) dX9_atEnd_47 rfl ?_
    refine z_icmp_ne (pc' := 51) (tgt := 55) dX9_atEnd_48 rfl (by decide) (fun c4 => ?_) (fun c4 => ?_)
    · replace h := h.1 c4
      refine z_lconst (pc' := 56) (v := 0) dX9_atEnd_55 rfl (by decide) ?_
      exact z_lret dX9_atEnd_56 rfl ⟨Nat.le_refl _, Nat.le_refl _⟩ ⟨_, _, _, rfl, rfl, h⟩
    · replace h := h.2 c4
      refine z_lconst (pc' := 52) (v := 1) dX9_atEnd_51 rfl (by decide) ?_
      refine z_goto (pc' := 56) dX9_atEnd_52 (by decide) ?_
      exact z_lret dX9_atEnd_56 rfl ⟨Nat.le_refl _, Nat.le_refl _⟩ ⟨_, _, _, rfl, rfl, h⟩
  by_cases c1_2 : x3 = (2 : Int32)
  · replace h := h.2.2.1 c1_2
    refine z_tableIn (pc' := 57) dX9_atEnd_1 (by rw [c1_2]; decide) (by rw [c1_2]; decide) (by rw [c1_2]; rfl) (by decide) ?_
    refine z_iload_n (pc' := 58) (x := x2) dX9_atEnd_57 rfl rfl ?_
    refine z_iload (pc' := 60) (x := x4) dX9_atEnd_58 rfl rfl ?_
    refine z_icmp_ne (pc' := 63) (tgt := 67) dX9_atEnd_60 rfl (by decide) (fun c5 => ?_) (fun c5 => ?_)
    · replace h := h.1 c5
      refine z_lconst (pc' := 68) (v := 0) dX9_atEnd_67 rfl (by decide) ?_
      exact z_lret dX9_atEnd_68 rfl ⟨Nat.le_refl _, Nat.le_refl _⟩ ⟨_, _, _, rfl, rfl, h⟩
    · replace h := h.2 c5
      refine z_lconst (pc' := 64) (v := 1) dX9_atEnd_63 rfl (by decide) ?_
      refine z_goto (pc' := 68) dX9_atEnd_64 (by decide) ?_
      exact z_lret dX9_atEnd_68 rfl ⟨Nat.le_refl _, Nat.le_refl _⟩ ⟨_, _, _, rfl, rfl, h⟩
  replace h := h.2.2.2 c1_0 c1_1 c1_2
  have hne1 : x3.toInt < 0 ∨ 2 < x3.toInt := by
    have nc1_0 := lv_neT c1_0 (a := 0) (by decide); have nc1_1 := lv_neT c1_1 (a := 1) (by decide); have nc1_2 := lv_neT c1_2 (a := 2) (by decide); omega
  refine z_tableOut (pc' := 69) dX9_atEnd_1 hne1 (by decide) ?_
  refine z_iload_n (pc' := 70) (x := x1) dX9_atEnd_69 rfl rfl ?_
  refine z_i2l (pc' := 71) dX9_atEnd_70 rfl ?_
  exact z_lret dX9_atEnd_71 rfl ⟨Nat.le_refl _, Nat.le_refl _⟩ ⟨_, _, _, rfl, rfl, h⟩
set_option maxHeartbeats 4000000 in
set_option maxRecDepth 100000 in
theorem t_X9_valueOf {l : Launch} {G : zG} {d : Nat} {P : Int64 → zIM → zLM → Prop} {I : zIM} {L : zLM} {x1 : Int32} {x2 : Int32}  (h : ∃ (d1 : Nat) (P1 : zIM → zLM → Prop), d1 + 1 ≤ d ∧ zCv l G d1 mX9_solves [.ref 44] I L P1 ∧ ∀ (I1 : zIM) (L1 : zLM), P1 I1 L1 → (((¬ (I1 44 6) = 0 → (K_X9_valueOf_35 l G d P I1 L1 x1 x2 (I1 44 9))) ∧ ((I1 44 6) = 0 → (((¬ x1 = (2 : Int32) → (P (0 : Int64) I1 L1)) ∧ (x1 = (2 : Int32) → (∃ j4 : Nat, (I1 44 9) = nI j4 ∧ j4 < 10 ∧ (P (L1 56 j4) I1 L1))))))))) : zCl l G d mX9_valueOf [.ref 44, .int x1, .int x2] I L P := by
  refine zCn.of (ls := [some (.ref 44), some (.int x1), some (.int x2), none, none, none, none, none, none]) (by decide) (Nat.le_of_ble_eq_true rfl) rfl ?_
  refine z_aload_n (pc' := 1) (x := 44) dX9_valueOf_0 rfl rfl ?_
  obtain ⟨d1, P1, hd1, hC1, h⟩ := h
  refine z_callV (pc' := 4) (M' := mX9_solves) (As := []) dX9_valueOf_1 rfl ml_X9_241 me_X9_solves hC1 rfl (by decide) rfl rfl hd1 (Nat.le_of_ble_eq_true rfl) ⟨Nat.le_refl _, Nat.le_refl _⟩ rfl ?_
  rintro _ _ ⟨I1, L1, rfl, rfl, hP1⟩
  replace h := h I1 L1 hP1
  refine z_aload_n (pc' := 5) (x := 44) dX9_valueOf_4 rfl rfl ?_
  refine z_geti (pc' := 8) (x := (I1 44 6)) dX9_valueOf_5 rfl fl_X9_96 rfl rfl rfl ?_
  refine z_if_ne (pc' := 11) (tgt := 30) dX9_valueOf_8 rfl (by decide) (fun c2 => ?_) (fun c2 => ?_)
  · replace h := h.1 c2
    refine z_aload_n (pc' := 31) (x := 44) dX9_valueOf_30 rfl rfl ?_
    refine z_geti (pc' := 34) (x := (I1 44 9)) dX9_valueOf_31 rfl fl_X9_87 rfl rfl rfl ?_
    refine z_istore_n (pc' := 35) (ls' := [some (.ref 44), some (.int x1), some (.int x2), some (.int (I1 44 9)), none, none, none, none, none]) dX9_valueOf_34 rfl (by decide) rfl ?_
    exact h
  · replace h := h.2 c2
    refine z_iload_n (pc' := 12) (x := x1) dX9_valueOf_11 rfl rfl ?_
    refine z_iconst (pc' := 13) (v := 2) dX9_valueOf_12 rfl (by decide) ?_
    refine z_icmp_ne (pc' := 16) (tgt := 28) dX9_valueOf_13 rfl (by decide) (fun c3 => ?_) (fun c3 => ?_)
    · replace h := h.1 c3
      refine z_lconst (pc' := 29) (v := 0) dX9_valueOf_28 rfl (by decide) ?_
      exact z_lret dX9_valueOf_29 rfl ⟨Nat.le_refl _, Nat.le_refl _⟩ ⟨_, _, _, rfl, rfl, h⟩
    · replace h := h.2 c3
      refine z_aload_n (pc' := 17) (x := 44) dX9_valueOf_16 rfl rfl ?_
      refine z_getr (pc' := 20) (x := 56) dX9_valueOf_17 rfl fl_X9_43 rfl rfl rfl ?_
      refine z_aload_n (pc' := 21) (x := 44) dX9_valueOf_20 rfl rfl ?_
      refine z_geti (pc' := 24) (x := (I1 44 9)) dX9_valueOf_21 rfl fl_X9_87 rfl rfl rfl ?_
      obtain ⟨j4, ha4, hb4, h⟩ := h
      refine z_lald (pc' := 25) (x := (L1 56 j4)) (j := j4) dX9_valueOf_24 rfl rfl (by decide) ha4 hb4 rfl ?_
      refine z_goto (pc' := 29) dX9_valueOf_25 (by decide) ?_
      exact z_lret dX9_valueOf_29 rfl ⟨Nat.le_refl _, Nat.le_refl _⟩ ⟨_, _, _, rfl, rfl, h⟩
set_option maxHeartbeats 4000000 in
set_option maxRecDepth 100000 in
theorem t_X9_valueOf_35 {l : Launch} {G : zG} {d : Nat} {P : Int64 → zIM → zLM → Prop} {I : zIM} {L : zLM} {x1 : Int32} {x2 : Int32} {x3 : Int32}   (h : ((x3 < 0 → (∃ (d2 : Nat) (P2 : Int32 → zIM → zLM → Prop), d2 + 1 ≤ d ∧ zCi l G d2 mX9_all [.ref 44] I L P2 ∧ ∀ (y2 : Int32) (I2 : zIM) (L2 : zLM), P2 y2 I2 L2 → (∃ (d3 : Nat) (P3 : Int32 → zIM → zLM → Prop), d3 + 1 ≤ d ∧ zCi l G d3 mX9_stateOf [.int (0 : Int32), .int y2, .int (I2 49 0)] I2 L2 P3 ∧ ∀ (y3 : Int32) (I3 : zIM) (L3 : zLM), P3 y3 I3 L3 → (∃ j4 : Nat, y3 = nI j4 ∧ j4 < 640 ∧ (P (L3 61 j4) I3 L3))))) ∧ (¬ x3 < 0 → (K_X9_valueOf_42 l G d P I L x1 x2 x3 (0 : Int32))))) : K_X9_valueOf_35 l G d P I L x1 x2 x3  := by
  refine z_iload_n (pc' := 36) (x := x3) dX9_valueOf_35 rfl rfl ?_
  refine z_if_lt (pc' := 39) (tgt := 245) dX9_valueOf_36 rfl (by decide) (fun c1 => ?_) (fun c1 => ?_)
  · replace h := h.1 c1
    refine z_aload_n (pc' := 246) (x := 44) dX9_valueOf_245 rfl rfl ?_
    refine z_getr (pc' := 249) (x := 61) dX9_valueOf_246 rfl fl_X9_59 rfl rfl rfl ?_
    refine z_iconst (pc' := 250) (v := 0) dX9_valueOf_249 rfl (by decide) ?_
    refine z_aload_n (pc' := 251) (x := 44) dX9_valueOf_250 rfl rfl ?_
    obtain ⟨d2, P2, hd2, hC2, h⟩ := h
    refine z_callV (pc' := 254) (M' := mX9_all) (As := []) dX9_valueOf_251 rfl ml_X9_225 me_X9_all hC2 rfl (by decide) rfl rfl hd2 (Nat.le_of_ble_eq_true rfl) ⟨Nat.le_refl _, Nat.le_refl _⟩ rfl ?_
    rintro _ _ ⟨y2, I2, L2, rfl, rfl, hP2⟩
    replace h := h y2 I2 L2 hP2
    refine z_aload_n (pc' := 255) (x := 44) dX9_valueOf_254 rfl rfl ?_
    refine z_getr (pc' := 258) (x := 49) dX9_valueOf_255 rfl fl_X9_22 rfl rfl rfl ?_
    refine z_iconst (pc' := 259) (v := 0) dX9_valueOf_258 rfl (by decide) ?_
    refine z_iald (pc' := 260) (x := (I2 49 0)) (j := 0) dX9_valueOf_259 rfl rfl (by decide) rfl (by decide) rfl ?_
    obtain ⟨d3, P3, hd3, hC3, h⟩ := h
    refine z_callS (pc' := 263) (M' := mX9_stateOf) (As := [.int (0 : Int32), .int y2, .int (I2 49 0)]) dX9_valueOf_260 rfl ml_X9_207 me_X9_stateOf hC3 rfl hd3 (Nat.le_of_ble_eq_true rfl) ⟨Nat.le_refl _, Nat.le_refl _⟩ rfl ?_
    rintro _ _ ⟨y3, I3, L3, rfl, rfl, hP3⟩
    replace h := h y3 I3 L3 hP3
    obtain ⟨j4, ha4, hb4, h⟩ := h
    refine z_lald (pc' := 264) (x := (L3 61 j4)) (j := j4) dX9_valueOf_263 rfl rfl (by decide) ha4 hb4 rfl ?_
    exact z_lret dX9_valueOf_264 rfl ⟨Nat.le_refl _, Nat.le_refl _⟩ ⟨_, _, _, rfl, rfl, h⟩
  · replace h := h.2 c1
    refine z_iconst (pc' := 40) (v := 0) dX9_valueOf_39 rfl (by decide) ?_
    refine z_istore (pc' := 42) (ls' := [some (.ref 44), some (.int x1), some (.int x2), some (.int x3), some (.int (0 : Int32)), none, none, none, none]) dX9_valueOf_40 rfl (by decide) rfl ?_
    exact h
set_option maxHeartbeats 4000000 in
set_option maxRecDepth 100000 in
theorem t_X9_valueOf_42 {l : Launch} {G : zG} {d : Nat} {P : Int64 → zIM → zLM → Prop} {I : zIM} {L : zLM} {x1 : Int32} {x2 : Int32} {x3 : Int32} {x4 : Int32}   (h : ∃ (d1 : Nat) (P1 : Int32 → zIM → zLM → Prop), d1 + 1 ≤ d ∧ zCi l G d1 mX9_all [.ref 44] I L P1 ∧ ∀ (y1 : Int32) (I1 : zIM) (L1 : zLM), P1 y1 I1 L1 → (((y1 < x4 → (K_X9_valueOf_35 l G d P I1 L1 x1 x2 (x3 + (-1 : Int32)))) ∧ (¬ y1 < x4 → (K_X9_valueOf_54 l G d P I1 L1 x1 x2 x3 x4 (0 : Int32)))))) : K_X9_valueOf_42 l G d P I L x1 x2 x3 x4  := by
  refine z_iload (pc' := 44) (x := x4) dX9_valueOf_42 rfl rfl ?_
  refine z_aload_n (pc' := 45) (x := 44) dX9_valueOf_44 rfl rfl ?_
  obtain ⟨d1, P1, hd1, hC1, h⟩ := h
  refine z_callV (pc' := 48) (M' := mX9_all) (As := []) dX9_valueOf_45 rfl ml_X9_225 me_X9_all hC1 rfl (by decide) rfl rfl hd1 (Nat.le_of_ble_eq_true rfl) ⟨Nat.le_refl _, Nat.le_refl _⟩ rfl ?_
  rintro _ _ ⟨y1, I1, L1, rfl, rfl, hP1⟩
  replace h := h y1 I1 L1 hP1
  refine z_icmp_gt (pc' := 51) (tgt := 239) dX9_valueOf_48 rfl (by decide) (fun c2 => ?_) (fun c2 => ?_)
  · replace h := h.1 c2
    refine z_iinc (pc' := 242) (x := x3) (v := (x3 + (-1 : Int32))) (ls' := [some (.ref 44), some (.int x1), some (.int x2), some (.int (x3 + (-1 : Int32))), some (.int x4), none, none, none, none]) dX9_valueOf_239 rfl rfl (by rfl) (by decide) rfl ?_
    refine z_goto (pc' := 35) dX9_valueOf_242 (by decide) ?_
    refine z_sub (pc' := 0) [some (.ref 44), some (.int x1), some (.int x2), some (.int (x3 + (-1 : Int32))), none, none, none, none, none] (zsub_s (zsub_s (zsub_s (zsub_s (zsub_n (zsub_n (zsub_n (zsub_n (zsub_n zsub_nil))))))))) ?_
    exact h
  · replace h := h.2 c2
    refine z_iconst (pc' := 52) (v := 0) dX9_valueOf_51 rfl (by decide) ?_
    refine z_istore (pc' := 54) (ls' := [some (.ref 44), some (.int x1), some (.int x2), some (.int x3), some (.int x4), some (.int (0 : Int32)), none, none, none]) dX9_valueOf_52 rfl (by decide) rfl ?_
    exact h
set_option maxHeartbeats 4000000 in
set_option maxRecDepth 100000 in
theorem t_X9_valueOf_54 {l : Launch} {G : zG} {d : Nat} {P : Int64 → zIM → zLM → Prop} {I : zIM} {L : zLM} {x1 : Int32} {x2 : Int32} {x3 : Int32} {x4 : Int32} {x5 : Int32}   (h : (((I 44 6) ≤ x5 → (K_X9_valueOf_42 l G d P I L x1 x2 x3 (x4 + (1 : Int32)))) ∧ (¬ (I 44 6) ≤ x5 → (∃ (d2 : Nat) (P2 : Int32 → zIM → zLM → Prop), d2 + 1 ≤ d ∧ zCi l G d2 mX9_stateOf [.int x3, .int x4, .int x5] I L P2 ∧ ∀ (y2 : Int32) (I2 : zIM) (L2 : zLM), P2 y2 I2 L2 → (∃ (d3 : Nat) (P3 : Int32 → zIM → zLM → Prop), d3 + 1 ≤ d ∧ zCi l G d3 mX9_isOver [.ref 44, .int x3, .int x4] I2 L2 P3 ∧ ∀ (y3 : Int32) (I3 : zIM) (L3 : zLM), P3 y3 I3 L3 → (((y3 = 0 → (∃ (d5 : Nat) (P5 : Int32 → zIM → zLM → Prop), d5 + 1 ≤ d ∧ zCi l G d5 mX9_isIn [.int x4, .int x5] I3 L3 P5 ∧ ∀ (y5 : Int32) (I5 : zIM) (L5 : zLM), P5 y5 I5 L5 → (((y5 = 0 → (K_X9_valueOf_54 l G d P I5 L5 x1 x2 x3 x4 (x5 + (1 : Int32)))) ∧ (¬ y5 = 0 → (∃ j7 : Nat, y2 = nI j7 ∧ j7 < 640 ∧ (((¬ (I5 58 j7) = (9 : Int32) → (∃ (d9 : Nat) (P9 : Int32 → zIM → zLM → Prop), d9 + 1 ≤ d ∧ zCi l G d9 mX9_nextOf [.ref 44, .int x5, .int (x4 &&& (((1 : Int32) <<< ((I5 58 j7) &&& 31)) ^^^ (-1 : Int32)))] I5 L5 P9 ∧ ∀ (y9 : Int32) (I9 : zIM) (L9 : zLM), P9 y9 I9 L9 → (∃ (d10 : Nat) (P10 : Int32 → zIM → zLM → Prop), d10 + 1 ≤ d ∧ zCi l G d10 mX9_stateOf [.int (x3 + (1 : Int32)), .int (x4 &&& (((1 : Int32) <<< ((I5 58 j7) &&& 31)) ^^^ (-1 : Int32))), .int y9] I9 L9 P10 ∧ ∀ (y10 : Int32) (I10 : zIM) (L10 : zLM), P10 y10 I10 L10 → (∃ j11 : Nat, y10 = nI j11 ∧ j11 < 640 ∧ (∃ (d12 : Nat) (P12 : Int32 → zIM → zLM → Prop), d12 + 1 ≤ d ∧ zCi l G d12 mX9_nextOf [.ref 44, .int x5, .int x4] I10 L10 P12 ∧ ∀ (y12 : Int32) (I12 : zIM) (L12 : zLM), P12 y12 I12 L12 → (∃ (d13 : Nat) (P13 : Int32 → zIM → zLM → Prop), d13 + 1 ≤ d ∧ zCi l G d13 mX9_stateOf [.int (x3 + (1 : Int32)), .int x4, .int y12] I12 L12 P13 ∧ ∀ (y13 : Int32) (I13 : zIM) (L13 : zLM), P13 y13 I13 L13 → (∃ j14 : Nat, y13 = nI j14 ∧ j14 < 640 ∧ (K_X9_valueOf_54 l G d P I13 (xL L13 61 j7 ((((I5 59 j7).toInt64) * (L10 61 j11)) + ((((12 : Int32) - (I10 59 j7)).toInt64) * (L13 61 j14)))) x1 x2 x3 x4 (x5 + (1 : Int32)))))))))) ∧ ((I5 58 j7) = (9 : Int32) → (∃ (d15 : Nat) (P15 : Int32 → zIM → zLM → Prop), d15 + 1 ≤ d ∧ zCi l G d15 mX9_nextOf [.ref 44, .int x5, .int x4] I5 L5 P15 ∧ ∀ (y15 : Int32) (I15 : zIM) (L15 : zLM), P15 y15 I15 L15 → (∃ (d16 : Nat) (P16 : Int32 → zIM → zLM → Prop), d16 + 1 ≤ d ∧ zCi l G d16 mX9_stateOf [.int (x3 + (1 : Int32)), .int x4, .int y15] I15 L15 P16 ∧ ∀ (y16 : Int32) (I16 : zIM) (L16 : zLM), P16 y16 I16 L16 → (∃ j17 : Nat, y16 = nI j17 ∧ j17 < 640 ∧ (∃ (d18 : Nat) (P18 : Int32 → zIM → zLM → Prop), d18 + 1 ≤ d ∧ zCi l G d18 mX9_nextOf [.ref 44, .int x5, .int x4] I16 L16 P18 ∧ ∀ (y18 : Int32) (I18 : zIM) (L18 : zLM), P18 y18 I18 L18 → (∃ (d19 : Nat) (P19 : Int32 → zIM → zLM → Prop), d19 + 1 ≤ d ∧ zCi l G d19 mX9_stateOf [.int (x3 + (1 : Int32)), .int x4, .int y18] I18 L18 P19 ∧ ∀ (y19 : Int32) (I19 : zIM) (L19 : zLM), P19 y19 I19 L19 → (∃ j20 : Nat, y19 = nI j20 ∧ j20 < 640 ∧ (K_X9_valueOf_54 l G d P I19 (xL L19 61 j7 ((((I5 59 j7).toInt64) * (L16 61 j17)) + ((((12 : Int32) - (I16 59 j7)).toInt64) * (L19 61 j20)))) x1 x2 x3 x4 (x5 + (1 : Int32)))))))))))))))))) ∧ (¬ y3 = 0 → (∃ (d21 : Nat) (P21 : Int64 → zIM → zLM → Prop), d21 + 1 ≤ d ∧ zCl l G d21 mX9_atEnd [.ref 44, .int x3, .int x4, .int x1, .int x2] I3 L3 P21 ∧ ∀ (y21 : Int64) (I21 : zIM) (L21 : zLM), P21 y21 I21 L21 → (∃ j22 : Nat, ((I21 44 9) - x3) = nI j22 ∧ j22 < 10 ∧ (∃ j23 : Nat, y2 = nI j23 ∧ j23 < 640 ∧ (K_X9_valueOf_54 l G d P I21 (xL L21 61 j23 (y21 * (L21 56 j22))) x1 x2 x3 x4 (x5 + (1 : Int32)))))))))))))) : K_X9_valueOf_54 l G d P I L x1 x2 x3 x4 x5  := by
  refine z_iload (pc' := 56) (x := x5) dX9_valueOf_54 rfl rfl ?_
  refine z_aload_n (pc' := 57) (x := 44) dX9_valueOf_56 rfl rfl ?_
  refine z_geti (pc' := 60) (x := (I 44 6)) dX9_valueOf_57 rfl fl_X9_96 rfl rfl rfl ?_
  refine z_icmp_ge (pc' := 63) (tgt := 233) dX9_valueOf_60 rfl (by decide) (fun c1 => ?_) (fun c1 => ?_)
  · replace h := h.1 c1
    refine z_iinc (pc' := 236) (x := x4) (v := (x4 + (1 : Int32))) (ls' := [some (.ref 44), some (.int x1), some (.int x2), some (.int x3), some (.int (x4 + (1 : Int32))), some (.int x5), none, none, none]) dX9_valueOf_233 rfl rfl (by rfl) (by decide) rfl ?_
    refine z_goto (pc' := 42) dX9_valueOf_236 (by decide) ?_
    refine z_sub (pc' := 0) [some (.ref 44), some (.int x1), some (.int x2), some (.int x3), some (.int (x4 + (1 : Int32))), none, none, none, none] (zsub_s (zsub_s (zsub_s (zsub_s (zsub_s (zsub_n (zsub_n (zsub_n (zsub_n zsub_nil))))))))) ?_
    exact h
  · replace h := h.2 c1
    refine z_iload_n (pc' := 64) (x := x3) dX9_valueOf_63 rfl rfl ?_
    refine z_iload (pc' := 66) (x := x4) dX9_valueOf_64 rfl rfl ?_
    refine z_iload (pc' := 68) (x := x5) dX9_valueOf_66 rfl rfl ?_
    obtain ⟨d2, P2, hd2, hC2, h⟩ := h
    refine z_callS (pc' := 71) (M' := mX9_stateOf) (As := [.int x3, .int x4, .int x5]) dX9_valueOf_68 rfl ml_X9_207 me_X9_stateOf hC2 rfl hd2 (Nat.le_of_ble_eq_true rfl) ⟨Nat.le_refl _, Nat.le_refl _⟩ rfl ?_
    rintro _ _ ⟨y2, I2, L2, rfl, rfl, hP2⟩
    replace h := h y2 I2 L2 hP2
    refine z_istore (pc' := 73) (ls' := [some (.ref 44), some (.int x1), some (.int x2), some (.int x3), some (.int x4), some (.int x5), some (.int y2), none, none]) dX9_valueOf_71 rfl (by decide) rfl ?_
    refine z_aload_n (pc' := 74) (x := 44) dX9_valueOf_73 rfl rfl ?_
    refine z_iload_n (pc' := 75) (x := x3) dX9_valueOf_74 rfl rfl ?_
    refine z_iload (pc' := 77) (x := x4) dX9_valueOf_75 rfl rfl ?_
    obtain ⟨d3, P3, hd3, hC3, h⟩ := h
    refine z_callV (pc' := 80) (M' := mX9_isOver) (As := [.int x3, .int x4]) dX9_valueOf_77 rfl ml_X9_228 me_X9_isOver hC3 rfl (by decide) rfl rfl hd3 (Nat.le_of_ble_eq_true rfl) ⟨Nat.le_refl _, Nat.le_refl _⟩ rfl ?_
    rintro _ _ ⟨y3, I3, L3, rfl, rfl, hP3⟩
    replace h := h y3 I3 L3 hP3
    refine z_if_eq (pc' := 83) (tgt := 114) dX9_valueOf_80 rfl (by decide) (fun c4 => ?_) (fun c4 => ?_)
    · replace h := h.1 c4
      refine z_iload (pc' := 116) (x := x4) dX9_valueOf_114 rfl rfl ?_
      refine z_iload (pc' := 118) (x := x5) dX9_valueOf_116 rfl rfl ?_
      obtain ⟨d5, P5, hd5, hC5, h⟩ := h
      refine z_callS (pc' := 121) (M' := mX9_isIn) (As := [.int x4, .int x5]) dX9_valueOf_118 rfl ml_X9_133 me_X9_isIn hC5 rfl hd5 (Nat.le_of_ble_eq_true rfl) ⟨Nat.le_refl _, Nat.le_refl _⟩ rfl ?_
      rintro _ _ ⟨y5, I5, L5, rfl, rfl, hP5⟩
      replace h := h y5 I5 L5 hP5
      refine z_if_eq (pc' := 124) (tgt := 227) dX9_valueOf_121 rfl (by decide) (fun c6 => ?_) (fun c6 => ?_)
      · replace h := h.1 c6
        refine z_iinc (pc' := 230) (x := x5) (v := (x5 + (1 : Int32))) (ls' := [some (.ref 44), some (.int x1), some (.int x2), some (.int x3), some (.int x4), some (.int (x5 + (1 : Int32))), some (.int y2), none, none]) dX9_valueOf_227 rfl rfl (by rfl) (by decide) rfl ?_
        refine z_goto (pc' := 54) dX9_valueOf_230 (by decide) ?_
        refine z_sub (pc' := 0) [some (.ref 44), some (.int x1), some (.int x2), some (.int x3), some (.int x4), some (.int (x5 + (1 : Int32))), none, none, none] (zsub_s (zsub_s (zsub_s (zsub_s (zsub_s (zsub_s (zsub_n (zsub_n (zsub_n zsub_nil))))))))) ?_
        exact h
      · replace h := h.2 c6
        refine z_aload_n (pc' := 125) (x := 44) dX9_valueOf_124 rfl rfl ?_
        refine z_getr (pc' := 128) (x := 58) dX9_valueOf_125 rfl fl_X9_50 rfl rfl rfl ?_
        refine z_iload (pc' := 130) (x := y2) dX9_valueOf_128 rfl rfl ?_
        obtain ⟨j7, ha7, hb7, h⟩ := h
        refine z_iald (pc' := 131) (x := (I5 58 j7)) (j := j7) dX9_valueOf_130 rfl rfl (by decide) ha7 hb7 rfl ?_
        refine z_istore (pc' := 133) (ls' := [some (.ref 44), some (.int x1), some (.int x2), some (.int x3), some (.int x4), some (.int x5), some (.int y2), some (.int (I5 58 j7)), none]) dX9_valueOf_131 rfl (by decide) rfl ?_
        refine z_iload (pc' := 135) (x := (I5 58 j7)) dX9_valueOf_133 rfl rfl ?_
        refine z_bipush (pc' := 137) (v := 9) dX9_valueOf_135 rfl (by decide) ?_
        refine z_icmp_ne (pc' := 140) (tgt := 145) dX9_valueOf_137 rfl (by decide) (fun c8 => ?_) (fun c8 => ?_)
        · replace h := h.1 c8
          refine z_iload (pc' := 147) (x := x4) dX9_valueOf_145 rfl rfl ?_
          refine z_iconst (pc' := 148) (v := 1) dX9_valueOf_147 rfl (by decide) ?_
          refine z_iload (pc' := 150) (x := (I5 58 j7)) dX9_valueOf_148 rfl rfl ?_
          refine z_ishl (pc' := 151) dX9_valueOf_150 rfl ?_
          refine z_iconst (pc' := 152) (v := -1) dX9_valueOf_151 rfl (by decide) ?_
          refine z_ixor (pc' := 153) dX9_valueOf_152 rfl ?_
          refine z_iand (pc' := 154) dX9_valueOf_153 rfl ?_
          refine z_istore (pc' := 156) (ls' := [some (.ref 44), some (.int x1), some (.int x2), some (.int x3), some (.int x4), some (.int x5), some (.int y2), some (.int (I5 58 j7)), some (.int (x4 &&& (((1 : Int32) <<< ((I5 58 j7) &&& 31)) ^^^ (-1 : Int32))))]) dX9_valueOf_154 rfl (by decide) rfl ?_
          refine z_aload_n (pc' := 157) (x := 44) dX9_valueOf_156 rfl rfl ?_
          refine z_getr (pc' := 160) (x := 61) dX9_valueOf_157 rfl fl_X9_59 rfl rfl rfl ?_
          refine z_iload (pc' := 162) (x := y2) dX9_valueOf_160 rfl rfl ?_
          refine z_aload_n (pc' := 163) (x := 44) dX9_valueOf_162 rfl rfl ?_
          refine z_getr (pc' := 166) (x := 59) dX9_valueOf_163 rfl fl_X9_53 rfl rfl rfl ?_
          refine z_iload (pc' := 168) (x := y2) dX9_valueOf_166 rfl rfl ?_
          refine z_iald (pc' := 169) (x := (I5 59 j7)) (j := j7) dX9_valueOf_168 rfl rfl (by decide) ha7 hb7 rfl ?_
          refine z_i2l (pc' := 170) dX9_valueOf_169 rfl ?_
          refine z_aload_n (pc' := 171) (x := 44) dX9_valueOf_170 rfl rfl ?_
          refine z_getr (pc' := 174) (x := 61) dX9_valueOf_171 rfl fl_X9_59 rfl rfl rfl ?_
          refine z_iload_n (pc' := 175) (x := x3) dX9_valueOf_174 rfl rfl ?_
          refine z_iconst (pc' := 176) (v := 1) dX9_valueOf_175 rfl (by decide) ?_
          refine z_iadd (pc' := 177) dX9_valueOf_176 rfl ?_
          refine z_iload (pc' := 179) (x := (x4 &&& (((1 : Int32) <<< ((I5 58 j7) &&& 31)) ^^^ (-1 : Int32)))) dX9_valueOf_177 rfl rfl ?_
          refine z_aload_n (pc' := 180) (x := 44) dX9_valueOf_179 rfl rfl ?_
          refine z_iload (pc' := 182) (x := x5) dX9_valueOf_180 rfl rfl ?_
          refine z_iload (pc' := 184) (x := (x4 &&& (((1 : Int32) <<< ((I5 58 j7) &&& 31)) ^^^ (-1 : Int32)))) dX9_valueOf_182 rfl rfl ?_
          obtain ⟨d9, P9, hd9, hC9, h⟩ := h
          refine z_callV (pc' := 187) (M' := mX9_nextOf) (As := [.int x5, .int (x4 &&& (((1 : Int32) <<< ((I5 58 j7) &&& 31)) ^^^ (-1 : Int32)))]) dX9_valueOf_184 rfl ml_X9_204 me_X9_nextOf hC9 rfl (by decide) rfl rfl hd9 (Nat.le_of_ble_eq_true rfl) ⟨Nat.le_refl _, Nat.le_refl _⟩ rfl ?_
          rintro _ _ ⟨y9, I9, L9, rfl, rfl, hP9⟩
          replace h := h y9 I9 L9 hP9
          obtain ⟨d10, P10, hd10, hC10, h⟩ := h
          refine z_callS (pc' := 190) (M' := mX9_stateOf) (As := [.int (x3 + (1 : Int32)), .int (x4 &&& (((1 : Int32) <<< ((I5 58 j7) &&& 31)) ^^^ (-1 : Int32))), .int y9]) dX9_valueOf_187 rfl ml_X9_207 me_X9_stateOf hC10 rfl hd10 (Nat.le_of_ble_eq_true rfl) ⟨Nat.le_refl _, Nat.le_refl _⟩ rfl ?_
          rintro _ _ ⟨y10, I10, L10, rfl, rfl, hP10⟩
          replace h := h y10 I10 L10 hP10
          obtain ⟨j11, ha11, hb11, h⟩ := h
          refine z_lald (pc' := 191) (x := (L10 61 j11)) (j := j11) dX9_valueOf_190 rfl rfl (by decide) ha11 hb11 rfl ?_
          refine z_lmul (pc' := 192) dX9_valueOf_191 rfl ?_
          refine z_bipush (pc' := 194) (v := 12) dX9_valueOf_192 rfl (by decide) ?_
          refine z_aload_n (pc' := 195) (x := 44) dX9_valueOf_194 rfl rfl ?_
          refine z_getr (pc' := 198) (x := 59) dX9_valueOf_195 rfl fl_X9_53 rfl rfl rfl ?_
          refine z_iload (pc' := 200) (x := y2) dX9_valueOf_198 rfl rfl ?_
          refine z_iald (pc' := 201) (x := (I10 59 j7)) (j := j7) dX9_valueOf_200 rfl rfl (by decide) ha7 hb7 rfl ?_
          refine z_isub (pc' := 202) dX9_valueOf_201 rfl ?_
          refine z_i2l (pc' := 203) dX9_valueOf_202 rfl ?_
          refine z_aload_n (pc' := 204) (x := 44) dX9_valueOf_203 rfl rfl ?_
          refine z_getr (pc' := 207) (x := 61) dX9_valueOf_204 rfl fl_X9_59 rfl rfl rfl ?_
          refine z_iload_n (pc' := 208) (x := x3) dX9_valueOf_207 rfl rfl ?_
          refine z_iconst (pc' := 209) (v := 1) dX9_valueOf_208 rfl (by decide) ?_
          refine z_iadd (pc' := 210) dX9_valueOf_209 rfl ?_
          refine z_iload (pc' := 212) (x := x4) dX9_valueOf_210 rfl rfl ?_
          refine z_aload_n (pc' := 213) (x := 44) dX9_valueOf_212 rfl rfl ?_
          refine z_iload (pc' := 215) (x := x5) dX9_valueOf_213 rfl rfl ?_
          refine z_iload (pc' := 217) (x := x4) dX9_valueOf_215 rfl rfl ?_
          obtain ⟨d12, P12, hd12, hC12, h⟩ := h
          refine z_callVw (pc' := 220) (M' := mX9_nextOf) (As := [.int x5, .int x4]) dX9_valueOf_217 rfl ml_X9_204 me_X9_nextOf hC12 rfl (by decide) rfl rfl hd12 (Nat.le_of_ble_eq_true rfl) (Nat.le_of_ble_eq_true rfl) ⟨Nat.le_refl _, Nat.le_refl _⟩ rfl ?_
          rintro _ _ ⟨y12, I12, L12, rfl, rfl, hP12⟩
          replace h := h y12 I12 L12 hP12
          obtain ⟨d13, P13, hd13, hC13, h⟩ := h
          refine z_callS (pc' := 223) (M' := mX9_stateOf) (As := [.int (x3 + (1 : Int32)), .int x4, .int y12]) dX9_valueOf_220 rfl ml_X9_207 me_X9_stateOf hC13 rfl hd13 (Nat.le_of_ble_eq_true rfl) ⟨Nat.le_refl _, Nat.le_refl _⟩ rfl ?_
          rintro _ _ ⟨y13, I13, L13, rfl, rfl, hP13⟩
          replace h := h y13 I13 L13 hP13
          obtain ⟨j14, ha14, hb14, h⟩ := h
          refine z_lald (pc' := 224) (x := (L13 61 j14)) (j := j14) dX9_valueOf_223 rfl rfl (by decide) ha14 hb14 rfl ?_
          refine z_lmul (pc' := 225) dX9_valueOf_224 rfl ?_
          refine z_ladd (pc' := 226) dX9_valueOf_225 rfl ?_
          refine z_last (pc' := 227) (j := j7) (w' := zs I13 (xL L13 61 j7 ((((I5 59 j7).toInt64) * (L10 61 j11)) + ((((12 : Int32) - (I10 59 j7)).toInt64) * (L13 61 j14))))) dX9_valueOf_226 rfl rfl (by decide) ha7 hb7 rfl ?_
          refine z_iinc (pc' := 230) (x := x5) (v := (x5 + (1 : Int32))) (ls' := [some (.ref 44), some (.int x1), some (.int x2), some (.int x3), some (.int x4), some (.int (x5 + (1 : Int32))), some (.int y2), some (.int (I5 58 j7)), some (.int (x4 &&& (((1 : Int32) <<< ((I5 58 j7) &&& 31)) ^^^ (-1 : Int32))))]) dX9_valueOf_227 rfl rfl (by rfl) (by decide) rfl ?_
          refine z_goto (pc' := 54) dX9_valueOf_230 (by decide) ?_
          refine z_sub (pc' := 0) [some (.ref 44), some (.int x1), some (.int x2), some (.int x3), some (.int x4), some (.int (x5 + (1 : Int32))), none, none, none] (zsub_s (zsub_s (zsub_s (zsub_s (zsub_s (zsub_s (zsub_n (zsub_n (zsub_n zsub_nil))))))))) ?_
          exact h
        · replace h := h.2 c8
          refine z_iload (pc' := 142) (x := x4) dX9_valueOf_140 rfl rfl ?_
          refine z_goto (pc' := 154) dX9_valueOf_142 (by decide) ?_
          refine z_istore (pc' := 156) (ls' := [some (.ref 44), some (.int x1), some (.int x2), some (.int x3), some (.int x4), some (.int x5), some (.int y2), some (.int (I5 58 j7)), some (.int x4)]) dX9_valueOf_154 rfl (by decide) rfl ?_
          refine z_aload_n (pc' := 157) (x := 44) dX9_valueOf_156 rfl rfl ?_
          refine z_getr (pc' := 160) (x := 61) dX9_valueOf_157 rfl fl_X9_59 rfl rfl rfl ?_
          refine z_iload (pc' := 162) (x := y2) dX9_valueOf_160 rfl rfl ?_
          refine z_aload_n (pc' := 163) (x := 44) dX9_valueOf_162 rfl rfl ?_
          refine z_getr (pc' := 166) (x := 59) dX9_valueOf_163 rfl fl_X9_53 rfl rfl rfl ?_
          refine z_iload (pc' := 168) (x := y2) dX9_valueOf_166 rfl rfl ?_
          refine z_iald (pc' := 169) (x := (I5 59 j7)) (j := j7) dX9_valueOf_168 rfl rfl (by decide) ha7 hb7 rfl ?_
          refine z_i2l (pc' := 170) dX9_valueOf_169 rfl ?_
          refine z_aload_n (pc' := 171) (x := 44) dX9_valueOf_170 rfl rfl ?_
          refine z_getr (pc' := 174) (x := 61) dX9_valueOf_171 rfl fl_X9_59 rfl rfl rfl ?_
          refine z_iload_n (pc' := 175) (x := x3) dX9_valueOf_174 rfl rfl ?_
          refine z_iconst (pc' := 176) (v := 1) dX9_valueOf_175 rfl (by decide) ?_
          refine z_iadd (pc' := 177) dX9_valueOf_176 rfl ?_
          refine z_iload (pc' := 179) (x := x4) dX9_valueOf_177 rfl rfl ?_
          refine z_aload_n (pc' := 180) (x := 44) dX9_valueOf_179 rfl rfl ?_
          refine z_iload (pc' := 182) (x := x5) dX9_valueOf_180 rfl rfl ?_
          refine z_iload (pc' := 184) (x := x4) dX9_valueOf_182 rfl rfl ?_
          obtain ⟨d15, P15, hd15, hC15, h⟩ := h
          refine z_callV (pc' := 187) (M' := mX9_nextOf) (As := [.int x5, .int x4]) dX9_valueOf_184 rfl ml_X9_204 me_X9_nextOf hC15 rfl (by decide) rfl rfl hd15 (Nat.le_of_ble_eq_true rfl) ⟨Nat.le_refl _, Nat.le_refl _⟩ rfl ?_
          rintro _ _ ⟨y15, I15, L15, rfl, rfl, hP15⟩
          replace h := h y15 I15 L15 hP15
          obtain ⟨d16, P16, hd16, hC16, h⟩ := h
          refine z_callS (pc' := 190) (M' := mX9_stateOf) (As := [.int (x3 + (1 : Int32)), .int x4, .int y15]) dX9_valueOf_187 rfl ml_X9_207 me_X9_stateOf hC16 rfl hd16 (Nat.le_of_ble_eq_true rfl) ⟨Nat.le_refl _, Nat.le_refl _⟩ rfl ?_
          rintro _ _ ⟨y16, I16, L16, rfl, rfl, hP16⟩
          replace h := h y16 I16 L16 hP16
          obtain ⟨j17, ha17, hb17, h⟩ := h
          refine z_lald (pc' := 191) (x := (L16 61 j17)) (j := j17) dX9_valueOf_190 rfl rfl (by decide) ha17 hb17 rfl ?_
          refine z_lmul (pc' := 192) dX9_valueOf_191 rfl ?_
          refine z_bipush (pc' := 194) (v := 12) dX9_valueOf_192 rfl (by decide) ?_
          refine z_aload_n (pc' := 195) (x := 44) dX9_valueOf_194 rfl rfl ?_
          refine z_getr (pc' := 198) (x := 59) dX9_valueOf_195 rfl fl_X9_53 rfl rfl rfl ?_
          refine z_iload (pc' := 200) (x := y2) dX9_valueOf_198 rfl rfl ?_
          refine z_iald (pc' := 201) (x := (I16 59 j7)) (j := j7) dX9_valueOf_200 rfl rfl (by decide) ha7 hb7 rfl ?_
          refine z_isub (pc' := 202) dX9_valueOf_201 rfl ?_
          refine z_i2l (pc' := 203) dX9_valueOf_202 rfl ?_
          refine z_aload_n (pc' := 204) (x := 44) dX9_valueOf_203 rfl rfl ?_
          refine z_getr (pc' := 207) (x := 61) dX9_valueOf_204 rfl fl_X9_59 rfl rfl rfl ?_
          refine z_iload_n (pc' := 208) (x := x3) dX9_valueOf_207 rfl rfl ?_
          refine z_iconst (pc' := 209) (v := 1) dX9_valueOf_208 rfl (by decide) ?_
          refine z_iadd (pc' := 210) dX9_valueOf_209 rfl ?_
          refine z_iload (pc' := 212) (x := x4) dX9_valueOf_210 rfl rfl ?_
          refine z_aload_n (pc' := 213) (x := 44) dX9_valueOf_212 rfl rfl ?_
          refine z_iload (pc' := 215) (x := x5) dX9_valueOf_213 rfl rfl ?_
          refine z_iload (pc' := 217) (x := x4) dX9_valueOf_215 rfl rfl ?_
          obtain ⟨d18, P18, hd18, hC18, h⟩ := h
          refine z_callVw (pc' := 220) (M' := mX9_nextOf) (As := [.int x5, .int x4]) dX9_valueOf_217 rfl ml_X9_204 me_X9_nextOf hC18 rfl (by decide) rfl rfl hd18 (Nat.le_of_ble_eq_true rfl) (Nat.le_of_ble_eq_true rfl) ⟨Nat.le_refl _, Nat.le_refl _⟩ rfl ?_
          rintro _ _ ⟨y18, I18, L18, rfl, rfl, hP18⟩
          replace h := h y18 I18 L18 hP18
          obtain ⟨d19, P19, hd19, hC19, h⟩ := h
          refine z_callS (pc' := 223) (M' := mX9_stateOf) (As := [.int (x3 + (1 : Int32)), .int x4, .int y18]) dX9_valueOf_220 rfl ml_X9_207 me_X9_stateOf hC19 rfl hd19 (Nat.le_of_ble_eq_true rfl) ⟨Nat.le_refl _, Nat.le_refl _⟩ rfl ?_
          rintro _ _ ⟨y19, I19, L19, rfl, rfl, hP19⟩
          replace h := h y19 I19 L19 hP19
          obtain ⟨j20, ha20, hb20, h⟩ := h
          refine z_lald (pc' := 224) (x := (L19 61 j20)) (j := j20) dX9_valueOf_223 rfl rfl (by decide) ha20 hb20 rfl ?_
          refine z_lmul (pc' := 225) dX9_valueOf_224 rfl ?_
          refine z_ladd (pc' := 226) dX9_valueOf_225 rfl ?_
          refine z_last (pc' := 227) (j := j7) (w' := zs I19 (xL L19 61 j7 ((((I5 59 j7).toInt64) * (L16 61 j17)) + ((((12 : Int32) - (I16 59 j7)).toInt64) * (L19 61 j20))))) dX9_valueOf_226 rfl rfl (by decide) ha7 hb7 rfl ?_
          refine z_iinc (pc' := 230) (x := x5) (v := (x5 + (1 : Int32))) (ls' := [some (.ref 44), some (.int x1), some (.int x2), some (.int x3), some (.int x4), some (.int (x5 + (1 : Int32))), some (.int y2), some (.int (I5 58 j7)), some (.int x4)]) dX9_valueOf_227 rfl rfl (by rfl) (by decide) rfl ?_
          refine z_goto (pc' := 54) dX9_valueOf_230 (by decide) ?_
          refine z_sub (pc' := 0) [some (.ref 44), some (.int x1), some (.int x2), some (.int x3), some (.int x4), some (.int (x5 + (1 : Int32))), none, none, none] (zsub_s (zsub_s (zsub_s (zsub_s (zsub_s (zsub_s (zsub_n (zsub_n (zsub_n zsub_nil))))))))) ?_
          exact h
    · replace h := h.2 c4
      refine z_aload_n (pc' := 84) (x := 44) dX9_valueOf_83 rfl rfl ?_
      refine z_getr (pc' := 87) (x := 61) dX9_valueOf_84 rfl fl_X9_59 rfl rfl rfl ?_
      refine z_iload (pc' := 89) (x := y2) dX9_valueOf_87 rfl rfl ?_
      refine z_aload_n (pc' := 90) (x := 44) dX9_valueOf_89 rfl rfl ?_
      refine z_iload_n (pc' := 91) (x := x3) dX9_valueOf_90 rfl rfl ?_
      refine z_iload (pc' := 93) (x := x4) dX9_valueOf_91 rfl rfl ?_
      refine z_iload_n (pc' := 94) (x := x1) dX9_valueOf_93 rfl rfl ?_
      refine z_iload_n (pc' := 95) (x := x2) dX9_valueOf_94 rfl rfl ?_
      obtain ⟨d21, P21, hd21, hC21, h⟩ := h
      refine z_callV (pc' := 98) (M' := mX9_atEnd) (As := [.int x3, .int x4, .int x1, .int x2]) dX9_valueOf_95 rfl ml_X9_248 me_X9_atEnd hC21 rfl (by decide) rfl rfl hd21 (Nat.le_of_ble_eq_true rfl) ⟨Nat.le_refl _, Nat.le_refl _⟩ rfl ?_
      rintro _ _ ⟨y21, I21, L21, rfl, rfl, hP21⟩
      replace h := h y21 I21 L21 hP21
      refine z_aload_n (pc' := 99) (x := 44) dX9_valueOf_98 rfl rfl ?_
      refine z_getr (pc' := 102) (x := 56) dX9_valueOf_99 rfl fl_X9_43 rfl rfl rfl ?_
      refine z_aload_n (pc' := 103) (x := 44) dX9_valueOf_102 rfl rfl ?_
      refine z_geti (pc' := 106) (x := (I21 44 9)) dX9_valueOf_103 rfl fl_X9_87 rfl rfl rfl ?_
      refine z_iload_n (pc' := 107) (x := x3) dX9_valueOf_106 rfl rfl ?_
      refine z_isub (pc' := 108) dX9_valueOf_107 rfl ?_
      obtain ⟨j22, ha22, hb22, h⟩ := h
      refine z_lald (pc' := 109) (x := (L21 56 j22)) (j := j22) dX9_valueOf_108 rfl rfl (by decide) ha22 hb22 rfl ?_
      refine z_lmul (pc' := 110) dX9_valueOf_109 rfl ?_
      obtain ⟨j23, ha23, hb23, h⟩ := h
      refine z_last (pc' := 111) (j := j23) (w' := zs I21 (xL L21 61 j23 (y21 * (L21 56 j22)))) dX9_valueOf_110 rfl rfl (by decide) ha23 hb23 rfl ?_
      refine z_goto (pc' := 227) dX9_valueOf_111 (by decide) ?_
      refine z_iinc (pc' := 230) (x := x5) (v := (x5 + (1 : Int32))) (ls' := [some (.ref 44), some (.int x1), some (.int x2), some (.int x3), some (.int x4), some (.int (x5 + (1 : Int32))), some (.int y2), none, none]) dX9_valueOf_227 rfl rfl (by rfl) (by decide) rfl ?_
      refine z_goto (pc' := 54) dX9_valueOf_230 (by decide) ?_
      refine z_sub (pc' := 0) [some (.ref 44), some (.int x1), some (.int x2), some (.int x3), some (.int x4), some (.int (x5 + (1 : Int32))), none, none, none] (zsub_s (zsub_s (zsub_s (zsub_s (zsub_s (zsub_s (zsub_n (zsub_n (zsub_n zsub_nil))))))))) ?_
      exact h
