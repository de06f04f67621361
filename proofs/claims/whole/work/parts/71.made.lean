/-! ===== the constructors (written by wip/whole/gen/conc.py) ===== -/
def rOf : List (Nat × Nat × Nat) → Nat → Nat → Option Nat
  | [] => fun _ _ => none
  | u :: U => fun a b => if a = u.1 ∧ b = u.2.1 then some u.2.2 else rOf U a b
def iOf : List (Nat × Nat × Int32) → zIM
  | [] => fun _ _ => 0
  | u :: U => fun a b => if a = u.1 ∧ b = u.2.1 then u.2.2 else iOf U a b
def awU : List (Nat × Nat × Nat) := [(44, 49, 68), (44, 48, 67), (44, 47, 66), (44, 46, 65), (44, 42, 64), (44, 41, 63), (44, 28, 62), (44, 27, 61), (44, 26, 60), (44, 25, 59), (44, 24, 58), (44, 23, 57), (44, 22, 56), (44, 21, 55), (44, 14, 54), (44, 12, 53), (44, 11, 52), (44, 10, 51), (44, 8, 50), (44, 7, 49), (44, 3, 48), (44, 2, 47), (44, 1, 46), (44, 0, 45), (0, 8, 43), (30, 5, 41), (41, 3, 42), (30, 4, 39), (39, 3, 40), (30, 3, 37), (37, 3, 38), (30, 2, 35), (35, 3, 36), (30, 1, 33), (33, 3, 34), (30, 0, 31), (31, 3, 32), (0, 7, 30), (0, 6, 27), (27, 2, 29), (27, 0, 28), (0, 5, 22), (22, 3, 26), (22, 2, 25), (22, 1, 24), (22, 0, 23), (0, 4, 21), (21, 5, 14), (21, 4, 1), (0, 3, 20), (20, 3, 1), (0, 2, 14), (14, 3, 9), (14, 2, 1), (14, 7, 19), (14, 6, 18), (14, 5, 17), (14, 4, 16), (14, 0, 15), (0, 1, 9), (9, 7, 13), (9, 5, 12), (9, 3, 11), (9, 1, 10), (0, 0, 1), (1, 8, 8), (1, 5, 7), (1, 4, 6), (1, 3, 5), (1, 2, 4), (1, 1, 3), (1, 0, 2)]
def awV : List (Nat × Nat × Int32) := [(51, 4, 1), (51, 3, 2), (51, 2, 4), (51, 1, 9), (44, 9, 6), (44, 15, -1), (65, 5, -1), (65, 4, -1), (65, 3, -1), (65, 2, -1), (65, 1, -1), (65, 0, -1), (41, 2, 0), (41, 1, -1), (41, 0, -2), (39, 2, 0), (39, 1, -1), (39, 0, -2), (37, 2, 0), (37, 1, -1), (37, 0, -2), (35, 2, 0), (35, 1, -1), (35, 0, -2), (33, 2, 0), (33, 1, -1), (33, 0, -2), (31, 2, 0), (31, 1, -1), (31, 0, -2), (27, 3, 0), (27, 1, 0), (22, 5, 0), (22, 4, 0), (20, 4, 0), (20, 2, 0), (20, 1, 0), (20, 0, 0), (14, 8, 0), (9, 6, 0), (9, 0, 0), (1, 7, 6), (1, 6, 0), (7, 4, 1), (7, 3, 2), (7, 2, 4), (7, 1, 9), (7, 0, 0)]
/-- the world after k cells; m fields and j ints are still to be set -/
def cw (k m j : Nat) : zWd := (zS0.take k, rOf (awU.drop m), iOf (awV.drop j), fun _ _ => 0)
theorem rOf_none {k b : Nat} : ∀ U : List (Nat × Nat × Nat), (∀ u, u ∈ U → u.1 < k) → rOf U k b = none
  | [], _ => rfl
  | u :: U, h => (if_neg (fun z => absurd (h u List.mem_cons_self) (by omega))).trans (rOf_none U fun u hu => h u (List.mem_cons_of_mem _ hu))
theorem iOf_none {k b : Nat} : ∀ U : List (Nat × Nat × Int32), (∀ u, u ∈ U → u.1 < k) → iOf U k b = 0
  | [], _ => rfl
  | u :: U, h => (if_neg (fun z => absurd (h u List.mem_cons_self) (by omega))).trans (iOf_none U fun u hu => h u (List.mem_cons_of_mem _ hu))
theorem cw_al {k m j : Nat} {sh : zSh} (h1 : (zS0.take k).length = k) (h2 : zS0.take k ++ [sh] = zS0.take (k + 1)) (h3 : ∀ u, u ∈ awU.drop m → u.1 < k) (h4 : ∀ u, u ∈ awV.drop j → u.1 < k) : zal (cw k m j) sh = cw (k + 1) m j := by
  unfold zal cw
  rw [h2, h1]
  refine Prod.ext rfl (Prod.ext (funext fun a => funext fun b => ?_) (Prod.ext (funext fun a => funext fun b => ?_) (funext fun a => funext fun b => ?_)))
  · show (if a = k then none else rOf (awU.drop m) a b) = rOf (awU.drop m) a b
    by_cases c : a = k
    · rw [if_pos c, c, rOf_none _ h3]
    · rw [if_neg c]
  · show (if a = k then 0 else iOf (awV.drop j) a b) = iOf (awV.drop j) a b
    by_cases c : a = k
    · rw [if_pos c, c, iOf_none _ h4]
    · rw [if_neg c]
  · show (if a = k then (0 : Int64) else 0) = 0
    by_cases c : a = k
    · rw [if_pos c]
    · rw [if_neg c]
theorem cw_R {k m j q f x : Nat} (h : awU.drop m = (q, f, x) :: awU.drop (m + 1)) : zuR (cw k (m + 1) j) q f (some x) = cw k m j := by
  unfold cw zuR
  rw [h]
  rfl
theorem cw_I {k m j q f : Nat} {x : Int32} (h : awV.drop j = (q, f, x) :: awV.drop (j + 1)) : zuI (cw k m (j + 1)) q f x = cw k m j := by
  unfold cw zuI
  rw [h]
  rfl
section YY
variable {X : zX} {M : zM} {pc pc' a b a' b' k m j N : Nat} {ls : List (Option Value)} {st : List Value}
theorem yy_new {idx ci : Nat} (hd : decode M.2.1 pc = .ok (.new idx, 3)) (hp : pc + 3 = pc') (hci : ci < 10) (hlk : Cond.classLink M.1.cls idx (zR ci) ∈ zTb) (hin : Cond.instantiable (zR ci) (zN ci) ∈ zTb) (hini : Cond.initialized (zR ci) ∈ zTb)
    (h1 : (zS0.take k).length = k) (h2 : zS0.take k ++ [(3, ci)] = zS0.take (k + 1)) (h3 : ∀ u, u ∈ awU.drop m → u.1 < k) (h4 : ∀ u, u ∈ awV.drop j → u.1 < k) (ha : a + 1 = a') (hb : b + zN ci = b') (hA : a' ≤ X.2.2.2.1) (hB : b' ≤ X.2.2.2.2.1)
    (kk : zWp X M (a', b') pc' ls (.ref k :: st) (cw (k + 1) m j)) : zWp X M (a, b) pc ls st (cw k m j) := by
  subst ha
  subst hb
  have hk : k < 1000 := by
    have : (zS0.take k).length ≤ 69 := List.length_take_le' k zS0
    omega
  refine z_new hd hp hci hlk hin hini (show (zS0.take k).length < 1000 by omega) ⟨hA, hB⟩ ?_
  rw [cw_al h1 h2 h3 h4, show (cw k m j).1.length = k from h1]
  exact kk
theorem yy_newi {n : Int32} (hd : decode M.2.1 pc = .ok (.newarray .int, 2)) (hp : pc + 2 = pc') (hn : n = nI N) (hN : N ≤ 100000) (har : Cond.arrayClass .int ∈ zTb)
    (h1 : (zS0.take k).length = k) (h2 : zS0.take k ++ [(0, N)] = zS0.take (k + 1)) (h3 : ∀ u, u ∈ awU.drop m → u.1 < k) (h4 : ∀ u, u ∈ awV.drop j → u.1 < k) (ha : a + 1 = a') (hb : b + N = b') (hA : a' ≤ X.2.2.2.1) (hB : b' ≤ X.2.2.2.2.1)
    (kk : zWp X M (a', b') pc' ls (.ref k :: st) (cw (k + 1) m j)) : zWp X M (a, b) pc ls (.int n :: st) (cw k m j) := by
  subst ha
  subst hb
  have hk : k < 1000 := by
    have : (zS0.take k).length ≤ 69 := List.length_take_le' k zS0
    omega
  refine z_newi hd hp hn hN har (show (zS0.take k).length < 1000 by omega) ⟨hA, hB⟩ ?_
  rw [cw_al h1 h2 h3 h4, show (cw k m j).1.length = k from h1]
  exact kk
theorem yy_newl {n : Int32} (hd : decode M.2.1 pc = .ok (.newarray .long, 2)) (hp : pc + 2 = pc') (hn : n = nI N) (hN : N ≤ 100000) (har : Cond.arrayClass .long ∈ zTb)
    (h1 : (zS0.take k).length = k) (h2 : zS0.take k ++ [(1, N)] = zS0.take (k + 1)) (h3 : ∀ u, u ∈ awU.drop m → u.1 < k) (h4 : ∀ u, u ∈ awV.drop j → u.1 < k) (ha : a + 1 = a') (hb : b + N = b') (hA : a' ≤ X.2.2.2.1) (hB : b' ≤ X.2.2.2.2.1)
    (kk : zWp X M (a', b') pc' ls (.ref k :: st) (cw (k + 1) m j)) : zWp X M (a, b) pc ls (.int n :: st) (cw k m j) := by
  subst ha
  subst hb
  have hk : k < 1000 := by
    have : (zS0.take k).length ≤ 69 := List.length_take_le' k zS0
    omega
  refine z_newl hd hp hn hN har (show (zS0.take k).length < 1000 by omega) ⟨hA, hB⟩ ?_
  rw [cw_al h1 h2 h3 h4, show (cw k m j).1.length = k from h1]
  exact kk
theorem yy_newq {n : Int32} {idx : Nat} (hd : decode M.2.1 pc = .ok (.anewarray idx, 3)) (hp : pc + 3 = pc') (hn : n = nI N) (hN : N ≤ 100000) (hlk : Cond.classLink M.1.cls idx RX5 ∈ zTb)
    (h1 : (zS0.take k).length = k) (h2 : zS0.take k ++ [(2, N)] = zS0.take (k + 1)) (h3 : ∀ u, u ∈ awU.drop m → u.1 < k) (h4 : ∀ u, u ∈ awV.drop j → u.1 < k) (ha : a + 1 = a') (hb : b + N = b') (hA : a' ≤ X.2.2.2.1) (hB : b' ≤ X.2.2.2.2.1)
    (kk : zWp X M (a', b') pc' ls (.ref k :: st) (cw (k + 1) m j)) : zWp X M (a, b) pc ls (.int n :: st) (cw k m j) := by
  subst ha
  subst hb
  have hk : k < 1000 := by
    have : (zS0.take k).length ≤ 69 := List.length_take_le' k zS0
    omega
  refine z_newq hd hp hn hN hlk (show (zS0.take k).length < 1000 by omega) ⟨hA, hB⟩ ?_
  rw [cw_al h1 h2 h3 h4, show (cw k m j).1.length = k from h1]
  exact kk
end YY
theorem cn_X2_init_1 {l : Launch} {G : zG} : zCn l G 1 mX2_init 7 89 [.ref 1] (cw 2 72 48) (fun r w => r = none ∧ w = (cw 9 65 41)) := by
  refine zCn.of (ls := [some (.ref 1)]) (by decide) (Nat.le_of_ble_eq_true rfl) rfl ?_
  refine z_aload_n (pc' := 1) (x := 1) dX2_init_0 rfl rfl ?_
  refine z_oinit (pc' := 4) dX2_init_1 rfl ml_X2_3 zoi_m.1 zoi_m.2 (Nat.le_of_ble_eq_true rfl) (Nat.le_of_ble_eq_true rfl) ?_
  refine z_aload_n (pc' := 5) (x := 1) dX2_init_4 rfl rfl ?_
  refine z_iconst (pc' := 6) (v := (4 : Int32)) dX2_init_5 rfl (by decide) ?_
  refine yy_newi (pc' := 8) (k := 2) (N := 4) (a' := 1) (b' := 4) dX2_init_6 rfl rfl (by decide) zac_int rfl rfl (by decide) (by decide) rfl rfl (Nat.le_of_ble_eq_true rfl) (Nat.le_of_ble_eq_true rfl) ?_
  refine z_putr (pc' := 11) (w' := (cw 3 71 48)) dX2_init_8 rfl fl_X2_9 rfl rfl rfl rfl rfl (cw_R rfl) ?_
  refine z_aload_n (pc' := 12) (x := 1) dX2_init_11 rfl rfl ?_
  refine z_iconst (pc' := 13) (v := (4 : Int32)) dX2_init_12 rfl (by decide) ?_
  refine yy_newi (pc' := 15) (k := 3) (N := 4) (a' := 2) (b' := 8) dX2_init_13 rfl rfl (by decide) zac_int rfl rfl (by decide) (by decide) rfl rfl (Nat.le_of_ble_eq_true rfl) (Nat.le_of_ble_eq_true rfl) ?_
  refine z_putr (pc' := 18) (w' := (cw 4 70 48)) dX2_init_15 rfl fl_X2_15 rfl rfl rfl rfl rfl (cw_R rfl) ?_
  refine z_aload_n (pc' := 19) (x := 1) dX2_init_18 rfl rfl ?_
  refine z_iconst (pc' := 20) (v := (4 : Int32)) dX2_init_19 rfl (by decide) ?_
  refine yy_newi (pc' := 22) (k := 4) (N := 4) (a' := 3) (b' := 12) dX2_init_20 rfl rfl (by decide) zac_int rfl rfl (by decide) (by decide) rfl rfl (Nat.le_of_ble_eq_true rfl) (Nat.le_of_ble_eq_true rfl) ?_
  refine z_putr (pc' := 25) (w' := (cw 5 69 48)) dX2_init_22 rfl fl_X2_18 rfl rfl rfl rfl rfl (cw_R rfl) ?_
  refine z_aload_n (pc' := 26) (x := 1) dX2_init_25 rfl rfl ?_
  refine z_iconst (pc' := 27) (v := (4 : Int32)) dX2_init_26 rfl (by decide) ?_
  refine yy_newi (pc' := 29) (k := 5) (N := 4) (a' := 4) (b' := 16) dX2_init_27 rfl rfl (by decide) zac_int rfl rfl (by decide) (by decide) rfl rfl (Nat.le_of_ble_eq_true rfl) (Nat.le_of_ble_eq_true rfl) ?_
  refine z_putr (pc' := 32) (w' := (cw 6 68 48)) dX2_init_29 rfl fl_X2_21 rfl rfl rfl rfl rfl (cw_R rfl) ?_
  refine z_aload_n (pc' := 33) (x := 1) dX2_init_32 rfl rfl ?_
  refine z_iconst (pc' := 34) (v := (4 : Int32)) dX2_init_33 rfl (by decide) ?_
  refine yy_newi (pc' := 36) (k := 6) (N := 4) (a' := 5) (b' := 20) dX2_init_34 rfl rfl (by decide) zac_int rfl rfl (by decide) (by decide) rfl rfl (Nat.le_of_ble_eq_true rfl) (Nat.le_of_ble_eq_true rfl) ?_
  refine z_putr (pc' := 39) (w' := (cw 7 67 48)) dX2_init_36 rfl fl_X2_24 rfl rfl rfl rfl rfl (cw_R rfl) ?_
  refine z_aload_n (pc' := 40) (x := 1) dX2_init_39 rfl rfl ?_
  refine z_iconst (pc' := 41) (v := (5 : Int32)) dX2_init_40 rfl (by decide) ?_
  refine yy_newi (pc' := 43) (k := 7) (N := 5) (a' := 6) (b' := 25) dX2_init_41 rfl rfl (by decide) zac_int rfl rfl (by decide) (by decide) rfl rfl (Nat.le_of_ble_eq_true rfl) (Nat.le_of_ble_eq_true rfl) ?_
  refine z_dup (pc' := 44) dX2_init_43 rfl rfl ?_
  refine z_iconst (pc' := 45) (v := (0 : Int32)) dX2_init_44 rfl (by decide) ?_
  refine z_iconst (pc' := 46) (v := (0 : Int32)) dX2_init_45 rfl (by decide) ?_
  refine z_iast (pc' := 47) (j := 0) (w' := (cw 8 67 47)) dX2_init_46 rfl rfl (by decide) rfl (by decide) (cw_I rfl) ?_
  refine z_dup (pc' := 48) dX2_init_47 rfl rfl ?_
  refine z_iconst (pc' := 49) (v := (1 : Int32)) dX2_init_48 rfl (by decide) ?_
  refine z_bipush (pc' := 51) (v := (9 : Int32)) dX2_init_49 rfl (by decide) ?_
  refine z_iast (pc' := 52) (j := 1) (w' := (cw 8 67 46)) dX2_init_51 rfl rfl (by decide) rfl (by decide) (cw_I rfl) ?_
  refine z_dup (pc' := 53) dX2_init_52 rfl rfl ?_
  refine z_iconst (pc' := 54) (v := (2 : Int32)) dX2_init_53 rfl (by decide) ?_
  refine z_iconst (pc' := 55) (v := (4 : Int32)) dX2_init_54 rfl (by decide) ?_
  refine z_iast (pc' := 56) (j := 2) (w' := (cw 8 67 45)) dX2_init_55 rfl rfl (by decide) rfl (by decide) (cw_I rfl) ?_
  refine z_dup (pc' := 57) dX2_init_56 rfl rfl ?_
  refine z_iconst (pc' := 58) (v := (3 : Int32)) dX2_init_57 rfl (by decide) ?_
  refine z_iconst (pc' := 59) (v := (2 : Int32)) dX2_init_58 rfl (by decide) ?_
  refine z_iast (pc' := 60) (j := 3) (w' := (cw 8 67 44)) dX2_init_59 rfl rfl (by decide) rfl (by decide) (cw_I rfl) ?_
  refine z_dup (pc' := 61) dX2_init_60 rfl rfl ?_
  refine z_iconst (pc' := 62) (v := (4 : Int32)) dX2_init_61 rfl (by decide) ?_
  refine z_iconst (pc' := 63) (v := (1 : Int32)) dX2_init_62 rfl (by decide) ?_
  refine z_iast (pc' := 64) (j := 4) (w' := (cw 8 67 43)) dX2_init_63 rfl rfl (by decide) rfl (by decide) (cw_I rfl) ?_
  refine z_putr (pc' := 67) (w' := (cw 8 66 43)) dX2_init_64 rfl fl_X2_27 rfl rfl rfl rfl rfl (cw_R rfl) ?_
  refine z_aload_n (pc' := 68) (x := 1) dX2_init_67 rfl rfl ?_
  refine z_iconst (pc' := 69) (v := (0 : Int32)) dX2_init_68 rfl (by decide) ?_
  refine z_puti (pc' := 72) (w' := (cw 8 66 42)) dX2_init_69 rfl fl_X2_30 rfl rfl rfl rfl rfl (cw_I rfl) ?_
  refine z_aload_n (pc' := 73) (x := 1) dX2_init_72 rfl rfl ?_
  refine z_bipush (pc' := 75) (v := (6 : Int32)) dX2_init_73 rfl (by decide) ?_
  refine z_puti (pc' := 78) (w' := (cw 8 66 41)) dX2_init_75 rfl fl_X2_34 rfl rfl rfl rfl rfl (cw_I rfl) ?_
  refine z_aload_n (pc' := 79) (x := 1) dX2_init_78 rfl rfl ?_
  refine z_bipush (pc' := 81) (v := (64 : Int32)) dX2_init_79 rfl (by decide) ?_
  refine yy_newi (pc' := 83) (k := 8) (N := 64) (a' := 7) (b' := 89) dX2_init_81 rfl rfl (by decide) zac_int rfl rfl (by decide) (by decide) rfl rfl (Nat.le_of_ble_eq_true rfl) (Nat.le_of_ble_eq_true rfl) ?_
  refine z_putr (pc' := 86) (w' := (cw 9 65 41)) dX2_init_83 rfl fl_X2_37 rfl rfl rfl rfl rfl (cw_R rfl) ?_
  exact z_vret dX2_init_86 rfl ⟨Nat.le_of_ble_eq_true rfl, Nat.le_of_ble_eq_true rfl⟩ ⟨rfl, rfl⟩
theorem cn_X3_init_2 {l : Launch} {G : zG} : zCn l G 1 mX3_init 4 752 [.ref 9] (cw 10 64 41) (fun r w => r = none ∧ w = (cw 14 60 39)) := by
  refine zCn.of (ls := [some (.ref 9)]) (by decide) (Nat.le_of_ble_eq_true rfl) rfl ?_
  refine z_aload_n (pc' := 1) (x := 9) dX3_init_0 rfl rfl ?_
  refine z_oinit (pc' := 4) dX3_init_1 rfl ml_X3_3 zoi_m.1 zoi_m.2 (Nat.le_of_ble_eq_true rfl) (Nat.le_of_ble_eq_true rfl) ?_
  refine z_aload_n (pc' := 5) (x := 9) dX3_init_4 rfl rfl ?_
  refine z_iconst (pc' := 6) (v := (0 : Int32)) dX3_init_5 rfl (by decide) ?_
  refine z_puti (pc' := 9) (w' := (cw 10 64 40)) dX3_init_6 rfl fl_X3_9 rfl rfl rfl rfl rfl (cw_I rfl) ?_
  refine z_aload_n (pc' := 10) (x := 9) dX3_init_9 rfl rfl ?_
  refine z_bipush (pc' := 12) (v := (120 : Int32)) dX3_init_10 rfl (by decide) ?_
  refine yy_newi (pc' := 14) (k := 10) (N := 120) (a' := 1) (b' := 120) dX3_init_12 rfl rfl (by decide) zac_int rfl rfl (by decide) (by decide) rfl rfl (Nat.le_of_ble_eq_true rfl) (Nat.le_of_ble_eq_true rfl) ?_
  refine z_putr (pc' := 17) (w' := (cw 11 63 40)) dX3_init_14 rfl fl_X3_15 rfl rfl rfl rfl rfl (cw_R rfl) ?_
  refine z_aload_n (pc' := 18) (x := 9) dX3_init_17 rfl rfl ?_
  refine z_sipush (pc' := 21) (v := (256 : Int32)) dX3_init_18 rfl (by decide) ?_
  refine yy_newi (pc' := 23) (k := 11) (N := 256) (a' := 2) (b' := 376) dX3_init_21 rfl rfl (by decide) zac_int rfl rfl (by decide) (by decide) rfl rfl (Nat.le_of_ble_eq_true rfl) (Nat.le_of_ble_eq_true rfl) ?_
  refine z_putr (pc' := 26) (w' := (cw 12 62 40)) dX3_init_23 rfl fl_X3_19 rfl rfl rfl rfl rfl (cw_R rfl) ?_
  refine z_aload_n (pc' := 27) (x := 9) dX3_init_26 rfl rfl ?_
  refine z_sipush (pc' := 30) (v := (256 : Int32)) dX3_init_27 rfl (by decide) ?_
  refine yy_newi (pc' := 32) (k := 12) (N := 256) (a' := 3) (b' := 632) dX3_init_30 rfl rfl (by decide) zac_int rfl rfl (by decide) (by decide) rfl rfl (Nat.le_of_ble_eq_true rfl) (Nat.le_of_ble_eq_true rfl) ?_
  refine z_putr (pc' := 35) (w' := (cw 13 61 40)) dX3_init_32 rfl fl_X3_22 rfl rfl rfl rfl rfl (cw_R rfl) ?_
  refine z_aload_n (pc' := 36) (x := 9) dX3_init_35 rfl rfl ?_
  refine z_iconst (pc' := 37) (v := (0 : Int32)) dX3_init_36 rfl (by decide) ?_
  refine z_puti (pc' := 40) (w' := (cw 13 61 39)) dX3_init_37 rfl fl_X3_25 rfl rfl rfl rfl rfl (cw_I rfl) ?_
  refine z_aload_n (pc' := 41) (x := 9) dX3_init_40 rfl rfl ?_
  refine z_bipush (pc' := 43) (v := (120 : Int32)) dX3_init_41 rfl (by decide) ?_
  refine yy_newi (pc' := 45) (k := 13) (N := 120) (a' := 4) (b' := 752) dX3_init_43 rfl rfl (by decide) zac_int rfl rfl (by decide) (by decide) rfl rfl (Nat.le_of_ble_eq_true rfl) (Nat.le_of_ble_eq_true rfl) ?_
  refine z_putr (pc' := 48) (w' := (cw 14 60 39)) dX3_init_45 rfl fl_X3_28 rfl rfl rfl rfl rfl (cw_R rfl) ?_
  exact z_vret dX3_init_48 rfl ⟨Nat.le_of_ble_eq_true rfl, Nat.le_of_ble_eq_true rfl⟩ ⟨rfl, rfl⟩
theorem cn_X4_init_3 {l : Launch} {G : zG} : zCn l G 1 mX4_init 5 4656 [.ref 14, .ref 1, .ref 9] (cw 15 59 39) (fun r w => r = none ∧ w = (cw 20 52 38)) := by
  refine zCn.of (ls := [some (.ref 14), some (.ref 1), some (.ref 9)]) (by decide) (Nat.le_of_ble_eq_true rfl) rfl ?_
  refine z_aload_n (pc' := 1) (x := 14) dX4_init_0 rfl rfl ?_
  refine z_oinit (pc' := 4) dX4_init_1 rfl ml_X4_3 zoi_m.1 zoi_m.2 (Nat.le_of_ble_eq_true rfl) (Nat.le_of_ble_eq_true rfl) ?_
  refine z_aload_n (pc' := 5) (x := 14) dX4_init_4 rfl rfl ?_
  refine z_bipush (pc' := 7) (v := (16 : Int32)) dX4_init_5 rfl (by decide) ?_
  refine yy_newl (pc' := 9) (k := 15) (N := 16) (a' := 1) (b' := 16) dX4_init_7 rfl rfl (by decide) zac_long rfl rfl (by decide) (by decide) rfl rfl (Nat.le_of_ble_eq_true rfl) (Nat.le_of_ble_eq_true rfl) ?_
  refine z_putr (pc' := 12) (w' := (cw 16 58 39)) dX4_init_9 rfl fl_X4_9 rfl rfl rfl rfl rfl (cw_R rfl) ?_
  refine z_aload_n (pc' := 13) (x := 14) dX4_init_12 rfl rfl ?_
  refine z_sipush (pc' := 16) (v := (2560 : Int32)) dX4_init_13 rfl (by decide) ?_
  refine yy_newl (pc' := 18) (k := 16) (N := 2560) (a' := 2) (b' := 2576) dX4_init_16 rfl rfl (by decide) zac_long rfl rfl (by decide) (by decide) rfl rfl (Nat.le_of_ble_eq_true rfl) (Nat.le_of_ble_eq_true rfl) ?_
  refine z_putr (pc' := 21) (w' := (cw 17 57 39)) dX4_init_18 rfl fl_X4_15 rfl rfl rfl rfl rfl (cw_R rfl) ?_
  refine z_aload_n (pc' := 22) (x := 14) dX4_init_21 rfl rfl ?_
  refine z_sipush (pc' := 25) (v := (640 : Int32)) dX4_init_22 rfl (by decide) ?_
  refine yy_newi (pc' := 27) (k := 17) (N := 640) (a' := 3) (b' := 3216) dX4_init_25 rfl rfl (by decide) zac_int rfl rfl (by decide) (by decide) rfl rfl (Nat.le_of_ble_eq_true rfl) (Nat.le_of_ble_eq_true rfl) ?_
  refine z_putr (pc' := 30) (w' := (cw 18 56 39)) dX4_init_27 rfl fl_X4_18 rfl rfl rfl rfl rfl (cw_R rfl) ?_
  refine z_aload_n (pc' := 31) (x := 14) dX4_init_30 rfl rfl ?_
  refine z_sipush (pc' := 34) (v := (640 : Int32)) dX4_init_31 rfl (by decide) ?_
  refine yy_newl (pc' := 36) (k := 18) (N := 640) (a' := 4) (b' := 3856) dX4_init_34 rfl rfl (by decide) zac_long rfl rfl (by decide) (by decide) rfl rfl (Nat.le_of_ble_eq_true rfl) (Nat.le_of_ble_eq_true rfl) ?_
  refine z_putr (pc' := 39) (w' := (cw 19 55 39)) dX4_init_36 rfl fl_X4_22 rfl rfl rfl rfl rfl (cw_R rfl) ?_
  refine z_aload_n (pc' := 40) (x := 14) dX4_init_39 rfl rfl ?_
  refine z_sipush (pc' := 43) (v := (800 : Int32)) dX4_init_40 rfl (by decide) ?_
  refine yy_newi (pc' := 45) (k := 19) (N := 800) (a' := 5) (b' := 4656) dX4_init_43 rfl rfl (by decide) zac_int rfl rfl (by decide) (by decide) rfl rfl (Nat.le_of_ble_eq_true rfl) (Nat.le_of_ble_eq_true rfl) ?_
  refine z_putr (pc' := 48) (w' := (cw 20 54 39)) dX4_init_45 rfl fl_X4_25 rfl rfl rfl rfl rfl (cw_R rfl) ?_
  refine z_aload_n (pc' := 49) (x := 14) dX4_init_48 rfl rfl ?_
  refine z_iconst (pc' := 50) (v := (0 : Int32)) dX4_init_49 rfl (by decide) ?_
  refine z_puti (pc' := 53) (w' := (cw 20 54 38)) dX4_init_50 rfl fl_X4_28 rfl rfl rfl rfl rfl (cw_I rfl) ?_
  refine z_aload_n (pc' := 54) (x := 14) dX4_init_53 rfl rfl ?_
  refine z_aload_n (pc' := 55) (x := 1) dX4_init_54 rfl rfl ?_
  refine z_putr (pc' := 58) (w' := (cw 20 53 38)) dX4_init_55 rfl fl_X4_32 rfl rfl rfl rfl rfl (cw_R rfl) ?_
  refine z_aload_n (pc' := 59) (x := 14) dX4_init_58 rfl rfl ?_
  refine z_aload_n (pc' := 60) (x := 9) dX4_init_59 rfl rfl ?_
  refine z_putr (pc' := 63) (w' := (cw 20 52 38)) dX4_init_60 rfl fl_X4_36 rfl rfl rfl rfl rfl (cw_R rfl) ?_
  exact z_vret dX4_init_63 rfl ⟨Nat.le_of_ble_eq_true rfl, Nat.le_of_ble_eq_true rfl⟩ ⟨rfl, rfl⟩
theorem cn_X1_init_4 {l : Launch} {G : zG} : zCn l G 1 mX1_init 0 0 [.ref 20, .ref 1] (cw 21 51 38) (fun r w => r = none ∧ w = (cw 21 50 34)) := by
  refine zCn.of (ls := [some (.ref 20), some (.ref 1)]) (by decide) (Nat.le_of_ble_eq_true rfl) rfl ?_
  refine z_aload_n (pc' := 1) (x := 20) dX1_init_0 rfl rfl ?_
  refine z_oinit (pc' := 4) dX1_init_1 rfl ml_X1_1 zoi_m.1 zoi_m.2 (Nat.le_of_ble_eq_true rfl) (Nat.le_of_ble_eq_true rfl) ?_
  refine z_aload_n (pc' := 5) (x := 20) dX1_init_4 rfl rfl ?_
  refine z_iconst (pc' := 6) (v := (0 : Int32)) dX1_init_5 rfl (by decide) ?_
  refine z_puti (pc' := 9) (w' := (cw 21 51 37)) dX1_init_6 rfl fl_X1_7 rfl rfl rfl rfl rfl (cw_I rfl) ?_
  refine z_aload_n (pc' := 10) (x := 20) dX1_init_9 rfl rfl ?_
  refine z_iconst (pc' := 11) (v := (0 : Int32)) dX1_init_10 rfl (by decide) ?_
  refine z_puti (pc' := 14) (w' := (cw 21 51 36)) dX1_init_11 rfl fl_X1_13 rfl rfl rfl rfl rfl (cw_I rfl) ?_
  refine z_aload_n (pc' := 15) (x := 20) dX1_init_14 rfl rfl ?_
  refine z_iconst (pc' := 16) (v := (0 : Int32)) dX1_init_15 rfl (by decide) ?_
  refine z_puti (pc' := 19) (w' := (cw 21 51 35)) dX1_init_16 rfl fl_X1_16 rfl rfl rfl rfl rfl (cw_I rfl) ?_
  refine z_aload_n (pc' := 20) (x := 20) dX1_init_19 rfl rfl ?_
  refine z_iconst (pc' := 21) (v := (0 : Int32)) dX1_init_20 rfl (by decide) ?_
  refine z_puti (pc' := 24) (w' := (cw 21 51 34)) dX1_init_21 rfl fl_X1_19 rfl rfl rfl rfl rfl (cw_I rfl) ?_
  refine z_aload_n (pc' := 25) (x := 20) dX1_init_24 rfl rfl ?_
  refine z_aload_n (pc' := 26) (x := 1) dX1_init_25 rfl rfl ?_
  refine z_putr (pc' := 29) (w' := (cw 21 50 34)) dX1_init_26 rfl fl_X1_23 rfl rfl rfl rfl rfl (cw_R rfl) ?_
  exact z_vret dX1_init_29 rfl ⟨Nat.le_of_ble_eq_true rfl, Nat.le_of_ble_eq_true rfl⟩ ⟨rfl, rfl⟩
theorem cn_X7_init_5 {l : Launch} {G : zG} : zCn l G 1 mX7_init 0 0 [.ref 21, .ref 1, .ref 14] (cw 22 49 34) (fun r w => r = none ∧ w = (cw 22 47 34)) := by
  refine zCn.of (ls := [some (.ref 21), some (.ref 1), some (.ref 14)]) (by decide) (Nat.le_of_ble_eq_true rfl) rfl ?_
  refine z_aload_n (pc' := 1) (x := 21) dX7_init_0 rfl rfl ?_
  refine z_oinit (pc' := 4) dX7_init_1 rfl ml_X7_3 zoi_m.1 zoi_m.2 (Nat.le_of_ble_eq_true rfl) (Nat.le_of_ble_eq_true rfl) ?_
  refine z_aload_n (pc' := 5) (x := 21) dX7_init_4 rfl rfl ?_
  refine z_aload_n (pc' := 6) (x := 1) dX7_init_5 rfl rfl ?_
  refine z_putr (pc' := 9) (w' := (cw 22 48 34)) dX7_init_6 rfl fl_X7_9 rfl rfl rfl rfl rfl (cw_R rfl) ?_
  refine z_aload_n (pc' := 10) (x := 21) dX7_init_9 rfl rfl ?_
  refine z_aload_n (pc' := 11) (x := 14) dX7_init_10 rfl rfl ?_
  refine z_putr (pc' := 14) (w' := (cw 22 47 34)) dX7_init_11 rfl fl_X7_15 rfl rfl rfl rfl rfl (cw_R rfl) ?_
  exact z_vret dX7_init_14 rfl ⟨Nat.le_of_ble_eq_true rfl, Nat.le_of_ble_eq_true rfl⟩ ⟨rfl, rfl⟩
theorem cn_X0_init_6 {l : Launch} {G : zG} : zCn l G 1 mX0_init 4 160 [.ref 22] (cw 23 46 34) (fun r w => r = none ∧ w = (cw 27 42 32)) := by
  refine zCn.of (ls := [some (.ref 22)]) (by decide) (Nat.le_of_ble_eq_true rfl) rfl ?_
  refine z_aload_n (pc' := 1) (x := 22) dX0_init_0 rfl rfl ?_
  refine z_oinit (pc' := 4) dX0_init_1 rfl ml_X0_3 zoi_m.1 zoi_m.2 (Nat.le_of_ble_eq_true rfl) (Nat.le_of_ble_eq_true rfl) ?_
  refine z_aload_n (pc' := 5) (x := 22) dX0_init_4 rfl rfl ?_
  refine z_bipush (pc' := 7) (v := (40 : Int32)) dX0_init_5 rfl (by decide) ?_
  refine yy_newi (pc' := 9) (k := 23) (N := 40) (a' := 1) (b' := 40) dX0_init_7 rfl rfl (by decide) zac_int rfl rfl (by decide) (by decide) rfl rfl (Nat.le_of_ble_eq_true rfl) (Nat.le_of_ble_eq_true rfl) ?_
  refine z_putr (pc' := 12) (w' := (cw 24 45 34)) dX0_init_9 rfl fl_X0_11 rfl rfl rfl rfl rfl (cw_R rfl) ?_
  refine z_aload_n (pc' := 13) (x := 22) dX0_init_12 rfl rfl ?_
  refine z_bipush (pc' := 15) (v := (40 : Int32)) dX0_init_13 rfl (by decide) ?_
  refine yy_newi (pc' := 17) (k := 24) (N := 40) (a' := 2) (b' := 80) dX0_init_15 rfl rfl (by decide) zac_int rfl rfl (by decide) (by decide) rfl rfl (Nat.le_of_ble_eq_true rfl) (Nat.le_of_ble_eq_true rfl) ?_
  refine z_putr (pc' := 20) (w' := (cw 25 44 34)) dX0_init_17 rfl fl_X0_15 rfl rfl rfl rfl rfl (cw_R rfl) ?_
  refine z_aload_n (pc' := 21) (x := 22) dX0_init_20 rfl rfl ?_
  refine z_bipush (pc' := 23) (v := (40 : Int32)) dX0_init_21 rfl (by decide) ?_
  refine yy_newi (pc' := 25) (k := 25) (N := 40) (a' := 3) (b' := 120) dX0_init_23 rfl rfl (by decide) zac_int rfl rfl (by decide) (by decide) rfl rfl (Nat.le_of_ble_eq_true rfl) (Nat.le_of_ble_eq_true rfl) ?_
  refine z_putr (pc' := 28) (w' := (cw 26 43 34)) dX0_init_25 rfl fl_X0_18 rfl rfl rfl rfl rfl (cw_R rfl) ?_
  refine z_aload_n (pc' := 29) (x := 22) dX0_init_28 rfl rfl ?_
  refine z_bipush (pc' := 31) (v := (40 : Int32)) dX0_init_29 rfl (by decide) ?_
  refine yy_newi (pc' := 33) (k := 26) (N := 40) (a' := 4) (b' := 160) dX0_init_31 rfl rfl (by decide) zac_int rfl rfl (by decide) (by decide) rfl rfl (Nat.le_of_ble_eq_true rfl) (Nat.le_of_ble_eq_true rfl) ?_
  refine z_putr (pc' := 36) (w' := (cw 27 42 34)) dX0_init_33 rfl fl_X0_21 rfl rfl rfl rfl rfl (cw_R rfl) ?_
  refine z_aload_n (pc' := 37) (x := 22) dX0_init_36 rfl rfl ?_
  refine z_iconst (pc' := 38) (v := (0 : Int32)) dX0_init_37 rfl (by decide) ?_
  refine z_puti (pc' := 41) (w' := (cw 27 42 33)) dX0_init_38 rfl fl_X0_24 rfl rfl rfl rfl rfl (cw_I rfl) ?_
  refine z_aload_n (pc' := 42) (x := 22) dX0_init_41 rfl rfl ?_
  refine z_iconst (pc' := 43) (v := (0 : Int32)) dX0_init_42 rfl (by decide) ?_
  refine z_puti (pc' := 46) (w' := (cw 27 42 32)) dX0_init_43 rfl fl_X0_28 rfl rfl rfl rfl rfl (cw_I rfl) ?_
  exact z_vret dX0_init_46 rfl ⟨Nat.le_of_ble_eq_true rfl, Nat.le_of_ble_eq_true rfl⟩ ⟨rfl, rfl⟩
theorem cn_X6_init_7 {l : Launch} {G : zG} : zCn l G 1 mX6_init 2 74 [.ref 27] (cw 28 41 32) (fun r w => r = none ∧ w = (cw 30 39 30)) := by
  refine zCn.of (ls := [some (.ref 27)]) (by decide) (Nat.le_of_ble_eq_true rfl) rfl ?_
  refine z_aload_n (pc' := 1) (x := 27) dX6_init_0 rfl rfl ?_
  refine z_oinit (pc' := 4) dX6_init_1 rfl ml_X6_3 zoi_m.1 zoi_m.2 (Nat.le_of_ble_eq_true rfl) (Nat.le_of_ble_eq_true rfl) ?_
  refine z_aload_n (pc' := 5) (x := 27) dX6_init_4 rfl rfl ?_
  refine z_bipush (pc' := 7) (v := (50 : Int32)) dX6_init_5 rfl (by decide) ?_
  refine yy_newi (pc' := 9) (k := 28) (N := 50) (a' := 1) (b' := 50) dX6_init_7 rfl rfl (by decide) zac_int rfl rfl (by decide) (by decide) rfl rfl (Nat.le_of_ble_eq_true rfl) (Nat.le_of_ble_eq_true rfl) ?_
  refine z_putr (pc' := 12) (w' := (cw 29 40 32)) dX6_init_9 rfl fl_X6_11 rfl rfl rfl rfl rfl (cw_R rfl) ?_
  refine z_aload_n (pc' := 13) (x := 27) dX6_init_12 rfl rfl ?_
  refine z_iconst (pc' := 14) (v := (0 : Int32)) dX6_init_13 rfl (by decide) ?_
  refine z_puti (pc' := 17) (w' := (cw 29 40 31)) dX6_init_14 rfl fl_X6_15 rfl rfl rfl rfl rfl (cw_I rfl) ?_
  refine z_aload_n (pc' := 18) (x := 27) dX6_init_17 rfl rfl ?_
  refine z_bipush (pc' := 20) (v := (24 : Int32)) dX6_init_18 rfl (by decide) ?_
  refine yy_newi (pc' := 22) (k := 29) (N := 24) (a' := 2) (b' := 74) dX6_init_20 rfl rfl (by decide) zac_int rfl rfl (by decide) (by decide) rfl rfl (Nat.le_of_ble_eq_true rfl) (Nat.le_of_ble_eq_true rfl) ?_
  refine z_putr (pc' := 25) (w' := (cw 30 39 31)) dX6_init_22 rfl fl_X6_19 rfl rfl rfl rfl rfl (cw_R rfl) ?_
  refine z_aload_n (pc' := 26) (x := 27) dX6_init_25 rfl rfl ?_
  refine z_iconst (pc' := 27) (v := (0 : Int32)) dX6_init_26 rfl (by decide) ?_
  refine z_puti (pc' := 30) (w' := (cw 30 39 30)) dX6_init_27 rfl fl_X6_22 rfl rfl rfl rfl rfl (cw_I rfl) ?_
  exact z_vret dX6_init_30 rfl ⟨Nat.le_of_ble_eq_true rfl, Nat.le_of_ble_eq_true rfl⟩ ⟨rfl, rfl⟩
theorem cn_X5_init_8 {l : Launch} {G : zG} : zCn l G 1 mX5_init 1 60 [.ref 31] (cw 32 37 30) (fun r w => r = none ∧ w = (cw 33 36 27)) := by
  refine zCn.of (ls := [some (.ref 31)]) (by decide) (Nat.le_of_ble_eq_true rfl) rfl ?_
  refine z_aload_n (pc' := 1) (x := 31) dX5_init_0 rfl rfl ?_
  refine z_oinit (pc' := 4) dX5_init_1 rfl ml_X5_3 zoi_m.1 zoi_m.2 (Nat.le_of_ble_eq_true rfl) (Nat.le_of_ble_eq_true rfl) ?_
  refine z_aload_n (pc' := 5) (x := 31) dX5_init_4 rfl rfl ?_
  refine z_bipush (pc' := 7) (v := (-2 : Int32)) dX5_init_5 rfl (by decide) ?_
  refine z_puti (pc' := 10) (w' := (cw 32 37 29)) dX5_init_7 rfl fl_X5_11 rfl rfl rfl rfl rfl (cw_I rfl) ?_
  refine z_aload_n (pc' := 11) (x := 31) dX5_init_10 rfl rfl ?_
  refine z_iconst (pc' := 12) (v := (-1 : Int32)) dX5_init_11 rfl (by decide) ?_
  refine z_puti (pc' := 15) (w' := (cw 32 37 28)) dX5_init_12 rfl fl_X5_15 rfl rfl rfl rfl rfl (cw_I rfl) ?_
  refine z_aload_n (pc' := 16) (x := 31) dX5_init_15 rfl rfl ?_
  refine z_iconst (pc' := 17) (v := (0 : Int32)) dX5_init_16 rfl (by decide) ?_
  refine z_puti (pc' := 20) (w' := (cw 32 37 27)) dX5_init_17 rfl fl_X5_18 rfl rfl rfl rfl rfl (cw_I rfl) ?_
  refine z_aload_n (pc' := 21) (x := 31) dX5_init_20 rfl rfl ?_
  refine z_bipush (pc' := 23) (v := (60 : Int32)) dX5_init_21 rfl (by decide) ?_
  refine yy_newl (pc' := 25) (k := 32) (N := 60) (a' := 1) (b' := 60) dX5_init_23 rfl rfl (by decide) zac_long rfl rfl (by decide) (by decide) rfl rfl (Nat.le_of_ble_eq_true rfl) (Nat.le_of_ble_eq_true rfl) ?_
  refine z_putr (pc' := 28) (w' := (cw 33 36 27)) dX5_init_25 rfl fl_X5_21 rfl rfl rfl rfl rfl (cw_R rfl) ?_
  exact z_vret dX5_init_28 rfl ⟨Nat.le_of_ble_eq_true rfl, Nat.le_of_ble_eq_true rfl⟩ ⟨rfl, rfl⟩
theorem cn_X5_init_9 {l : Launch} {G : zG} : zCn l G 1 mX5_init 1 60 [.ref 33] (cw 34 35 27) (fun r w => r = none ∧ w = (cw 35 34 24)) := by
  refine zCn.of (ls := [some (.ref 33)]) (by decide) (Nat.le_of_ble_eq_true rfl) rfl ?_
  refine z_aload_n (pc' := 1) (x := 33) dX5_init_0 rfl rfl ?_
  refine z_oinit (pc' := 4) dX5_init_1 rfl ml_X5_3 zoi_m.1 zoi_m.2 (Nat.le_of_ble_eq_true rfl) (Nat.le_of_ble_eq_true rfl) ?_
  refine z_aload_n (pc' := 5) (x := 33) dX5_init_4 rfl rfl ?_
  refine z_bipush (pc' := 7) (v := (-2 : Int32)) dX5_init_5 rfl (by decide) ?_
  refine z_puti (pc' := 10) (w' := (cw 34 35 26)) dX5_init_7 rfl fl_X5_11 rfl rfl rfl rfl rfl (cw_I rfl) ?_
  refine z_aload_n (pc' := 11) (x := 33) dX5_init_10 rfl rfl ?_
  refine z_iconst (pc' := 12) (v := (-1 : Int32)) dX5_init_11 rfl (by decide) ?_
  refine z_puti (pc' := 15) (w' := (cw 34 35 25)) dX5_init_12 rfl fl_X5_15 rfl rfl rfl rfl rfl (cw_I rfl) ?_
  refine z_aload_n (pc' := 16) (x := 33) dX5_init_15 rfl rfl ?_
  refine z_iconst (pc' := 17) (v := (0 : Int32)) dX5_init_16 rfl (by decide) ?_
  refine z_puti (pc' := 20) (w' := (cw 34 35 24)) dX5_init_17 rfl fl_X5_18 rfl rfl rfl rfl rfl (cw_I rfl) ?_
  refine z_aload_n (pc' := 21) (x := 33) dX5_init_20 rfl rfl ?_
  refine z_bipush (pc' := 23) (v := (60 : Int32)) dX5_init_21 rfl (by decide) ?_
  refine yy_newl (pc' := 25) (k := 34) (N := 60) (a' := 1) (b' := 60) dX5_init_23 rfl rfl (by decide) zac_long rfl rfl (by decide) (by decide) rfl rfl (Nat.le_of_ble_eq_true rfl) (Nat.le_of_ble_eq_true rfl) ?_
  refine z_putr (pc' := 28) (w' := (cw 35 34 24)) dX5_init_25 rfl fl_X5_21 rfl rfl rfl rfl rfl (cw_R rfl) ?_
  exact z_vret dX5_init_28 rfl ⟨Nat.le_of_ble_eq_true rfl, Nat.le_of_ble_eq_true rfl⟩ ⟨rfl, rfl⟩
theorem cn_X5_init_10 {l : Launch} {G : zG} : zCn l G 1 mX5_init 1 60 [.ref 35] (cw 36 33 24) (fun r w => r = none ∧ w = (cw 37 32 21)) := by
  refine zCn.of (ls := [some (.ref 35)]) (by decide) (Nat.le_of_ble_eq_true rfl) rfl ?_
  refine z_aload_n (pc' := 1) (x := 35) dX5_init_0 rfl rfl ?_
  refine z_oinit (pc' := 4) dX5_init_1 rfl ml_X5_3 zoi_m.1 zoi_m.2 (Nat.le_of_ble_eq_true rfl) (Nat.le_of_ble_eq_true rfl) ?_
  refine z_aload_n (pc' := 5) (x := 35) dX5_init_4 rfl rfl ?_
  refine z_bipush (pc' := 7) (v := (-2 : Int32)) dX5_init_5 rfl (by decide) ?_
  refine z_puti (pc' := 10) (w' := (cw 36 33 23)) dX5_init_7 rfl fl_X5_11 rfl rfl rfl rfl rfl (cw_I rfl) ?_
  refine z_aload_n (pc' := 11) (x := 35) dX5_init_10 rfl rfl ?_
  refine z_iconst (pc' := 12) (v := (-1 : Int32)) dX5_init_11 rfl (by decide) ?_
  refine z_puti (pc' := 15) (w' := (cw 36 33 22)) dX5_init_12 rfl fl_X5_15 rfl rfl rfl rfl rfl (cw_I rfl) ?_
  refine z_aload_n (pc' := 16) (x := 35) dX5_init_15 rfl rfl ?_
  refine z_iconst (pc' := 17) (v := (0 : Int32)) dX5_init_16 rfl (by decide) ?_
  refine z_puti (pc' := 20) (w' := (cw 36 33 21)) dX5_init_17 rfl fl_X5_18 rfl rfl rfl rfl rfl (cw_I rfl) ?_
  refine z_aload_n (pc' := 21) (x := 35) dX5_init_20 rfl rfl ?_
  refine z_bipush (pc' := 23) (v := (60 : Int32)) dX5_init_21 rfl (by decide) ?_
  refine yy_newl (pc' := 25) (k := 36) (N := 60) (a' := 1) (b' := 60) dX5_init_23 rfl rfl (by decide) zac_long rfl rfl (by decide) (by decide) rfl rfl (Nat.le_of_ble_eq_true rfl) (Nat.le_of_ble_eq_true rfl) ?_
  refine z_putr (pc' := 28) (w' := (cw 37 32 21)) dX5_init_25 rfl fl_X5_21 rfl rfl rfl rfl rfl (cw_R rfl) ?_
  exact z_vret dX5_init_28 rfl ⟨Nat.le_of_ble_eq_true rfl, Nat.le_of_ble_eq_true rfl⟩ ⟨rfl, rfl⟩
theorem cn_X5_init_11 {l : Launch} {G : zG} : zCn l G 1 mX5_init 1 60 [.ref 37] (cw 38 31 21) (fun r w => r = none ∧ w = (cw 39 30 18)) := by
  refine zCn.of (ls := [some (.ref 37)]) (by decide) (Nat.le_of_ble_eq_true rfl) rfl ?_
  refine z_aload_n (pc' := 1) (x := 37) dX5_init_0 rfl rfl ?_
  refine z_oinit (pc' := 4) dX5_init_1 rfl ml_X5_3 zoi_m.1 zoi_m.2 (Nat.le_of_ble_eq_true rfl) (Nat.le_of_ble_eq_true rfl) ?_
  refine z_aload_n (pc' := 5) (x := 37) dX5_init_4 rfl rfl ?_
  refine z_bipush (pc' := 7) (v := (-2 : Int32)) dX5_init_5 rfl (by decide) ?_
  refine z_puti (pc' := 10) (w' := (cw 38 31 20)) dX5_init_7 rfl fl_X5_11 rfl rfl rfl rfl rfl (cw_I rfl) ?_
  refine z_aload_n (pc' := 11) (x := 37) dX5_init_10 rfl rfl ?_
  refine z_iconst (pc' := 12) (v := (-1 : Int32)) dX5_init_11 rfl (by decide) ?_
  refine z_puti (pc' := 15) (w' := (cw 38 31 19)) dX5_init_12 rfl fl_X5_15 rfl rfl rfl rfl rfl (cw_I rfl) ?_
  refine z_aload_n (pc' := 16) (x := 37) dX5_init_15 rfl rfl ?_
  refine z_iconst (pc' := 17) (v := (0 : Int32)) dX5_init_16 rfl (by decide) ?_
  refine z_puti (pc' := 20) (w' := (cw 38 31 18)) dX5_init_17 rfl fl_X5_18 rfl rfl rfl rfl rfl (cw_I rfl) ?_
  refine z_aload_n (pc' := 21) (x := 37) dX5_init_20 rfl rfl ?_
  refine z_bipush (pc' := 23) (v := (60 : Int32)) dX5_init_21 rfl (by decide) ?_
  refine yy_newl (pc' := 25) (k := 38) (N := 60) (a' := 1) (b' := 60) dX5_init_23 rfl rfl (by decide) zac_long rfl rfl (by decide) (by decide) rfl rfl (Nat.le_of_ble_eq_true rfl) (Nat.le_of_ble_eq_true rfl) ?_
  refine z_putr (pc' := 28) (w' := (cw 39 30 18)) dX5_init_25 rfl fl_X5_21 rfl rfl rfl rfl rfl (cw_R rfl) ?_
  exact z_vret dX5_init_28 rfl ⟨Nat.le_of_ble_eq_true rfl, Nat.le_of_ble_eq_true rfl⟩ ⟨rfl, rfl⟩
theorem cn_X5_init_12 {l : Launch} {G : zG} : zCn l G 1 mX5_init 1 60 [.ref 39] (cw 40 29 18) (fun r w => r = none ∧ w = (cw 41 28 15)) := by
  refine zCn.of (ls := [some (.ref 39)]) (by decide) (Nat.le_of_ble_eq_true rfl) rfl ?_
  refine z_aload_n (pc' := 1) (x := 39) dX5_init_0 rfl rfl ?_
  refine z_oinit (pc' := 4) dX5_init_1 rfl ml_X5_3 zoi_m.1 zoi_m.2 (Nat.le_of_ble_eq_true rfl) (Nat.le_of_ble_eq_true rfl) ?_
  refine z_aload_n (pc' := 5) (x := 39) dX5_init_4 rfl rfl ?_
  refine z_bipush (pc' := 7) (v := (-2 : Int32)) dX5_init_5 rfl (by decide) ?_
  refine z_puti (pc' := 10) (w' := (cw 40 29 17)) dX5_init_7 rfl fl_X5_11 rfl rfl rfl rfl rfl (cw_I rfl) ?_
  refine z_aload_n (pc' := 11) (x := 39) dX5_init_10 rfl rfl ?_
  refine z_iconst (pc' := 12) (v := (-1 : Int32)) dX5_init_11 rfl (by decide) ?_
  refine z_puti (pc' := 15) (w' := (cw 40 29 16)) dX5_init_12 rfl fl_X5_15 rfl rfl rfl rfl rfl (cw_I rfl) ?_
  refine z_aload_n (pc' := 16) (x := 39) dX5_init_15 rfl rfl ?_
  refine z_iconst (pc' := 17) (v := (0 : Int32)) dX5_init_16 rfl (by decide) ?_
  refine z_puti (pc' := 20) (w' := (cw 40 29 15)) dX5_init_17 rfl fl_X5_18 rfl rfl rfl rfl rfl (cw_I rfl) ?_
  refine z_aload_n (pc' := 21) (x := 39) dX5_init_20 rfl rfl ?_
  refine z_bipush (pc' := 23) (v := (60 : Int32)) dX5_init_21 rfl (by decide) ?_
  refine yy_newl (pc' := 25) (k := 40) (N := 60) (a' := 1) (b' := 60) dX5_init_23 rfl rfl (by decide) zac_long rfl rfl (by decide) (by decide) rfl rfl (Nat.le_of_ble_eq_true rfl) (Nat.le_of_ble_eq_true rfl) ?_
  refine z_putr (pc' := 28) (w' := (cw 41 28 15)) dX5_init_25 rfl fl_X5_21 rfl rfl rfl rfl rfl (cw_R rfl) ?_
  exact z_vret dX5_init_28 rfl ⟨Nat.le_of_ble_eq_true rfl, Nat.le_of_ble_eq_true rfl⟩ ⟨rfl, rfl⟩
theorem cn_X5_init_13 {l : Launch} {G : zG} : zCn l G 1 mX5_init 1 60 [.ref 41] (cw 42 27 15) (fun r w => r = none ∧ w = (cw 43 26 12)) := by
  refine zCn.of (ls := [some (.ref 41)]) (by decide) (Nat.le_of_ble_eq_true rfl) rfl ?_
  refine z_aload_n (pc' := 1) (x := 41) dX5_init_0 rfl rfl ?_
  refine z_oinit (pc' := 4) dX5_init_1 rfl ml_X5_3 zoi_m.1 zoi_m.2 (Nat.le_of_ble_eq_true rfl) (Nat.le_of_ble_eq_true rfl) ?_
  refine z_aload_n (pc' := 5) (x := 41) dX5_init_4 rfl rfl ?_
  refine z_bipush (pc' := 7) (v := (-2 : Int32)) dX5_init_5 rfl (by decide) ?_
  refine z_puti (pc' := 10) (w' := (cw 42 27 14)) dX5_init_7 rfl fl_X5_11 rfl rfl rfl rfl rfl (cw_I rfl) ?_
  refine z_aload_n (pc' := 11) (x := 41) dX5_init_10 rfl rfl ?_
  refine z_iconst (pc' := 12) (v := (-1 : Int32)) dX5_init_11 rfl (by decide) ?_
  refine z_puti (pc' := 15) (w' := (cw 42 27 13)) dX5_init_12 rfl fl_X5_15 rfl rfl rfl rfl rfl (cw_I rfl) ?_
  refine z_aload_n (pc' := 16) (x := 41) dX5_init_15 rfl rfl ?_
  refine z_iconst (pc' := 17) (v := (0 : Int32)) dX5_init_16 rfl (by decide) ?_
  refine z_puti (pc' := 20) (w' := (cw 42 27 12)) dX5_init_17 rfl fl_X5_18 rfl rfl rfl rfl rfl (cw_I rfl) ?_
  refine z_aload_n (pc' := 21) (x := 41) dX5_init_20 rfl rfl ?_
  refine z_bipush (pc' := 23) (v := (60 : Int32)) dX5_init_21 rfl (by decide) ?_
  refine yy_newl (pc' := 25) (k := 42) (N := 60) (a' := 1) (b' := 60) dX5_init_23 rfl rfl (by decide) zac_long rfl rfl (by decide) (by decide) rfl rfl (Nat.le_of_ble_eq_true rfl) (Nat.le_of_ble_eq_true rfl) ?_
  refine z_putr (pc' := 28) (w' := (cw 43 26 12)) dX5_init_25 rfl fl_X5_21 rfl rfl rfl rfl rfl (cw_R rfl) ?_
  exact z_vret dX5_init_28 rfl ⟨Nat.le_of_ble_eq_true rfl, Nat.le_of_ble_eq_true rfl⟩ ⟨rfl, rfl⟩
theorem cn_X8_init_14 {l : Launch} {G : zG} : zCn l G 2 mX8_init 43 6179 [.ref 0] (cw 1 72 48) (fun r w => r = none ∧ w = (cw 44 24 12)) := by
  refine zCn.of (ls := [some (.ref 0), none]) (by decide) (Nat.le_of_ble_eq_true rfl) rfl ?_
  refine z_aload_n (pc' := 1) (x := 0) dX8_init_0 rfl rfl ?_
  refine z_oinit (pc' := 4) dX8_init_1 rfl ml_X8_1 zoi_m.1 zoi_m.2 (Nat.le_of_ble_eq_true rfl) (Nat.le_of_ble_eq_true rfl) ?_
  refine z_aload_n (pc' := 5) (x := 0) dX8_init_4 rfl rfl ?_
  refine yy_new (pc' := 8) (k := 1) (ci := 2) (a' := 1) (b' := 9) dX8_init_5 rfl (by decide) cl_X8_7 in_X2 ii_X2 rfl rfl (by decide) (by decide) rfl rfl (Nat.le_of_ble_eq_true rfl) (Nat.le_of_ble_eq_true rfl) ?_
  refine z_dup (pc' := 9) dX8_init_8 rfl rfl ?_
  refine z_callIN (pc' := 12) (y := yX2_init) (cd := cX2_init) (mL := 1) (As := []) (b := 1) dX8_init_9 rfl (fun _ h => h.1) me_X2_init cn_X2_init_1 rfl (Nat.le_of_ble_eq_true rfl) (Nat.le_of_ble_eq_true rfl) ⟨Nat.le_of_ble_eq_true rfl, Nat.le_of_ble_eq_true rfl⟩ rfl ?_
  rintro _ _ ⟨rfl, rfl⟩
  refine z_putr (pc' := 15) (w' := (cw 9 64 41)) dX8_init_12 rfl fl_X8_10 rfl rfl rfl rfl rfl (cw_R rfl) ?_
  refine z_aload_n (pc' := 16) (x := 0) dX8_init_15 rfl rfl ?_
  refine yy_new (pc' := 19) (k := 9) (ci := 3) (a' := 9) (b' := 107) dX8_init_16 rfl (by decide) cl_X8_16 in_X3 ii_X3 rfl rfl (by decide) (by decide) rfl rfl (Nat.le_of_ble_eq_true rfl) (Nat.le_of_ble_eq_true rfl) ?_
  refine z_dup (pc' := 20) dX8_init_19 rfl rfl ?_
  refine z_callIN (pc' := 23) (y := yX3_init) (cd := cX3_init) (mL := 1) (As := []) (b := 9) dX8_init_20 rfl (fun _ h => h.2.1) me_X3_init cn_X3_init_2 rfl (Nat.le_of_ble_eq_true rfl) (Nat.le_of_ble_eq_true rfl) ⟨Nat.le_of_ble_eq_true rfl, Nat.le_of_ble_eq_true rfl⟩ rfl ?_
  rintro _ _ ⟨rfl, rfl⟩
  refine z_putr (pc' := 26) (w' := (cw 14 59 39)) dX8_init_23 rfl fl_X8_19 rfl rfl rfl rfl rfl (cw_R rfl) ?_
  refine z_aload_n (pc' := 27) (x := 0) dX8_init_26 rfl rfl ?_
  refine yy_new (pc' := 30) (k := 14) (ci := 4) (a' := 14) (b' := 868) dX8_init_27 rfl (by decide) cl_X8_23 in_X4 ii_X4 rfl rfl (by decide) (by decide) rfl rfl (Nat.le_of_ble_eq_true rfl) (Nat.le_of_ble_eq_true rfl) ?_
  refine z_dup (pc' := 31) dX8_init_30 rfl rfl ?_
  refine z_aload_n (pc' := 32) (x := 0) dX8_init_31 rfl rfl ?_
  refine z_getr (pc' := 35) (x := 1) dX8_init_32 rfl fl_X8_10 rfl rfl (by decide +kernel) ?_
  refine z_aload_n (pc' := 36) (x := 0) dX8_init_35 rfl rfl ?_
  refine z_getr (pc' := 39) (x := 9) dX8_init_36 rfl fl_X8_19 rfl rfl (by decide +kernel) ?_
  refine z_callI (pc' := 42) (y := yX4_init) (cd := cX4_init) (mL := 3) (As := [.ref 1, .ref 9]) (b := 14) dX8_init_39 rfl ml_X8_25 me_X4_init cn_X4_init_3 rfl (Nat.le_of_ble_eq_true rfl) (Nat.le_of_ble_eq_true rfl) ⟨Nat.le_of_ble_eq_true rfl, Nat.le_of_ble_eq_true rfl⟩ rfl ?_
  rintro _ _ ⟨rfl, rfl⟩
  refine z_putr (pc' := 45) (w' := (cw 20 51 38)) dX8_init_42 rfl fl_X8_28 rfl rfl rfl rfl rfl (cw_R rfl) ?_
  refine z_aload_n (pc' := 46) (x := 0) dX8_init_45 rfl rfl ?_
  refine yy_new (pc' := 49) (k := 20) (ci := 1) (a' := 20) (b' := 5532) dX8_init_46 rfl (by decide) cl_X8_32 in_X1 ii_X1 rfl rfl (by decide) (by decide) rfl rfl (Nat.le_of_ble_eq_true rfl) (Nat.le_of_ble_eq_true rfl) ?_
  refine z_dup (pc' := 50) dX8_init_49 rfl rfl ?_
  refine z_aload_n (pc' := 51) (x := 0) dX8_init_50 rfl rfl ?_
  refine z_getr (pc' := 54) (x := 1) dX8_init_51 rfl fl_X8_10 rfl rfl (by decide +kernel) ?_
  refine z_callI (pc' := 57) (y := yX1_init) (cd := cX1_init) (mL := 2) (As := [.ref 1]) (b := 20) dX8_init_54 rfl ml_X8_34 me_X1_init cn_X1_init_4 rfl (Nat.le_of_ble_eq_true rfl) (Nat.le_of_ble_eq_true rfl) ⟨Nat.le_of_ble_eq_true rfl, Nat.le_of_ble_eq_true rfl⟩ rfl ?_
  rintro _ _ ⟨rfl, rfl⟩
  refine z_putr (pc' := 60) (w' := (cw 21 49 34)) dX8_init_57 rfl fl_X8_37 rfl rfl rfl rfl rfl (cw_R rfl) ?_
  refine z_aload_n (pc' := 61) (x := 0) dX8_init_60 rfl rfl ?_
  refine yy_new (pc' := 64) (k := 21) (ci := 7) (a' := 21) (b' := 5540) dX8_init_61 rfl (by decide) cl_X8_41 in_X7 ii_X7 rfl rfl (by decide) (by decide) rfl rfl (Nat.le_of_ble_eq_true rfl) (Nat.le_of_ble_eq_true rfl) ?_
  refine z_dup (pc' := 65) dX8_init_64 rfl rfl ?_
  refine z_aload_n (pc' := 66) (x := 0) dX8_init_65 rfl rfl ?_
  refine z_getr (pc' := 69) (x := 1) dX8_init_66 rfl fl_X8_10 rfl rfl (by decide +kernel) ?_
  refine z_aload_n (pc' := 70) (x := 0) dX8_init_69 rfl rfl ?_
  refine z_getr (pc' := 73) (x := 14) dX8_init_70 rfl fl_X8_28 rfl rfl (by decide +kernel) ?_
  refine z_callI (pc' := 76) (y := yX7_init) (cd := cX7_init) (mL := 3) (As := [.ref 1, .ref 14]) (b := 21) dX8_init_73 rfl ml_X8_43 me_X7_init cn_X7_init_5 rfl (Nat.le_of_ble_eq_true rfl) (Nat.le_of_ble_eq_true rfl) ⟨Nat.le_of_ble_eq_true rfl, Nat.le_of_ble_eq_true rfl⟩ rfl ?_
  rintro _ _ ⟨rfl, rfl⟩
  refine z_putr (pc' := 79) (w' := (cw 22 46 34)) dX8_init_76 rfl fl_X8_46 rfl rfl rfl rfl rfl (cw_R rfl) ?_
  refine z_aload_n (pc' := 80) (x := 0) dX8_init_79 rfl rfl ?_
  refine yy_new (pc' := 83) (k := 22) (ci := 0) (a' := 22) (b' := 5546) dX8_init_80 rfl (by decide) cl_X8_50 in_X0 ii_X0 rfl rfl (by decide) (by decide) rfl rfl (Nat.le_of_ble_eq_true rfl) (Nat.le_of_ble_eq_true rfl) ?_
  refine z_dup (pc' := 84) dX8_init_83 rfl rfl ?_
  refine z_callIN (pc' := 87) (y := yX0_init) (cd := cX0_init) (mL := 1) (As := []) (b := 22) dX8_init_84 rfl (fun _ h => h.2.2.1) me_X0_init cn_X0_init_6 rfl (Nat.le_of_ble_eq_true rfl) (Nat.le_of_ble_eq_true rfl) ⟨Nat.le_of_ble_eq_true rfl, Nat.le_of_ble_eq_true rfl⟩ rfl ?_
  rintro _ _ ⟨rfl, rfl⟩
  refine z_putr (pc' := 90) (w' := (cw 27 41 32)) dX8_init_87 rfl fl_X8_53 rfl rfl rfl rfl rfl (cw_R rfl) ?_
  refine z_aload_n (pc' := 91) (x := 0) dX8_init_90 rfl rfl ?_
  refine yy_new (pc' := 94) (k := 27) (ci := 6) (a' := 27) (b' := 5711) dX8_init_91 rfl (by decide) cl_X8_57 in_X6 ii_X6 rfl rfl (by decide) (by decide) rfl rfl (Nat.le_of_ble_eq_true rfl) (Nat.le_of_ble_eq_true rfl) ?_
  refine z_dup (pc' := 95) dX8_init_94 rfl rfl ?_
  refine z_callIN (pc' := 98) (y := yX6_init) (cd := cX6_init) (mL := 1) (As := []) (b := 27) dX8_init_95 rfl (fun _ h => h.2.2.2.1) me_X6_init cn_X6_init_7 rfl (Nat.le_of_ble_eq_true rfl) (Nat.le_of_ble_eq_true rfl) ⟨Nat.le_of_ble_eq_true rfl, Nat.le_of_ble_eq_true rfl⟩ rfl ?_
  rintro _ _ ⟨rfl, rfl⟩
  refine z_putr (pc' := 101) (w' := (cw 30 38 30)) dX8_init_98 rfl fl_X8_60 rfl rfl rfl rfl rfl (cw_R rfl) ?_
  refine z_aload_n (pc' := 102) (x := 0) dX8_init_101 rfl rfl ?_
  refine z_bipush (pc' := 104) (v := (6 : Int32)) dX8_init_102 rfl (by decide) ?_
  refine yy_newq (pc' := 107) (k := 30) (N := 6) (a' := 30) (b' := 5791) dX8_init_104 rfl rfl (by decide) cl_X8_64 rfl rfl (by decide) (by decide) rfl rfl (Nat.le_of_ble_eq_true rfl) (Nat.le_of_ble_eq_true rfl) ?_
  refine z_putr (pc' := 110) (w' := (cw 31 37 30)) dX8_init_107 rfl fl_X8_66 rfl rfl rfl rfl rfl (cw_R rfl) ?_
  refine z_iconst (pc' := 111) (v := (0 : Int32)) dX8_init_110 rfl (by decide) ?_
  refine z_istore_n (pc' := 112) (ls' := [some (.ref 0), some (.int (0 : Int32))]) dX8_init_111 rfl (by decide) rfl ?_
  refine z_iload_n (pc' := 113) (x := 0) dX8_init_112 rfl rfl ?_
  refine z_bipush (pc' := 115) (v := (6 : Int32)) dX8_init_113 rfl (by decide) ?_
  refine z_icmp_ge (pc' := 118) (tgt := 137) dX8_init_115 rfl (by decide) (fun c => absurd c (by decide)) (fun _ => ?_)
  refine z_aload_n (pc' := 119) (x := 0) dX8_init_118 rfl rfl ?_
  refine z_getr (pc' := 122) (x := 30) dX8_init_119 rfl fl_X8_66 rfl rfl (by decide +kernel) ?_
  refine z_iload_n (pc' := 123) (x := 0) dX8_init_122 rfl rfl ?_
  refine yy_new (pc' := 126) (k := 31) (ci := 5) (a' := 31) (b' := 5795) dX8_init_123 rfl (by decide) cl_X8_64 in_X5 ii_X5 rfl rfl (by decide) (by decide) rfl rfl (Nat.le_of_ble_eq_true rfl) (Nat.le_of_ble_eq_true rfl) ?_
  refine z_dup (pc' := 127) dX8_init_126 rfl rfl ?_
  refine z_callIN (pc' := 130) (y := yX5_init) (cd := cX5_init) (mL := 1) (As := []) (b := 31) dX8_init_127 rfl (fun _ h => h.2.2.2.2) me_X5_init cn_X5_init_8 rfl (Nat.le_of_ble_eq_true rfl) (Nat.le_of_ble_eq_true rfl) ⟨Nat.le_of_ble_eq_true rfl, Nat.le_of_ble_eq_true rfl⟩ rfl ?_
  rintro _ _ ⟨rfl, rfl⟩
  refine z_aast (pc' := 131) (j := 0) (w' := (cw 33 35 27)) dX8_init_130 rfl rfl (by decide) rfl (by decide) rfl (cw_R rfl) ?_
  refine z_iinc (pc' := 134) (x := 0) (v := 1) (ls' := [some (.ref 0), some (.int (1 : Int32))]) dX8_init_131 rfl rfl (by decide) (by decide) rfl ?_
  refine z_goto (pc' := 112) dX8_init_134 (by decide) ?_
  refine z_iload_n (pc' := 113) (x := 1) dX8_init_112 rfl rfl ?_
  refine z_bipush (pc' := 115) (v := (6 : Int32)) dX8_init_113 rfl (by decide) ?_
  refine z_icmp_ge (pc' := 118) (tgt := 137) dX8_init_115 rfl (by decide) (fun c => absurd c (by decide)) (fun _ => ?_)
  refine z_aload_n (pc' := 119) (x := 0) dX8_init_118 rfl rfl ?_
  refine z_getr (pc' := 122) (x := 30) dX8_init_119 rfl fl_X8_66 rfl rfl (by decide +kernel) ?_
  refine z_iload_n (pc' := 123) (x := 1) dX8_init_122 rfl rfl ?_
  refine yy_new (pc' := 126) (k := 33) (ci := 5) (a' := 33) (b' := 5859) dX8_init_123 rfl (by decide) cl_X8_64 in_X5 ii_X5 rfl rfl (by decide) (by decide) rfl rfl (Nat.le_of_ble_eq_true rfl) (Nat.le_of_ble_eq_true rfl) ?_
  refine z_dup (pc' := 127) dX8_init_126 rfl rfl ?_
  refine z_callIN (pc' := 130) (y := yX5_init) (cd := cX5_init) (mL := 1) (As := []) (b := 33) dX8_init_127 rfl (fun _ h => h.2.2.2.2) me_X5_init cn_X5_init_9 rfl (Nat.le_of_ble_eq_true rfl) (Nat.le_of_ble_eq_true rfl) ⟨Nat.le_of_ble_eq_true rfl, Nat.le_of_ble_eq_true rfl⟩ rfl ?_
  rintro _ _ ⟨rfl, rfl⟩
  refine z_aast (pc' := 131) (j := 1) (w' := (cw 35 33 24)) dX8_init_130 rfl rfl (by decide) rfl (by decide) rfl (cw_R rfl) ?_
  refine z_iinc (pc' := 134) (x := 1) (v := 2) (ls' := [some (.ref 0), some (.int (2 : Int32))]) dX8_init_131 rfl rfl (by decide) (by decide) rfl ?_
  refine z_goto (pc' := 112) dX8_init_134 (by decide) ?_
  refine z_iload_n (pc' := 113) (x := 2) dX8_init_112 rfl rfl ?_
  refine z_bipush (pc' := 115) (v := (6 : Int32)) dX8_init_113 rfl (by decide) ?_
  refine z_icmp_ge (pc' := 118) (tgt := 137) dX8_init_115 rfl (by decide) (fun c => absurd c (by decide)) (fun _ => ?_)
  refine z_aload_n (pc' := 119) (x := 0) dX8_init_118 rfl rfl ?_
  refine z_getr (pc' := 122) (x := 30) dX8_init_119 rfl fl_X8_66 rfl rfl (by decide +kernel) ?_
  refine z_iload_n (pc' := 123) (x := 2) dX8_init_122 rfl rfl ?_
  refine yy_new (pc' := 126) (k := 35) (ci := 5) (a' := 35) (b' := 5923) dX8_init_123 rfl (by decide) cl_X8_64 in_X5 ii_X5 rfl rfl (by decide) (by decide) rfl rfl (Nat.le_of_ble_eq_true rfl) (Nat.le_of_ble_eq_true rfl) ?_
  refine z_dup (pc' := 127) dX8_init_126 rfl rfl ?_
  refine z_callIN (pc' := 130) (y := yX5_init) (cd := cX5_init) (mL := 1) (As := []) (b := 35) dX8_init_127 rfl (fun _ h => h.2.2.2.2) me_X5_init cn_X5_init_10 rfl (Nat.le_of_ble_eq_true rfl) (Nat.le_of_ble_eq_true rfl) ⟨Nat.le_of_ble_eq_true rfl, Nat.le_of_ble_eq_true rfl⟩ rfl ?_
  rintro _ _ ⟨rfl, rfl⟩
  refine z_aast (pc' := 131) (j := 2) (w' := (cw 37 31 21)) dX8_init_130 rfl rfl (by decide) rfl (by decide) rfl (cw_R rfl) ?_
  refine z_iinc (pc' := 134) (x := 2) (v := 3) (ls' := [some (.ref 0), some (.int (3 : Int32))]) dX8_init_131 rfl rfl (by decide) (by decide) rfl ?_
  refine z_goto (pc' := 112) dX8_init_134 (by decide) ?_
  refine z_iload_n (pc' := 113) (x := 3) dX8_init_112 rfl rfl ?_
  refine z_bipush (pc' := 115) (v := (6 : Int32)) dX8_init_113 rfl (by decide) ?_
  refine z_icmp_ge (pc' := 118) (tgt := 137) dX8_init_115 rfl (by decide) (fun c => absurd c (by decide)) (fun _ => ?_)
  refine z_aload_n (pc' := 119) (x := 0) dX8_init_118 rfl rfl ?_
  refine z_getr (pc' := 122) (x := 30) dX8_init_119 rfl fl_X8_66 rfl rfl (by decide +kernel) ?_
  refine z_iload_n (pc' := 123) (x := 3) dX8_init_122 rfl rfl ?_
  refine yy_new (pc' := 126) (k := 37) (ci := 5) (a' := 37) (b' := 5987) dX8_init_123 rfl (by decide) cl_X8_64 in_X5 ii_X5 rfl rfl (by decide) (by decide) rfl rfl (Nat.le_of_ble_eq_true rfl) (Nat.le_of_ble_eq_true rfl) ?_
  refine z_dup (pc' := 127) dX8_init_126 rfl rfl ?_
  refine z_callIN (pc' := 130) (y := yX5_init) (cd := cX5_init) (mL := 1) (As := []) (b := 37) dX8_init_127 rfl (fun _ h => h.2.2.2.2) me_X5_init cn_X5_init_11 rfl (Nat.le_of_ble_eq_true rfl) (Nat.le_of_ble_eq_true rfl) ⟨Nat.le_of_ble_eq_true rfl, Nat.le_of_ble_eq_true rfl⟩ rfl ?_
  rintro _ _ ⟨rfl, rfl⟩
  refine z_aast (pc' := 131) (j := 3) (w' := (cw 39 29 18)) dX8_init_130 rfl rfl (by decide) rfl (by decide) rfl (cw_R rfl) ?_
  refine z_iinc (pc' := 134) (x := 3) (v := 4) (ls' := [some (.ref 0), some (.int (4 : Int32))]) dX8_init_131 rfl rfl (by decide) (by decide) rfl ?_
  refine z_goto (pc' := 112) dX8_init_134 (by decide) ?_
  refine z_iload_n (pc' := 113) (x := 4) dX8_init_112 rfl rfl ?_
  refine z_bipush (pc' := 115) (v := (6 : Int32)) dX8_init_113 rfl (by decide) ?_
  refine z_icmp_ge (pc' := 118) (tgt := 137) dX8_init_115 rfl (by decide) (fun c => absurd c (by decide)) (fun _ => ?_)
  refine z_aload_n (pc' := 119) (x := 0) dX8_init_118 rfl rfl ?_
  refine z_getr (pc' := 122) (x := 30) dX8_init_119 rfl fl_X8_66 rfl rfl (by decide +kernel) ?_
  refine z_iload_n (pc' := 123) (x := 4) dX8_init_122 rfl rfl ?_
  refine yy_new (pc' := 126) (k := 39) (ci := 5) (a' := 39) (b' := 6051) dX8_init_123 rfl (by decide) cl_X8_64 in_X5 ii_X5 rfl rfl (by decide) (by decide) rfl rfl (Nat.le_of_ble_eq_true rfl) (Nat.le_of_ble_eq_true rfl) ?_
  refine z_dup (pc' := 127) dX8_init_126 rfl rfl ?_
  refine z_callIN (pc' := 130) (y := yX5_init) (cd := cX5_init) (mL := 1) (As := []) (b := 39) dX8_init_127 rfl (fun _ h => h.2.2.2.2) me_X5_init cn_X5_init_12 rfl (Nat.le_of_ble_eq_true rfl) (Nat.le_of_ble_eq_true rfl) ⟨Nat.le_of_ble_eq_true rfl, Nat.le_of_ble_eq_true rfl⟩ rfl ?_
  rintro _ _ ⟨rfl, rfl⟩
  refine z_aast (pc' := 131) (j := 4) (w' := (cw 41 27 15)) dX8_init_130 rfl rfl (by decide) rfl (by decide) rfl (cw_R rfl) ?_
  refine z_iinc (pc' := 134) (x := 4) (v := 5) (ls' := [some (.ref 0), some (.int (5 : Int32))]) dX8_init_131 rfl rfl (by decide) (by decide) rfl ?_
  refine z_goto (pc' := 112) dX8_init_134 (by decide) ?_
  refine z_iload_n (pc' := 113) (x := 5) dX8_init_112 rfl rfl ?_
  refine z_bipush (pc' := 115) (v := (6 : Int32)) dX8_init_113 rfl (by decide) ?_
  refine z_icmp_ge (pc' := 118) (tgt := 137) dX8_init_115 rfl (by decide) (fun c => absurd c (by decide)) (fun _ => ?_)
  refine z_aload_n (pc' := 119) (x := 0) dX8_init_118 rfl rfl ?_
  refine z_getr (pc' := 122) (x := 30) dX8_init_119 rfl fl_X8_66 rfl rfl (by decide +kernel) ?_
  refine z_iload_n (pc' := 123) (x := 5) dX8_init_122 rfl rfl ?_
  refine yy_new (pc' := 126) (k := 41) (ci := 5) (a' := 41) (b' := 6115) dX8_init_123 rfl (by decide) cl_X8_64 in_X5 ii_X5 rfl rfl (by decide) (by decide) rfl rfl (Nat.le_of_ble_eq_true rfl) (Nat.le_of_ble_eq_true rfl) ?_
  refine z_dup (pc' := 127) dX8_init_126 rfl rfl ?_
  refine z_callIN (pc' := 130) (y := yX5_init) (cd := cX5_init) (mL := 1) (As := []) (b := 41) dX8_init_127 rfl (fun _ h => h.2.2.2.2) me_X5_init cn_X5_init_13 rfl (Nat.le_of_ble_eq_true rfl) (Nat.le_of_ble_eq_true rfl) ⟨Nat.le_of_ble_eq_true rfl, Nat.le_of_ble_eq_true rfl⟩ rfl ?_
  rintro _ _ ⟨rfl, rfl⟩
  refine z_aast (pc' := 131) (j := 5) (w' := (cw 43 25 12)) dX8_init_130 rfl rfl (by decide) rfl (by decide) rfl (cw_R rfl) ?_
  refine z_iinc (pc' := 134) (x := 5) (v := 6) (ls' := [some (.ref 0), some (.int (6 : Int32))]) dX8_init_131 rfl rfl (by decide) (by decide) rfl ?_
  refine z_goto (pc' := 112) dX8_init_134 (by decide) ?_
  refine z_iload_n (pc' := 113) (x := 6) dX8_init_112 rfl rfl ?_
  refine z_bipush (pc' := 115) (v := (6 : Int32)) dX8_init_113 rfl (by decide) ?_
  refine z_icmp_ge (pc' := 118) (tgt := 137) dX8_init_115 rfl (by decide) (fun _ => ?_) (fun c => absurd c (by decide))
  refine z_aload_n (pc' := 138) (x := 0) dX8_init_137 rfl rfl ?_
  refine z_iconst (pc' := 139) (v := (4 : Int32)) dX8_init_138 rfl (by decide) ?_
  refine yy_newi (pc' := 141) (k := 43) (N := 4) (a' := 43) (b' := 6179) dX8_init_139 rfl rfl (by decide) zac_int rfl rfl (by decide) (by decide) rfl rfl (Nat.le_of_ble_eq_true rfl) (Nat.le_of_ble_eq_true rfl) ?_
  refine z_putr (pc' := 144) (w' := (cw 44 24 12)) dX8_init_141 rfl fl_X8_71 rfl rfl rfl rfl rfl (cw_R rfl) ?_
  exact z_vret dX8_init_144 rfl ⟨Nat.le_of_ble_eq_true rfl, Nat.le_of_ble_eq_true rfl⟩ ⟨rfl, rfl⟩
theorem cn_X9_init_15 {l : Launch} {G : zG} : zCn l G 1 mX9_init 24 5398 [.ref 44] (cw 45 24 12) (fun r w => r = none ∧ w = (cw 69 0 0)) := by
  refine zCn.of (ls := [some (.ref 44), none]) (by decide) (Nat.le_of_ble_eq_true rfl) rfl ?_
  refine z_aload_n (pc' := 1) (x := 44) dX9_init_0 rfl rfl ?_
  refine z_oinit (pc' := 4) dX9_init_1 rfl ml_X9_3 zoi_m.1 zoi_m.2 (Nat.le_of_ble_eq_true rfl) (Nat.le_of_ble_eq_true rfl) ?_
  refine z_aload_n (pc' := 5) (x := 44) dX9_init_4 rfl rfl ?_
  refine z_bipush (pc' := 7) (v := (12 : Int32)) dX9_init_5 rfl (by decide) ?_
  refine yy_newi (pc' := 9) (k := 45) (N := 12) (a' := 1) (b' := 12) dX9_init_7 rfl rfl (by decide) zac_int rfl rfl (by decide) (by decide) rfl rfl (Nat.le_of_ble_eq_true rfl) (Nat.le_of_ble_eq_true rfl) ?_
  refine z_putr (pc' := 12) (w' := (cw 46 23 12)) dX9_init_9 rfl fl_X9_9 rfl rfl rfl rfl rfl (cw_R rfl) ?_
  refine z_aload_n (pc' := 13) (x := 44) dX9_init_12 rfl rfl ?_
  refine z_bipush (pc' := 15) (v := (40 : Int32)) dX9_init_13 rfl (by decide) ?_
  refine yy_newi (pc' := 17) (k := 46) (N := 40) (a' := 2) (b' := 52) dX9_init_15 rfl rfl (by decide) zac_int rfl rfl (by decide) (by decide) rfl rfl (Nat.le_of_ble_eq_true rfl) (Nat.le_of_ble_eq_true rfl) ?_
  refine z_putr (pc' := 20) (w' := (cw 47 22 12)) dX9_init_17 rfl fl_X9_13 rfl rfl rfl rfl rfl (cw_R rfl) ?_
  refine z_aload_n (pc' := 21) (x := 44) dX9_init_20 rfl rfl ?_
  refine z_bipush (pc' := 23) (v := (40 : Int32)) dX9_init_21 rfl (by decide) ?_
  refine yy_newi (pc' := 25) (k := 47) (N := 40) (a' := 3) (b' := 92) dX9_init_23 rfl rfl (by decide) zac_int rfl rfl (by decide) (by decide) rfl rfl (Nat.le_of_ble_eq_true rfl) (Nat.le_of_ble_eq_true rfl) ?_
  refine z_putr (pc' := 28) (w' := (cw 48 21 12)) dX9_init_25 rfl fl_X9_16 rfl rfl rfl rfl rfl (cw_R rfl) ?_
  refine z_aload_n (pc' := 29) (x := 44) dX9_init_28 rfl rfl ?_
  refine z_bipush (pc' := 31) (v := (40 : Int32)) dX9_init_29 rfl (by decide) ?_
  refine yy_newi (pc' := 33) (k := 48) (N := 40) (a' := 4) (b' := 132) dX9_init_31 rfl rfl (by decide) zac_int rfl rfl (by decide) (by decide) rfl rfl (Nat.le_of_ble_eq_true rfl) (Nat.le_of_ble_eq_true rfl) ?_
  refine z_putr (pc' := 36) (w' := (cw 49 20 12)) dX9_init_33 rfl fl_X9_19 rfl rfl rfl rfl rfl (cw_R rfl) ?_
  refine z_aload_n (pc' := 37) (x := 44) dX9_init_36 rfl rfl ?_
  refine z_iconst (pc' := 38) (v := (4 : Int32)) dX9_init_37 rfl (by decide) ?_
  refine yy_newi (pc' := 40) (k := 49) (N := 4) (a' := 5) (b' := 136) dX9_init_38 rfl rfl (by decide) zac_int rfl rfl (by decide) (by decide) rfl rfl (Nat.le_of_ble_eq_true rfl) (Nat.le_of_ble_eq_true rfl) ?_
  refine z_putr (pc' := 43) (w' := (cw 50 19 12)) dX9_init_40 rfl fl_X9_22 rfl rfl rfl rfl rfl (cw_R rfl) ?_
  refine z_aload_n (pc' := 44) (x := 44) dX9_init_43 rfl rfl ?_
  refine z_iconst (pc' := 45) (v := (4 : Int32)) dX9_init_44 rfl (by decide) ?_
  refine yy_newi (pc' := 47) (k := 50) (N := 4) (a' := 6) (b' := 140) dX9_init_45 rfl rfl (by decide) zac_int rfl rfl (by decide) (by decide) rfl rfl (Nat.le_of_ble_eq_true rfl) (Nat.le_of_ble_eq_true rfl) ?_
  refine z_putr (pc' := 50) (w' := (cw 51 18 12)) dX9_init_47 rfl fl_X9_25 rfl rfl rfl rfl rfl (cw_R rfl) ?_
  refine z_aload_n (pc' := 51) (x := 44) dX9_init_50 rfl rfl ?_
  refine z_iconst (pc' := 52) (v := (5 : Int32)) dX9_init_51 rfl (by decide) ?_
  refine yy_newi (pc' := 54) (k := 51) (N := 5) (a' := 7) (b' := 145) dX9_init_52 rfl rfl (by decide) zac_int rfl rfl (by decide) (by decide) rfl rfl (Nat.le_of_ble_eq_true rfl) (Nat.le_of_ble_eq_true rfl) ?_
  refine z_putr (pc' := 57) (w' := (cw 52 17 12)) dX9_init_54 rfl fl_X9_28 rfl rfl rfl rfl rfl (cw_R rfl) ?_
  refine z_aload_n (pc' := 58) (x := 44) dX9_init_57 rfl rfl ?_
  refine z_iconst (pc' := 59) (v := (4 : Int32)) dX9_init_58 rfl (by decide) ?_
  refine yy_newi (pc' := 61) (k := 52) (N := 4) (a' := 8) (b' := 149) dX9_init_59 rfl rfl (by decide) zac_int rfl rfl (by decide) (by decide) rfl rfl (Nat.le_of_ble_eq_true rfl) (Nat.le_of_ble_eq_true rfl) ?_
  refine z_putr (pc' := 64) (w' := (cw 53 16 12)) dX9_init_61 rfl fl_X9_31 rfl rfl rfl rfl rfl (cw_R rfl) ?_
  refine z_aload_n (pc' := 65) (x := 44) dX9_init_64 rfl rfl ?_
  refine z_bipush (pc' := 67) (v := (120 : Int32)) dX9_init_65 rfl (by decide) ?_
  refine yy_newi (pc' := 69) (k := 53) (N := 120) (a' := 9) (b' := 269) dX9_init_67 rfl rfl (by decide) zac_int rfl rfl (by decide) (by decide) rfl rfl (Nat.le_of_ble_eq_true rfl) (Nat.le_of_ble_eq_true rfl) ?_
  refine z_putr (pc' := 72) (w' := (cw 54 15 12)) dX9_init_69 rfl fl_X9_34 rfl rfl rfl rfl rfl (cw_R rfl) ?_
  refine z_aload_n (pc' := 73) (x := 44) dX9_init_72 rfl rfl ?_
  refine z_bipush (pc' := 75) (v := (120 : Int32)) dX9_init_73 rfl (by decide) ?_
  refine yy_newi (pc' := 77) (k := 54) (N := 120) (a' := 10) (b' := 389) dX9_init_75 rfl rfl (by decide) zac_int rfl rfl (by decide) (by decide) rfl rfl (Nat.le_of_ble_eq_true rfl) (Nat.le_of_ble_eq_true rfl) ?_
  refine z_putr (pc' := 80) (w' := (cw 55 14 12)) dX9_init_77 rfl fl_X9_37 rfl rfl rfl rfl rfl (cw_R rfl) ?_
  refine z_aload_n (pc' := 81) (x := 44) dX9_init_80 rfl rfl ?_
  refine z_iconst (pc' := 82) (v := (5 : Int32)) dX9_init_81 rfl (by decide) ?_
  refine yy_newi (pc' := 84) (k := 55) (N := 5) (a' := 11) (b' := 394) dX9_init_82 rfl rfl (by decide) zac_int rfl rfl (by decide) (by decide) rfl rfl (Nat.le_of_ble_eq_true rfl) (Nat.le_of_ble_eq_true rfl) ?_
  refine z_putr (pc' := 87) (w' := (cw 56 13 12)) dX9_init_84 rfl fl_X9_40 rfl rfl rfl rfl rfl (cw_R rfl) ?_
  refine z_aload_n (pc' := 88) (x := 44) dX9_init_87 rfl rfl ?_
  refine z_bipush (pc' := 90) (v := (10 : Int32)) dX9_init_88 rfl (by decide) ?_
  refine yy_newl (pc' := 92) (k := 56) (N := 10) (a' := 12) (b' := 404) dX9_init_90 rfl rfl (by decide) zac_long rfl rfl (by decide) (by decide) rfl rfl (Nat.le_of_ble_eq_true rfl) (Nat.le_of_ble_eq_true rfl) ?_
  refine z_putr (pc' := 95) (w' := (cw 57 12 12)) dX9_init_92 rfl fl_X9_43 rfl rfl rfl rfl rfl (cw_R rfl) ?_
  refine z_aload_n (pc' := 96) (x := 44) dX9_init_95 rfl rfl ?_
  refine z_sipush (pc' := 99) (v := (2560 : Int32)) dX9_init_96 rfl (by decide) ?_
  refine yy_newl (pc' := 101) (k := 57) (N := 2560) (a' := 13) (b' := 2964) dX9_init_99 rfl rfl (by decide) zac_long rfl rfl (by decide) (by decide) rfl rfl (Nat.le_of_ble_eq_true rfl) (Nat.le_of_ble_eq_true rfl) ?_
  refine z_putr (pc' := 104) (w' := (cw 58 11 12)) dX9_init_101 rfl fl_X9_47 rfl rfl rfl rfl rfl (cw_R rfl) ?_
  refine z_aload_n (pc' := 105) (x := 44) dX9_init_104 rfl rfl ?_
  refine z_sipush (pc' := 108) (v := (640 : Int32)) dX9_init_105 rfl (by decide) ?_
  refine yy_newi (pc' := 110) (k := 58) (N := 640) (a' := 14) (b' := 3604) dX9_init_108 rfl rfl (by decide) zac_int rfl rfl (by decide) (by decide) rfl rfl (Nat.le_of_ble_eq_true rfl) (Nat.le_of_ble_eq_true rfl) ?_
  refine z_putr (pc' := 113) (w' := (cw 59 10 12)) dX9_init_110 rfl fl_X9_50 rfl rfl rfl rfl rfl (cw_R rfl) ?_
  refine z_aload_n (pc' := 114) (x := 44) dX9_init_113 rfl rfl ?_
  refine z_sipush (pc' := 117) (v := (640 : Int32)) dX9_init_114 rfl (by decide) ?_
  refine yy_newi (pc' := 119) (k := 59) (N := 640) (a' := 15) (b' := 4244) dX9_init_117 rfl rfl (by decide) zac_int rfl rfl (by decide) (by decide) rfl rfl (Nat.le_of_ble_eq_true rfl) (Nat.le_of_ble_eq_true rfl) ?_
  refine z_putr (pc' := 122) (w' := (cw 60 9 12)) dX9_init_119 rfl fl_X9_53 rfl rfl rfl rfl rfl (cw_R rfl) ?_
  refine z_aload_n (pc' := 123) (x := 44) dX9_init_122 rfl rfl ?_
  refine z_iconst (pc' := 124) (v := (4 : Int32)) dX9_init_123 rfl (by decide) ?_
  refine yy_newl (pc' := 126) (k := 60) (N := 4) (a' := 16) (b' := 4248) dX9_init_124 rfl rfl (by decide) zac_long rfl rfl (by decide) (by decide) rfl rfl (Nat.le_of_ble_eq_true rfl) (Nat.le_of_ble_eq_true rfl) ?_
  refine z_putr (pc' := 129) (w' := (cw 61 8 12)) dX9_init_126 rfl fl_X9_56 rfl rfl rfl rfl rfl (cw_R rfl) ?_
  refine z_aload_n (pc' := 130) (x := 44) dX9_init_129 rfl rfl ?_
  refine z_sipush (pc' := 133) (v := (640 : Int32)) dX9_init_130 rfl (by decide) ?_
  refine yy_newl (pc' := 135) (k := 61) (N := 640) (a' := 17) (b' := 4888) dX9_init_133 rfl rfl (by decide) zac_long rfl rfl (by decide) (by decide) rfl rfl (Nat.le_of_ble_eq_true rfl) (Nat.le_of_ble_eq_true rfl) ?_
  refine z_putr (pc' := 138) (w' := (cw 62 7 12)) dX9_init_135 rfl fl_X9_59 rfl rfl rfl rfl rfl (cw_R rfl) ?_
  refine z_aload_n (pc' := 139) (x := 44) dX9_init_138 rfl rfl ?_
  refine z_iconst (pc' := 140) (v := (4 : Int32)) dX9_init_139 rfl (by decide) ?_
  refine yy_newi (pc' := 142) (k := 62) (N := 4) (a' := 18) (b' := 4892) dX9_init_140 rfl rfl (by decide) zac_int rfl rfl (by decide) (by decide) rfl rfl (Nat.le_of_ble_eq_true rfl) (Nat.le_of_ble_eq_true rfl) ?_
  refine z_putr (pc' := 145) (w' := (cw 63 6 12)) dX9_init_142 rfl fl_X9_62 rfl rfl rfl rfl rfl (cw_R rfl) ?_
  refine z_aload_n (pc' := 146) (x := 44) dX9_init_145 rfl rfl ?_
  refine z_bipush (pc' := 148) (v := (50 : Int32)) dX9_init_146 rfl (by decide) ?_
  refine yy_newi (pc' := 150) (k := 63) (N := 50) (a' := 19) (b' := 4942) dX9_init_148 rfl rfl (by decide) zac_int rfl rfl (by decide) (by decide) rfl rfl (Nat.le_of_ble_eq_true rfl) (Nat.le_of_ble_eq_true rfl) ?_
  refine z_putr (pc' := 153) (w' := (cw 64 5 12)) dX9_init_150 rfl fl_X9_65 rfl rfl rfl rfl rfl (cw_R rfl) ?_
  refine z_aload_n (pc' := 154) (x := 44) dX9_init_153 rfl rfl ?_
  refine z_bipush (pc' := 156) (v := (24 : Int32)) dX9_init_154 rfl (by decide) ?_
  refine yy_newi (pc' := 158) (k := 64) (N := 24) (a' := 20) (b' := 4966) dX9_init_156 rfl rfl (by decide) zac_int rfl rfl (by decide) (by decide) rfl rfl (Nat.le_of_ble_eq_true rfl) (Nat.le_of_ble_eq_true rfl) ?_
  refine z_putr (pc' := 161) (w' := (cw 65 4 12)) dX9_init_158 rfl fl_X9_68 rfl rfl rfl rfl rfl (cw_R rfl) ?_
  refine z_aload_n (pc' := 162) (x := 44) dX9_init_161 rfl rfl ?_
  refine z_bipush (pc' := 164) (v := (6 : Int32)) dX9_init_162 rfl (by decide) ?_
  refine yy_newi (pc' := 166) (k := 65) (N := 6) (a' := 21) (b' := 4972) dX9_init_164 rfl rfl (by decide) zac_int rfl rfl (by decide) (by decide) rfl rfl (Nat.le_of_ble_eq_true rfl) (Nat.le_of_ble_eq_true rfl) ?_
  refine z_putr (pc' := 169) (w' := (cw 66 3 12)) dX9_init_166 rfl fl_X9_71 rfl rfl rfl rfl rfl (cw_R rfl) ?_
  refine z_aload_n (pc' := 170) (x := 44) dX9_init_169 rfl rfl ?_
  refine z_bipush (pc' := 172) (v := (6 : Int32)) dX9_init_170 rfl (by decide) ?_
  refine yy_newi (pc' := 174) (k := 66) (N := 6) (a' := 22) (b' := 4978) dX9_init_172 rfl rfl (by decide) zac_int rfl rfl (by decide) (by decide) rfl rfl (Nat.le_of_ble_eq_true rfl) (Nat.le_of_ble_eq_true rfl) ?_
  refine z_putr (pc' := 177) (w' := (cw 67 2 12)) dX9_init_174 rfl fl_X9_74 rfl rfl rfl rfl rfl (cw_R rfl) ?_
  refine z_aload_n (pc' := 178) (x := 44) dX9_init_177 rfl rfl ?_
  refine z_sipush (pc' := 181) (v := (360 : Int32)) dX9_init_178 rfl (by decide) ?_
  refine yy_newl (pc' := 183) (k := 67) (N := 360) (a' := 23) (b' := 5338) dX9_init_181 rfl rfl (by decide) zac_long rfl rfl (by decide) (by decide) rfl rfl (Nat.le_of_ble_eq_true rfl) (Nat.le_of_ble_eq_true rfl) ?_
  refine z_putr (pc' := 186) (w' := (cw 68 1 12)) dX9_init_183 rfl fl_X9_77 rfl rfl rfl rfl rfl (cw_R rfl) ?_
  refine z_aload_n (pc' := 187) (x := 44) dX9_init_186 rfl rfl ?_
  refine z_bipush (pc' := 189) (v := (60 : Int32)) dX9_init_187 rfl (by decide) ?_
  refine yy_newl (pc' := 191) (k := 68) (N := 60) (a' := 24) (b' := 5398) dX9_init_189 rfl rfl (by decide) zac_long rfl rfl (by decide) (by decide) rfl rfl (Nat.le_of_ble_eq_true rfl) (Nat.le_of_ble_eq_true rfl) ?_
  refine z_putr (pc' := 194) (w' := (cw 69 0 12)) dX9_init_191 rfl fl_X9_80 rfl rfl rfl rfl rfl (cw_R rfl) ?_
  refine z_iconst (pc' := 195) (v := (0 : Int32)) dX9_init_194 rfl (by decide) ?_
  refine z_istore_n (pc' := 196) (ls' := [some (.ref 44), some (.int (0 : Int32))]) dX9_init_195 rfl (by decide) rfl ?_
  refine z_iload_n (pc' := 197) (x := 0) dX9_init_196 rfl rfl ?_
  refine z_bipush (pc' := 199) (v := (6 : Int32)) dX9_init_197 rfl (by decide) ?_
  refine z_icmp_ge (pc' := 202) (tgt := 215) dX9_init_199 rfl (by decide) (fun c => absurd c (by decide)) (fun _ => ?_)
  refine z_aload_n (pc' := 203) (x := 44) dX9_init_202 rfl rfl ?_
  refine z_getr (pc' := 206) (x := 65) dX9_init_203 rfl fl_X9_71 rfl rfl (by decide +kernel) ?_
  refine z_iload_n (pc' := 207) (x := 0) dX9_init_206 rfl rfl ?_
  refine z_iconst (pc' := 208) (v := (-1 : Int32)) dX9_init_207 rfl (by decide) ?_
  refine z_iast (pc' := 209) (j := 0) (w' := (cw 69 0 11)) dX9_init_208 rfl rfl (by decide) rfl (by decide) (cw_I rfl) ?_
  refine z_iinc (pc' := 212) (x := 0) (v := 1) (ls' := [some (.ref 44), some (.int (1 : Int32))]) dX9_init_209 rfl rfl (by decide) (by decide) rfl ?_
  refine z_goto (pc' := 196) dX9_init_212 (by decide) ?_
  refine z_iload_n (pc' := 197) (x := 1) dX9_init_196 rfl rfl ?_
  refine z_bipush (pc' := 199) (v := (6 : Int32)) dX9_init_197 rfl (by decide) ?_
  refine z_icmp_ge (pc' := 202) (tgt := 215) dX9_init_199 rfl (by decide) (fun c => absurd c (by decide)) (fun _ => ?_)
  refine z_aload_n (pc' := 203) (x := 44) dX9_init_202 rfl rfl ?_
  refine z_getr (pc' := 206) (x := 65) dX9_init_203 rfl fl_X9_71 rfl rfl (by decide +kernel) ?_
  refine z_iload_n (pc' := 207) (x := 1) dX9_init_206 rfl rfl ?_
  refine z_iconst (pc' := 208) (v := (-1 : Int32)) dX9_init_207 rfl (by decide) ?_
  refine z_iast (pc' := 209) (j := 1) (w' := (cw 69 0 10)) dX9_init_208 rfl rfl (by decide) rfl (by decide) (cw_I rfl) ?_
  refine z_iinc (pc' := 212) (x := 1) (v := 2) (ls' := [some (.ref 44), some (.int (2 : Int32))]) dX9_init_209 rfl rfl (by decide) (by decide) rfl ?_
  refine z_goto (pc' := 196) dX9_init_212 (by decide) ?_
  refine z_iload_n (pc' := 197) (x := 2) dX9_init_196 rfl rfl ?_
  refine z_bipush (pc' := 199) (v := (6 : Int32)) dX9_init_197 rfl (by decide) ?_
  refine z_icmp_ge (pc' := 202) (tgt := 215) dX9_init_199 rfl (by decide) (fun c => absurd c (by decide)) (fun _ => ?_)
  refine z_aload_n (pc' := 203) (x := 44) dX9_init_202 rfl rfl ?_
  refine z_getr (pc' := 206) (x := 65) dX9_init_203 rfl fl_X9_71 rfl rfl (by decide +kernel) ?_
  refine z_iload_n (pc' := 207) (x := 2) dX9_init_206 rfl rfl ?_
  refine z_iconst (pc' := 208) (v := (-1 : Int32)) dX9_init_207 rfl (by decide) ?_
  refine z_iast (pc' := 209) (j := 2) (w' := (cw 69 0 9)) dX9_init_208 rfl rfl (by decide) rfl (by decide) (cw_I rfl) ?_
  refine z_iinc (pc' := 212) (x := 2) (v := 3) (ls' := [some (.ref 44), some (.int (3 : Int32))]) dX9_init_209 rfl rfl (by decide) (by decide) rfl ?_
  refine z_goto (pc' := 196) dX9_init_212 (by decide) ?_
  refine z_iload_n (pc' := 197) (x := 3) dX9_init_196 rfl rfl ?_
  refine z_bipush (pc' := 199) (v := (6 : Int32)) dX9_init_197 rfl (by decide) ?_
  refine z_icmp_ge (pc' := 202) (tgt := 215) dX9_init_199 rfl (by decide) (fun c => absurd c (by decide)) (fun _ => ?_)
  refine z_aload_n (pc' := 203) (x := 44) dX9_init_202 rfl rfl ?_
  refine z_getr (pc' := 206) (x := 65) dX9_init_203 rfl fl_X9_71 rfl rfl (by decide +kernel) ?_
  refine z_iload_n (pc' := 207) (x := 3) dX9_init_206 rfl rfl ?_
  refine z_iconst (pc' := 208) (v := (-1 : Int32)) dX9_init_207 rfl (by decide) ?_
  refine z_iast (pc' := 209) (j := 3) (w' := (cw 69 0 8)) dX9_init_208 rfl rfl (by decide) rfl (by decide) (cw_I rfl) ?_
  refine z_iinc (pc' := 212) (x := 3) (v := 4) (ls' := [some (.ref 44), some (.int (4 : Int32))]) dX9_init_209 rfl rfl (by decide) (by decide) rfl ?_
  refine z_goto (pc' := 196) dX9_init_212 (by decide) ?_
  refine z_iload_n (pc' := 197) (x := 4) dX9_init_196 rfl rfl ?_
  refine z_bipush (pc' := 199) (v := (6 : Int32)) dX9_init_197 rfl (by decide) ?_
  refine z_icmp_ge (pc' := 202) (tgt := 215) dX9_init_199 rfl (by decide) (fun c => absurd c (by decide)) (fun _ => ?_)
  refine z_aload_n (pc' := 203) (x := 44) dX9_init_202 rfl rfl ?_
  refine z_getr (pc' := 206) (x := 65) dX9_init_203 rfl fl_X9_71 rfl rfl (by decide +kernel) ?_
  refine z_iload_n (pc' := 207) (x := 4) dX9_init_206 rfl rfl ?_
  refine z_iconst (pc' := 208) (v := (-1 : Int32)) dX9_init_207 rfl (by decide) ?_
  refine z_iast (pc' := 209) (j := 4) (w' := (cw 69 0 7)) dX9_init_208 rfl rfl (by decide) rfl (by decide) (cw_I rfl) ?_
  refine z_iinc (pc' := 212) (x := 4) (v := 5) (ls' := [some (.ref 44), some (.int (5 : Int32))]) dX9_init_209 rfl rfl (by decide) (by decide) rfl ?_
  refine z_goto (pc' := 196) dX9_init_212 (by decide) ?_
  refine z_iload_n (pc' := 197) (x := 5) dX9_init_196 rfl rfl ?_
  refine z_bipush (pc' := 199) (v := (6 : Int32)) dX9_init_197 rfl (by decide) ?_
  refine z_icmp_ge (pc' := 202) (tgt := 215) dX9_init_199 rfl (by decide) (fun c => absurd c (by decide)) (fun _ => ?_)
  refine z_aload_n (pc' := 203) (x := 44) dX9_init_202 rfl rfl ?_
  refine z_getr (pc' := 206) (x := 65) dX9_init_203 rfl fl_X9_71 rfl rfl (by decide +kernel) ?_
  refine z_iload_n (pc' := 207) (x := 5) dX9_init_206 rfl rfl ?_
  refine z_iconst (pc' := 208) (v := (-1 : Int32)) dX9_init_207 rfl (by decide) ?_
  refine z_iast (pc' := 209) (j := 5) (w' := (cw 69 0 6)) dX9_init_208 rfl rfl (by decide) rfl (by decide) (cw_I rfl) ?_
  refine z_iinc (pc' := 212) (x := 5) (v := 6) (ls' := [some (.ref 44), some (.int (6 : Int32))]) dX9_init_209 rfl rfl (by decide) (by decide) rfl ?_
  refine z_goto (pc' := 196) dX9_init_212 (by decide) ?_
  refine z_iload_n (pc' := 197) (x := 6) dX9_init_196 rfl rfl ?_
  refine z_bipush (pc' := 199) (v := (6 : Int32)) dX9_init_197 rfl (by decide) ?_
  refine z_icmp_ge (pc' := 202) (tgt := 215) dX9_init_199 rfl (by decide) (fun _ => ?_) (fun c => absurd c (by decide))
  refine z_aload_n (pc' := 216) (x := 44) dX9_init_215 rfl rfl ?_
  refine z_iconst (pc' := 217) (v := (-1 : Int32)) dX9_init_216 rfl (by decide) ?_
  refine z_puti (pc' := 220) (w' := (cw 69 0 5)) dX9_init_217 rfl fl_X9_83 rfl rfl rfl rfl rfl (cw_I rfl) ?_
  refine z_aload_n (pc' := 221) (x := 44) dX9_init_220 rfl rfl ?_
  refine z_bipush (pc' := 223) (v := (6 : Int32)) dX9_init_221 rfl (by decide) ?_
  refine z_puti (pc' := 226) (w' := (cw 69 0 4)) dX9_init_223 rfl fl_X9_87 rfl rfl rfl rfl rfl (cw_I rfl) ?_
  refine z_aload_n (pc' := 227) (x := 44) dX9_init_226 rfl rfl ?_
  refine z_getr (pc' := 230) (x := 51) dX9_init_227 rfl fl_X9_28 rfl rfl (by decide +kernel) ?_
  refine z_iconst (pc' := 231) (v := (1 : Int32)) dX9_init_230 rfl (by decide) ?_
  refine z_bipush (pc' := 233) (v := (9 : Int32)) dX9_init_231 rfl (by decide) ?_
  refine z_iast (pc' := 234) (j := 1) (w' := (cw 69 0 3)) dX9_init_233 rfl rfl (by decide) rfl (by decide) (cw_I rfl) ?_
  refine z_aload_n (pc' := 235) (x := 44) dX9_init_234 rfl rfl ?_
  refine z_getr (pc' := 238) (x := 51) dX9_init_235 rfl fl_X9_28 rfl rfl (by decide +kernel) ?_
  refine z_iconst (pc' := 239) (v := (2 : Int32)) dX9_init_238 rfl (by decide) ?_
  refine z_iconst (pc' := 240) (v := (4 : Int32)) dX9_init_239 rfl (by decide) ?_
  refine z_iast (pc' := 241) (j := 2) (w' := (cw 69 0 2)) dX9_init_240 rfl rfl (by decide) rfl (by decide) (cw_I rfl) ?_
  refine z_aload_n (pc' := 242) (x := 44) dX9_init_241 rfl rfl ?_
  refine z_getr (pc' := 245) (x := 51) dX9_init_242 rfl fl_X9_28 rfl rfl (by decide +kernel) ?_
  refine z_iconst (pc' := 246) (v := (3 : Int32)) dX9_init_245 rfl (by decide) ?_
  refine z_iconst (pc' := 247) (v := (2 : Int32)) dX9_init_246 rfl (by decide) ?_
  refine z_iast (pc' := 248) (j := 3) (w' := (cw 69 0 1)) dX9_init_247 rfl rfl (by decide) rfl (by decide) (cw_I rfl) ?_
  refine z_aload_n (pc' := 249) (x := 44) dX9_init_248 rfl rfl ?_
  refine z_getr (pc' := 252) (x := 51) dX9_init_249 rfl fl_X9_28 rfl rfl (by decide +kernel) ?_
  refine z_iconst (pc' := 253) (v := (4 : Int32)) dX9_init_252 rfl (by decide) ?_
  refine z_iconst (pc' := 254) (v := (1 : Int32)) dX9_init_253 rfl (by decide) ?_
  refine z_iast (pc' := 255) (j := 4) (w' := (cw 69 0 0)) dX9_init_254 rfl rfl (by decide) rfl (by decide) (cw_I rfl) ?_
  exact z_vret dX9_init_255 rfl ⟨Nat.le_of_ble_eq_true rfl, Nat.le_of_ble_eq_true rfl⟩ ⟨rfl, rfl⟩
