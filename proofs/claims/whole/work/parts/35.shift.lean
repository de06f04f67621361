/-! ===== public call: shift ===== -/
theorem i_nat {x : Int32} (h : ¬ x < 0) : ∃ k, k < 2 ^ 31 ∧ x = nI k := by
  have a : (0 : Int) ≤ x.toInt := by
    have := Int32.not_lt.mp h
    simpa using Int32.le_iff_toInt_le.mp this
  have b := Int32.toInt_lt x
  refine ⟨x.toInt.toNat, by omega, ?_⟩
  apply Int32.toInt_inj.mp
  rw [nI_toInt (by omega)]
  omega
theorem i_sub {n m : Nat} (hn : n < 2 ^ 31) (hm : m < 2 ^ 31) : (nI n - nI m).toInt = (n : Int) - m := by
  rw [Int32.toInt_sub, nI_toInt hn, nI_toInt hm]
  apply Int.bmod_eq_of_le <;> omega
/-- the places lie outside one of the ROWS -/
def bSh (n1 n2 : Nat) (x2 x4 x5 : Int32) : Prop := x5 < 0 ∨ x2 < 0 ∨ x4 < 0 ∨ nI n1 - x5 < x2 ∨ ¬ x4 ≤ nI n2 - x5
theorem bSh_no {n1 n2 : Nat} {x2 x4 x5 : Int32} (h1 : n1 ≤ 60) (h2 : n2 ≤ 60) (h : ¬ bSh n1 n2 x2 x4 x5) : ∃ a b m, x2 = nI a ∧ x4 = nI b ∧ x5 = nI m ∧ a + m ≤ n1 ∧ b + m ≤ n2 := by
  obtain ⟨m, hm, rfl⟩ := i_nat (x := x5) (fun z => h (Or.inl z))
  obtain ⟨a, ha, rfl⟩ := i_nat (x := x2) (fun z => h (Or.inr (Or.inl z)))
  obtain ⟨b, hb, rfl⟩ := i_nat (x := x4) (fun z => h (Or.inr (Or.inr (Or.inl z))))
  have c1 : ¬ nI n1 - nI m < nI a := fun z => h (Or.inr (Or.inr (Or.inr (Or.inl z))))
  have c2 : nI b ≤ nI n2 - nI m := Decidable.byContradiction fun z => h (Or.inr (Or.inr (Or.inr (Or.inr z))))
  rw [Int32.lt_iff_toInt_lt, i_sub (by omega) hm, nI_toInt ha] at c1
  rw [Int32.le_iff_toInt_le, i_sub (by omega) hm, nI_toInt hb] at c2
  exact ⟨a, b, m, rfl, rfl, rfl, by omega, by omega⟩
section PS
variable {l : Launch} {G : zG}
/-- the class: behind the numbers of the SHELVES -/
theorem cShift8 {d q1 q2 : Nat} {I : zIM} {L : zLM} {P : Int32 → zIM → zLM → Prop} {x2 x4 x5 : Int32} (h1 : q1 < 6) (h2 : q2 < 6) (hd : 1 ≤ d)
    (c1 : I (31 + 2 * q1) 0 = -2 ∨ I (31 + 2 * q2) 0 = -2 → P (-11) I L)
    (c2 : ¬ I (31 + 2 * q1) 0 = -2 → ¬ I (31 + 2 * q2) 0 = -2 → (¬ I (31 + 2 * q1) 0 = I (31 + 2 * q2) 0 ∨ I (31 + 2 * q1) 0 = -1) → P (-12) I L)
    (c3 : ¬ I (31 + 2 * q1) 0 = -2 → I (31 + 2 * q1) 0 = I (31 + 2 * q2) 0 → ¬ I (31 + 2 * q1) 0 = -1 → ∃ n1 n2, n1 ≤ 60 ∧ n2 ≤ 60 ∧ I (31 + 2 * q1) 2 = nI n1 ∧ I (31 + 2 * q2) 2 = nI n2 ∧ (bSh n1 n2 x2 x4 x5 → P (-13) I L) ∧ (¬ bSh n1 n2 x2 x4 x5 → ∀ a b m, x2 = nI a → x4 = nI b → x5 = nI m → a + m ≤ n1 → b + m ≤ n2 → P x5 I (xcL L (32 + 2 * q1) (32 + 2 * q2) a b m))) :
    zCi l G d mX8_shift [.ref 0, .int (nI q1), .int x2, .int (nI q2), .int x4, .int x5] I L P := by
  have one : ¬ (1 : Int32) = 0 := by decide
  refine t_X8_shift hd ⟨0, _, hd, cWithin8 (nI q1) 5 (by omega), ?_⟩
  rintro y _ _ ⟨hy, rfl, rfl⟩
  obtain rfl := zB_t hy ⟨q1, Nat.zero_le _, by omega, rfl⟩
  refine ⟨fun c => absurd c one, fun _ => ⟨0, _, hd, cWithin8 (nI q2) 5 (by omega), ?_⟩⟩
  rintro y _ _ ⟨hy, rfl, rfl⟩
  obtain rfl := zB_t hy ⟨q2, Nat.zero_le _, by omega, rfl⟩
  refine ⟨fun _ => ⟨q1, rfl, h1, q2, rfl, h2, fun z => t_X8_shift_54 (c1 (Or.inl z)), fun z1 => ⟨fun z2 => ⟨fun z3 => t_X8_shift_79 (c2 z1 z2 (Or.inl z3)), fun z3 => ⟨fun z4 => ?_, fun z4 => t_X8_shift_79 (c2 z1 z2 (Or.inr z4))⟩⟩, fun z2 => t_X8_shift_54 (c1 (Or.inr z2))⟩⟩, fun c => absurd c one⟩
  obtain ⟨n1, n2, k1, k2, e1, e2, f1, f2⟩ := c3 z1 z3 z4
  rw [e1, e2]
  refine ⟨fun b => t_X8_shift_121 (f1 (Or.inl b)), fun b1 => ⟨fun b => t_X8_shift_121 (f1 (Or.inr (Or.inl b))), fun b2 => ⟨fun b => t_X8_shift_121 (f1 (Or.inr (Or.inr (Or.inl b)))), fun b3 => ⟨fun b => t_X8_shift_121 (f1 (Or.inr (Or.inr (Or.inr (Or.inl b))))), fun b4 => ⟨fun b5 => ?_, fun b => t_X8_shift_121 (f1 (Or.inr (Or.inr (Or.inr (Or.inr b)))))⟩⟩⟩⟩⟩
  have nb : ¬ bSh n1 n2 x2 x4 x5 := by
    rintro (z | z | z | z | z)
    · exact b1 z
    · exact b2 z
    · exact b3 z
    · exact b4 z
    · exact z b5
  obtain ⟨a, b, m, ra, rb, rm, ka, kb⟩ := bSh_no k1 k2 nb
  exact ⟨a, ra, b, rb, m, rm, by omega, by omega, f2 nb a b m ra rb rm ka kb⟩
/-- the reference: back from the carried row -/
theorem cShift9_150 {d q b m : Nat} {I : zIM} {P : Int32 → zIM → zLM → Prop} {L0 : zLM} (hq : q < 6) (hbm : b + m ≤ 60) (hP : ∀ L', (∀ i, i < m → L' 67 (60 * q + b + i) = L0 68 i) → (∀ x z, ¬ (x = 67 ∧ 60 * q + b ≤ z ∧ z < 60 * q + b + m) → L' x z = L0 x z) → P (nI m) I L') : ∀ f i (L : zLM), f + i = m → (∀ j, j < i → L 67 (60 * q + b + j) = L0 68 j) → (∀ x z, ¬ (x = 67 ∧ 60 * q + b ≤ z ∧ z < 60 * q + b + i) → L x z = L0 x z) → K_X9_shift_150 l G d P I L (nI q) (nI b) (nI m) (nI i)
  | 0, i, L, hi, a1, a2 => by
    obtain rfl : i = m := by omega
    exact t_X9_shift_150 ⟨fun _ => hP L a1 a2, fun c => absurd (nI_le (Nat.le_refl _) (by omega)) c⟩
  | f + 1, i, L, hi, a1, a2 => by
    refine t_X9_shift_150 ⟨fun c => absurd c (nI_ge (by omega) (by omega)), fun _ => ⟨i, rfl, by omega, 60 * q + b + i, ?_, by omega, ?_⟩⟩
    · rw [show (60 : Int32) * nI q = nI (60 * q) from nI_mul 60 q, nI_add, nI_add]
    · rw [nI_1]
      refine cShift9_150 hq hbm hP f (i + 1) _ (by omega) (fun j hj => ?_) (fun x z h => ?_)
      · by_cases hji : j = i
        · subst hji
          rw [xL_eq]
          exact a2 68 j (by omega)
        · rw [xL_ne (by omega)]; exact a1 j (by omega)
      · rw [xL_ne (by omega)]; exact a2 x z (by omega)
/-- the reference: into the carried row -/
theorem cShift9_113 {d q1 q2 a b m : Nat} {I : zIM} {P : Int32 → zIM → zLM → Prop} {L0 : zLM} (h1 : q1 < 6) (hq : q2 < 6) (ham : a + m ≤ 60) (hbm : b + m ≤ 60) (hP : ∀ L', (∀ i, i < m → L' 67 (60 * q2 + b + i) = L0 67 (60 * q1 + a + i)) → (∀ x z, x ≠ 68 → ¬ (x = 67 ∧ 60 * q2 + b ≤ z ∧ z < 60 * q2 + b + m) → L' x z = L0 x z) → P (nI m) I L') : ∀ f i (L : zLM), f + i = m → (∀ j, j < i → L 68 j = L0 67 (60 * q1 + a + j)) → (∀ x z, x ≠ 68 → L x z = L0 x z) → K_X9_shift_113 l G d P I L (nI q1) (nI a) (nI q2) (nI b) (nI m) (nI i)
  | 0, i, L, hi, a1, a2 => by
    obtain rfl : i = m := by omega
    refine t_X9_shift_113 ⟨fun _ => ?_, fun c => absurd (nI_le (Nat.le_refl _) (by omega)) c⟩
    refine cShift9_150 hq hbm (fun L' g1 g2 => hP L' (fun j hj => (g1 j hj).trans (a1 j hj)) (fun x z h68 h => (g2 x z h).trans (a2 x z h68))) i 0 L (by omega) (fun j hj => absurd hj (Nat.not_lt_zero _)) (fun _ _ _ => rfl)
  | f + 1, i, L, hi, a1, a2 => by
    refine t_X9_shift_113 ⟨fun c => absurd c (nI_ge (by omega) (by omega)), fun _ => ⟨60 * q1 + a + i, ?_, by omega, i, rfl, by omega, ?_⟩⟩
    · rw [show (60 : Int32) * nI q1 = nI (60 * q1) from nI_mul 60 q1, nI_add, nI_add]
    · rw [nI_1]
      refine cShift9_113 h1 hq ham hbm hP f (i + 1) _ (by omega) (fun j hj => ?_) (fun x z h => ?_)
      · by_cases hji : j = i
        · subst hji
          rw [xL_eq]
          exact a2 67 _ (by omega)
        · rw [xL_ne (by omega)]; exact a1 j (by omega)
      · rw [xL_ne (by omega)]; exact a2 x z h
/-- the reference: behind the numbers of the SHELVES -/
theorem cShift9 {d q1 q2 : Nat} {I : zIM} {L : zLM} {P : Int32 → zIM → zLM → Prop} {x2 x4 x5 : Int32} (h1 : q1 < 6) (h2 : q2 < 6) (hd : 2 ≤ d)
    (c1 : I 65 q1 < 0 ∨ ¬ 0 ≤ I 65 q2 → P (-11) I L)
    (c2 : ¬ I 65 q1 < 0 → 0 ≤ I 65 q2 → (I 65 q1 < 50 ∨ ¬ I 65 q1 = I 65 q2) → P (-12) I L)
    (c3 : ¬ I 65 q1 < 50 → I 65 q1 = I 65 q2 → ∃ n1 n2, n1 ≤ 60 ∧ n2 ≤ 60 ∧ I 66 q1 = nI n1 ∧ I 66 q2 = nI n2 ∧ (bSh n1 n2 x2 x4 x5 → P (-13) I L) ∧ (¬ bSh n1 n2 x2 x4 x5 → ∀ a b m, x2 = nI a → x4 = nI b → x5 = nI m → a + m ≤ n1 → b + m ≤ n2 → ∀ L', (∀ i, i < m → L' 67 (60 * q2 + b + i) = L 67 (60 * q1 + a + i)) → (∀ x z, x ≠ 68 → ¬ (x = 67 ∧ 60 * q2 + b ≤ z ∧ z < 60 * q2 + b + m) → L' x z = L x z) → P (nI m) I L')) :
    zCi l G d mX9_shift [.ref 44, .int (nI q1), .int x2, .int (nI q2), .int x4, .int x5] I L P := by
  have one : ¬ (1 : Int32) = 0 := by decide
  refine t_X9_shift ⟨1, _, hd, cIsShelf9 (nI q1) (Nat.le_refl 1), ?_⟩
  rintro y _ _ ⟨hy, rfl, rfl⟩
  obtain rfl := zB_t hy ⟨q1, Nat.zero_le _, by omega, rfl⟩
  refine ⟨fun c => absurd c one, fun _ => ⟨1, _, hd, cIsShelf9 (nI q2) (Nat.le_refl 1), ?_⟩⟩
  rintro y _ _ ⟨hy, rfl, rfl⟩
  obtain rfl := zB_t hy ⟨q2, Nat.zero_le _, by omega, rfl⟩
  refine ⟨fun _ => ⟨q1, rfl, h1, fun z => t_X9_shift_34 (c1 (Or.inl z)), fun z1 => ⟨q2, rfl, h2, fun z2 => ⟨fun z3 => t_X9_shift_63 (c2 z1 z2 (Or.inl z3)), fun z3 => ⟨fun z4 => ?_, fun z4 => t_X9_shift_63 (c2 z1 z2 (Or.inr z4))⟩⟩, fun z2 => t_X9_shift_34 (c1 (Or.inr z2))⟩⟩, fun c => absurd c one⟩
  obtain ⟨n1, n2, k1, k2, e1, e2, f1, f2⟩ := c3 z3 z4
  rw [e1, e2]
  refine ⟨fun b => t_X9_shift_107 (f1 (Or.inl b)), fun b1 => ⟨fun b => t_X9_shift_107 (f1 (Or.inr (Or.inl b))), fun b2 => ⟨fun b => t_X9_shift_107 (f1 (Or.inr (Or.inr (Or.inl b)))), fun b3 => ⟨fun b => t_X9_shift_107 (f1 (Or.inr (Or.inr (Or.inr (Or.inl b))))), fun b4 => ⟨fun b5 => ?_, fun b => t_X9_shift_107 (f1 (Or.inr (Or.inr (Or.inr (Or.inr b)))))⟩⟩⟩⟩⟩
  have nb : ¬ bSh n1 n2 x2 x4 x5 := by
    rintro (z | z | z | z | z)
    · exact b1 z
    · exact b2 z
    · exact b3 z
    · exact b4 z
    · exact z b5
  obtain ⟨a, b, m, ra, rb, rm, ka, kb⟩ := bSh_no k1 k2 nb
  rw [ra, rb, rm]
  exact cShift9_113 h1 h2 (by omega) (by omega) (fun L' g1 g2 => f2 nb a b m ra rb rm ka kb L' g1 g2) m 0 L (by omega) (fun j hj => absurd hj (Nat.not_lt_zero _)) (fun _ _ _ => rfl)
theorem cShift8_no {d : Nat} {I : zIM} {L : zLM} {x1 x2 x3 x4 x5 : Int32} (hd : 1 ≤ d) (h : ¬ (iN x1 0 5 ∧ iN x3 0 5)) : zCi l G d mX8_shift [.ref 0, .int x1, .int x2, .int x3, .int x4, .int x5] I L (zE (-1) I L) := by
  have one : ¬ (1 : Int32) = 0 := by decide
  refine t_X8_shift hd ⟨0, _, hd, cWithin8 x1 5 (by omega), ?_⟩
  rintro y _ _ ⟨hy, rfl, rfl⟩
  by_cases h1 : iN x1 0 5
  · obtain rfl := zB_t hy h1
    refine ⟨fun c => absurd c one, fun _ => ⟨0, _, hd, cWithin8 x3 5 (by omega), ?_⟩⟩
    rintro y _ _ ⟨hy, rfl, rfl⟩
    obtain rfl := zB_f hy (fun z => h ⟨h1, z⟩)
    exact ⟨fun c => absurd rfl c, fun _ => t_X8_shift_16 (zE.of rfl)⟩
  · obtain rfl := zB_f hy h1
    exact ⟨fun _ => t_X8_shift_16 (zE.of rfl), fun c => absurd rfl c⟩
theorem cShift9_no {d : Nat} {I : zIM} {L : zLM} {P : Int32 → zIM → zLM → Prop} {x1 x2 x3 x4 x5 : Int32} (hd : 2 ≤ d) (h : ¬ (iN x1 0 5 ∧ iN x3 0 5)) (hP : P (-1) I L) : zCi l G d mX9_shift [.ref 44, .int x1, .int x2, .int x3, .int x4, .int x5] I L P := by
  have one : ¬ (1 : Int32) = 0 := by decide
  refine t_X9_shift ⟨1, _, hd, cIsShelf9 x1 (Nat.le_refl 1), ?_⟩
  rintro y _ _ ⟨hy, rfl, rfl⟩
  by_cases h1 : iN x1 0 5
  · obtain rfl := zB_t hy h1
    refine ⟨fun c => absurd c one, fun _ => ⟨1, _, hd, cIsShelf9 x3 (Nat.le_refl 1), ?_⟩⟩
    rintro y _ _ ⟨hy, rfl, rfl⟩
    obtain rfl := zB_f hy (fun z => h ⟨h1, z⟩)
    exact ⟨fun c => absurd rfl c, fun _ => t_X9_shift_14 hP⟩
  · obtain rfl := zB_f hy h1
    exact ⟨fun _ => t_X9_shift_14 hP, fun c => absurd rfl c⟩
end PS
theorem xcL_in {L : zLM} {q0 q1 sp dp n b : Nat} (h1 : dp ≤ b) (h2 : b < dp + n) : xcL L q0 q1 sp dp n q1 b = L q0 (sp + (b - dp)) := if_pos ⟨rfl, h1, h2⟩
theorem xcL_ne {L : zLM} {q0 q1 sp dp n a b : Nat} (h : ¬ (a = q1 ∧ (dp ≤ b ∧ b < dp + n))) : xcL L q0 q1 sp dp n a b = L a b := if_neg h
/-- m elements go over, on both sides -/
theorem rSh_go {nb q1 q2 s n1 n2 a b m : Nat} {I : zIM} {L L' : zLM} (h2 : q2 < 6) (hSh : rSh nb I L) (r1 : rRow q1 s n1 I L) (r2 : rRow q2 s n2 I L) (ka : a + m ≤ n1) (kb : b + m ≤ n2)
    (g1 : ∀ i, i < m → L' 67 (60 * q2 + b + i) = xcL L (32 + 2 * q1) (32 + 2 * q2) a b m 67 (60 * q1 + a + i)) (g2 : ∀ x z, x ≠ 68 → ¬ (x = 67 ∧ 60 * q2 + b ≤ z ∧ z < 60 * q2 + b + m) → L' x z = xcL L (32 + 2 * q1) (32 + 2 * q2) a b m x z) : rSh nb I L' := by
  intro d hd
  by_cases e : d = q2
  · subst e
    obtain ⟨a1, a2, a3, a4, a5, a6, a7⟩ := r2
    refine Or.inr (Or.inr ⟨s, n2, a1, a2, a3, a4, a5, a6, fun i hi => ?_⟩)
    rw [g2 (32 + 2 * d) i (by omega) (by omega)]
    by_cases c : b ≤ i ∧ i < b + m
    · have g := g1 (i - b) (by omega)
      rw [show 60 * d + b + (i - b) = 60 * d + i by omega, xcL_ne (by omega)] at g
      rw [g, xcL_in c.1 c.2, r1.2.2.2.2.2.2 _ (by omega), Nat.add_assoc]
    · rw [g2 67 _ (by omega) (by omega), xcL_ne (by omega), xcL_ne (by omega)]
      exact a7 i hi
  · rcases hSh d hd with ⟨a, b⟩ | ⟨b, a1, a2, a3, a4⟩ | ⟨s, n, a1, a2, a3, a4, a5, a6, a7⟩
    · exact Or.inl ⟨a, b⟩
    · exact Or.inr (Or.inl ⟨b, a1, a2, a3, a4⟩)
    · have k2 := r2.2.1
      refine Or.inr (Or.inr ⟨s, n, a1, a2, a3, a4, a5, a6, fun i hi => ?_⟩)
      rw [g2 _ i (by omega) (by omega), g2 67 _ (by omega) (by omega), xcL_ne (by omega), xcL_ne (by omega)]
      exact a7 i hi
theorem rS1_c {nb q : Nat} {I : zIM} {L : zLM} (h : rS1 nb q I L) (hb : nb ≤ 50) :
    (I (31 + 2 * q) 0 = -2 ∧ I 65 q = -1) ∨ (∃ b, b < 50 ∧ I (31 + 2 * q) 0 = -1 ∧ I 65 q = nI b) ∨ (∃ s n, rRow q s n I L) := by
  rcases h with h | ⟨b, a1, a2, a3, a4⟩ | ⟨s, n, h⟩
  · exact Or.inl h
  · exact Or.inr (Or.inl ⟨b, by omega, a2, a4⟩)
  · exact Or.inr (Or.inr ⟨s, n, h⟩)
theorem s_shift {l : Launch} {G : zG} (x1 x2 x3 x4 x5 : Int32) : zStep l G mX8_shift mX9_shift [.int x1, .int x2, .int x3, .int x4, .int x5] := by
  rintro I L ⟨v, o, nb, hv, hG, hF, hM, hLw, hNm, hTp, hDd, hIm, hCh, hBd, hTr, hSh⟩
  have hR : Rel I L := ⟨v, o, nb, hv, hG, hF, hM, hLw, hNm, hTp, hDd, hIm, hCh, hBd, hTr, hSh⟩
  by_cases hin : iN x1 0 5 ∧ iN x3 0 5
  rotate_left
  · refine ⟨zE (-1) I L, cShift8_no (by decide) hin, ?_⟩
    rintro _ _ _ ⟨rfl, rfl, rfl⟩
    exact cShift9_no (by decide) hin ⟨rfl, hR⟩
  obtain ⟨⟨q1, -, h1, rfl⟩, q2, -, h2, rfl⟩ := hin
  have t1 := rS1_c (hSh q1 (by omega)) hBd.1
  have t2 := rS1_c (hSh q2 (by omega)) hBd.1
  have m21 : ¬ (-1 : Int32) = -2 := by decide
  have m10 : (-1 : Int32) < 0 := by decide
  have m1n : ¬ 0 ≤ (-1 : Int32) := by decide
  by_cases hno : I (31 + 2 * q1) 0 = -2 ∨ I (31 + 2 * q2) 0 = -2
  · refine ⟨zE (-11) I L, cShift8 (by omega) (by omega) (by decide) (fun _ => zE.of rfl) (fun a b _ => (hno.elim a b).elim) (fun a b c => hno.elim (fun z => absurd z a) (fun z => absurd (b.trans z) a)), ?_⟩
    rintro _ _ _ ⟨rfl, rfl, rfl⟩
    have n1 : I (31 + 2 * q1) 0 = -2 → I 65 q1 = -1 := fun z => by
      rcases t1 with h | ⟨b, hb, a1, a2⟩ | ⟨s, n, a1, a2, a3, -⟩
      · exact h.2
      · exact absurd (a1.symm.trans z) m21
      · exact absurd (a3.symm.trans z) (nI_nm (by omega)).2
    have n2 : I (31 + 2 * q2) 0 = -2 → I 65 q2 = -1 := fun z => by
      rcases t2 with h | ⟨b, hb, a1, a2⟩ | ⟨s, n, a1, a2, a3, -⟩
      · exact h.2
      · exact absurd (a1.symm.trans z) m21
      · exact absurd (a3.symm.trans z) (nI_nm (by omega)).2
    have n3 : I 65 q1 < 0 ∨ ¬ 0 ≤ I 65 q2 := hno.elim (fun z => Or.inl (by rw [n1 z]; exact m10)) (fun z => Or.inr (by rw [n2 z]; exact m1n))
    refine cShift9 (by omega) (by omega) (by decide) (fun _ => ⟨rfl, hR⟩) (fun a b _ => (n3.elim a (fun z => z b)).elim) (fun a b => ?_)
    have : I 65 q1 < 50 := by
      rcases hno with z | z
      · rw [n1 z]; decide
      · rw [b, n2 z]; decide
    exact absurd this a
  · have z1 : ¬ I (31 + 2 * q1) 0 = -2 := fun z => hno (Or.inl z)
    have z2 : ¬ I (31 + 2 * q2) 0 = -2 := fun z => hno (Or.inr z)
    have t1' := t1.resolve_left (fun z => z1 z.1)
    have t2' := t2.resolve_left (fun z => z2 z.1)
    have p1 : ¬ I 65 q1 < 0 := by
      rcases t1' with ⟨b, hb, a1, a2⟩ | ⟨s, n, a1, a2, a3, a4, a5, -⟩
      · rw [a2]; exact nI_pos (by omega)
      · rw [a5]; exact nI_pos (by omega)
    have p2 : 0 ≤ I 65 q2 := by
      rcases t2' with ⟨b, hb, a1, a2⟩ | ⟨s, n, a1, a2, a3, a4, a5, -⟩
      · rw [a2]; exact nI_pos' (by omega)
      · rw [a5]; exact nI_pos' (by omega)
    by_cases hrow : ∃ s n1 n2, rRow q1 s n1 I L ∧ rRow q2 s n2 I L
    · obtain ⟨s, n1, n2, r1, r2⟩ := hrow
      have e1 : I (31 + 2 * q1) 0 = I (31 + 2 * q2) 0 := r1.2.2.1.trans r2.2.2.1.symm
      have e2 : ¬ I (31 + 2 * q1) 0 = -1 := fun z => (nI_nm (by have := r1.1; omega)).1 (r1.2.2.1.symm.trans z)
      have f1 : I 65 q1 = I 65 q2 := r1.2.2.2.2.1.trans r2.2.2.2.2.1.symm
      have f2 : ¬ I 65 q1 < 50 := by
        rw [r1.2.2.2.2.1]
        exact (show ¬ nI (50 + s) < nI 50 from nI_nlt (by omega) (by have := r1.1; omega))
      refine ⟨fun y I' L' => ((bSh n1 n2 x2 x4 x5 → -13 = y) ∧ (¬ bSh n1 n2 x2 x4 x5 → x5 = y)) ∧ I = I' ∧ (bSh n1 n2 x2 x4 x5 → L = L') ∧ (¬ bSh n1 n2 x2 x4 x5 → ∀ a b m, x2 = nI a → x4 = nI b → x5 = nI m → a + m ≤ n1 → b + m ≤ n2 → xcL L (32 + 2 * q1) (32 + 2 * q2) a b m = L'), cShift8 (by omega) (by omega) (by decide) (fun z => absurd z hno) (fun _ _ z => z.elim (fun z => absurd e1 z) (fun z => absurd z e2)) (fun _ _ _ => ⟨n1, n2, r1.2.1, r2.2.1, r1.2.2.2.1, r2.2.2.2.1, fun z => ⟨⟨fun _ => rfl, fun c => absurd z c⟩, rfl, fun _ => rfl, fun c => absurd z c⟩, fun z a b m ra rb rm ka kb => ⟨⟨fun c => absurd c z, fun _ => rfl⟩, rfl, fun c => absurd c z, fun _ a' b' m' ra' rb' rm' ka' kb' => ?_⟩⟩), ?_⟩
      · have k1 := r1.2.1
        have k2 := r2.2.1
        obtain rfl := nI_inj (by omega) (by omega) (ra.symm.trans ra')
        obtain rfl := nI_inj (by omega) (by omega) (rb.symm.trans rb')
        obtain rfl := nI_inj (by omega) (by omega) (rm.symm.trans rm')
        rfl
      · rintro y _ L1 ⟨hy, rfl, w1, w2⟩
        refine cShift9 (by omega) (by omega) (by decide) (fun z => (z.elim p1 (fun w => w p2)).elim) (fun _ _ z => (z.elim f2 (fun w => w f1)).elim) (fun _ _ => ⟨n1, n2, r1.2.1, r2.2.1, r1.2.2.2.2.2.1, r2.2.2.2.2.2.1, fun z => ?_, fun z a b m ra rb rm ka kb L' g1 g2 => ?_⟩)
        · obtain rfl := w1 z
          exact ⟨(hy.1 z).symm, hR⟩
        · obtain rfl := w2 z a b m ra rb rm ka kb
          exact ⟨(hy.2 z).symm.trans rm, v, o, nb, hv, hG, hF, hM, hLw, hNm, hTp, hDd, hIm, hCh, hBd, hTr, rSh_go (by omega) hSh r1 r2 ka kb g1 g2⟩
    · have e1 : I (31 + 2 * q1) 0 = I (31 + 2 * q2) 0 → ¬ I (31 + 2 * q1) 0 = -1 → False := fun a b => by
        rcases t1' with ⟨b1, hb1, a1, a2⟩ | ⟨s, n, r1⟩
        · exact b a1
        · rcases t2' with ⟨b2, hb2, c1, c2⟩ | ⟨s', n', r2⟩
          · exact b (a.trans c1)
          · have := r1.1
            have := r2.1
            obtain rfl := nI_inj (by omega) (by omega) ((r1.2.2.1.symm.trans a).trans r2.2.2.1)
            exact hrow ⟨_, _, _, r1, r2⟩
      have e2 : ¬ I 65 q1 < 50 → I 65 q1 = I 65 q2 → False := fun a b => by
        rcases t1' with ⟨b1, hb1, a1, a2⟩ | ⟨s, n, r1⟩
        · refine a ?_
          rw [a2]; exact (show nI b1 < nI 50 from nI_lt hb1 (by omega))
        · rcases t2' with ⟨b2, hb2, c1, c2⟩ | ⟨s', n', r2⟩
          · have := r1.1
            have := nI_inj (by omega) (by omega) ((r1.2.2.2.2.1.symm.trans b).trans c2)
            omega
          · have := r1.1
            have := r2.1
            have := nI_inj (by omega) (by omega) ((r1.2.2.2.2.1.symm.trans b).trans r2.2.2.2.2.1)
            obtain rfl : s = s' := by omega
            exact hrow ⟨_, _, _, r1, r2⟩
      refine ⟨zE (-12) I L, cShift8 (by omega) (by omega) (by decide) (fun z => absurd z hno) (fun _ _ _ => zE.of rfl) (fun _ a b => (e1 a b).elim), ?_⟩
      rintro _ _ _ ⟨rfl, rfl, rfl⟩
      exact cShift9 (by omega) (by omega) (by decide) (fun z => (z.elim p1 (fun w => w p2)).elim) (fun _ _ _ => ⟨rfl, hR⟩) (fun a b => (e2 a b).elim)
