/-! ===== public calls on shelves: element, put, keep ===== -/
/-- shelf q is a ROW of n of sort s -/
def rRow (q s n : Nat) (I : zIM) (L : zLM) : Prop := s < 5 ∧ n ≤ 60 ∧ I (31 + 2 * q) 0 = nI s ∧ I (31 + 2 * q) 2 = nI n ∧ I 65 q = nI (50 + s) ∧ I 66 q = nI n ∧ ∀ i, i < n → L (32 + 2 * q) i = L 67 (60 * q + i)
theorem nI_nm {a : Nat} (ha : a < 1000000) : ¬ nI a = (-1 : Int32) ∧ ¬ nI a = (-2 : Int32) := by
  have h1 := nI_toInt (n := a) (by omega)
  constructor <;> intro h <;> rw [h] at h1
  · rw [show (-1 : Int32).toInt = -1 from by decide] at h1; omega
  · rw [show (-2 : Int32).toInt = -2 from by decide] at h1; omega
theorem refs {nb : Nat} {I : zIM} {L : zLM} (hb : nb ≤ 50) (hSh : rSh nb I L) (x1 x2 : Int32) : ∃ r : Int32,
    (∀ (l : Launch) (G : zG) (d : Nat), 1 ≤ d → zCi l G d mX8_refusal [.ref 0, .int x1, .int x2] I L (zE r I L)) ∧
    (∀ (l : Launch) (G : zG) (d : Nat), 2 ≤ d → zCi l G d mX9_refusal [.ref 44, .int x1, .int x2] I L (zE r I L)) ∧
    (r = 0 → ∃ q s n i, q < 6 ∧ x1 = nI q ∧ rRow q s n I L ∧ i < n ∧ x2 = nI i) := by
  by_cases h1 : iN x1 0 5
  · obtain ⟨q, q0, q5, rfl⟩ := h1
    rcases hSh q (by omega) with ⟨a, b⟩ | ⟨c, c1, c2, c3, c4⟩ | ⟨s, n, s5, n6, a1, a2, a3, a4, a5⟩
    · refine ⟨-11, fun l G d hd => ?_, fun l G d hd => ?_, fun h => absurd h (by decide)⟩
      · refine t_X8_refusal ⟨0, _, hd, cWithin8 (nI q) 5 (by decide), ?_⟩
        rintro y _ _ ⟨hy, rfl, rfl⟩
        obtain rfl := zB_t hy ⟨q, q0, q5, rfl⟩
        exact ⟨fun _ => ⟨q, rfl, by omega, fun c => absurd a c, fun _ => zE.of rfl⟩, fun c => absurd c (by decide)⟩
      · refine t_X9_refusal ⟨1, _, hd, cIsShelf9 (nI q) (Nat.le_refl 1), ?_⟩
        rintro y _ _ ⟨hy, rfl, rfl⟩
        obtain rfl := zB_t hy ⟨q, q0, q5, rfl⟩
        refine ⟨fun _ => ⟨q, rfl, by omega, fun c => absurd c ?_, fun _ => zE.of rfl⟩, fun c => absurd c (by decide)⟩
        rw [b]; decide
    · refine ⟨-12, fun l G d hd => ?_, fun l G d hd => ?_, fun h => absurd h (by decide)⟩
      · refine t_X8_refusal ⟨0, _, hd, cWithin8 (nI q) 5 (by decide), ?_⟩
        rintro y _ _ ⟨hy, rfl, rfl⟩
        obtain rfl := zB_t hy ⟨q, q0, q5, rfl⟩
        exact ⟨fun _ => ⟨q, rfl, by omega, fun _ => ⟨fun c => absurd c2 c, fun _ => zE.of rfl⟩, fun c => absurd (c2.symm.trans c) (by decide)⟩, fun c => absurd c (by decide)⟩
      · refine t_X9_refusal ⟨1, _, hd, cIsShelf9 (nI q) (Nat.le_refl 1), ?_⟩
        rintro y _ _ ⟨hy, rfl, rfl⟩
        obtain rfl := zB_t hy ⟨q, q0, q5, rfl⟩
        refine ⟨fun _ => ⟨q, rfl, by omega, fun _ => ⟨fun z => absurd z ?_, fun _ => zE.of rfl⟩, fun z => absurd ?_ z⟩, fun c => absurd c (by decide)⟩
        · rw [c4]; exact nI_ge (b := 50) (by omega) (by decide)
        · rw [c4]; exact nI_pos' (by omega)
    · by_cases h2 : iP x2 n
      · obtain ⟨i, hi, rfl⟩ := h2
        refine ⟨0, fun l G d hd => ?_, fun l G d hd => ?_, fun _ => ⟨q, s, n, i, by omega, rfl, ⟨s5, n6, a1, a2, a3, a4, a5⟩, hi, rfl⟩⟩
        · refine t_X8_refusal ⟨0, _, hd, cWithin8 (nI q) 5 (by decide), ?_⟩
          rintro y _ _ ⟨hy, rfl, rfl⟩
          obtain rfl := zB_t hy ⟨q, q0, q5, rfl⟩
          refine ⟨fun _ => ⟨q, rfl, by omega, fun _ => ⟨fun _ => ⟨0, zB (iP (nI i) n) I L, hd, by rw [a2]; exact cWithinM (nI i) n (by omega), ?_⟩, fun c => absurd (a1.symm.trans c) (nI_nm (by omega)).1⟩, fun c => absurd (a1.symm.trans c) (nI_nm (by omega)).2⟩, fun c => absurd c (by decide)⟩
          rintro y _ _ ⟨hy, rfl, rfl⟩
          obtain rfl := zB_t hy ⟨i, hi, rfl⟩
          exact ⟨fun c => absurd c (by decide), fun _ => zE.of rfl⟩
        · refine t_X9_refusal ⟨1, _, hd, cIsShelf9 (nI q) (Nat.le_refl 1), ?_⟩
          rintro y _ _ ⟨hy, rfl, rfl⟩
          obtain rfl := zB_t hy ⟨q, q0, q5, rfl⟩
          refine ⟨fun _ => ⟨q, rfl, by omega, fun _ => ⟨fun z => ⟨fun c => absurd c (nI_pos (by omega)), fun _ => ⟨fun c => absurd c ?_, fun _ => zE.of rfl⟩⟩, fun z => absurd ?_ z⟩, fun z => absurd ?_ z⟩, fun c => absurd c (by decide)⟩
          · rw [a4]; exact nI_ge hi (by omega)
          · rw [a3]; exact nI_le (a := 50) (by omega) (by omega)
          · rw [a3]; exact nI_pos' (by omega)
      · refine ⟨-13, fun l G d hd => ?_, fun l G d hd => ?_, fun h => absurd h (by decide)⟩
        · refine t_X8_refusal ⟨0, _, hd, cWithin8 (nI q) 5 (by decide), ?_⟩
          rintro y _ _ ⟨hy, rfl, rfl⟩
          obtain rfl := zB_t hy ⟨q, q0, q5, rfl⟩
          refine ⟨fun _ => ⟨q, rfl, by omega, fun _ => ⟨fun _ => ⟨0, zB (iP x2 n) I L, hd, by rw [a2]; exact cWithinM x2 n (by omega), ?_⟩, fun c => absurd (a1.symm.trans c) (nI_nm (by omega)).1⟩, fun c => absurd (a1.symm.trans c) (nI_nm (by omega)).2⟩, fun c => absurd c (by decide)⟩
          rintro y _ _ ⟨hy, rfl, rfl⟩
          obtain rfl := zB_f hy h2
          exact ⟨fun _ => zE.of rfl, fun c => absurd rfl c⟩
        · refine t_X9_refusal ⟨1, _, hd, cIsShelf9 (nI q) (Nat.le_refl 1), ?_⟩
          rintro y _ _ ⟨hy, rfl, rfl⟩
          obtain rfl := zB_t hy ⟨q, q0, q5, rfl⟩
          refine ⟨fun _ => ⟨q, rfl, by omega, fun _ => ⟨fun z => ⟨fun c => zE.of rfl, fun e1 => ⟨fun c => zE.of rfl, fun e2 => absurd ?_ h2⟩⟩, fun z => absurd ?_ z⟩, fun z => absurd ?_ z⟩, fun c => absurd c (by decide)⟩
          · rw [iP_iff (by omega)]
            rw [i_lt0] at e1
            rw [a4, Int32.le_iff_toInt_le, nI_toInt (by omega)] at e2
            omega
          · rw [a3]; exact nI_le (a := 50) (by omega) (by omega)
          · rw [a3]; exact nI_pos' (by omega)
  · refine ⟨-1, fun l G d hd => ?_, fun l G d hd => ?_, fun h => absurd h (by decide)⟩
    · refine t_X8_refusal ⟨0, _, hd, cWithin8 x1 5 (by decide), ?_⟩
      rintro y _ _ ⟨hy, rfl, rfl⟩
      obtain rfl := zB_f hy h1
      exact ⟨fun c => absurd rfl c, fun _ => zE.of rfl⟩
    · refine t_X9_refusal ⟨1, _, hd, cIsShelf9 x1 (Nat.le_refl 1), ?_⟩
      rintro y _ _ ⟨hy, rfl, rfl⟩
      obtain rfl := zB_f hy h1
      exact ⟨fun c => absurd rfl c, fun _ => zE.of rfl⟩
/-- what a sort keeps of a long -/
def sLow (s : Nat) (x : Int64) : Int64 := if s = 0 then x.toInt32.toInt8.toInt32.toInt64 else if s = 1 then x.toInt32.toInt16.toInt32.toInt64 else if s = 2 then x.toInt32.toInt64 else if s = 3 then x else if x = 0 then 0 else 1
section PE
variable {l : Launch} {G : zG}
theorem s_element (x1 x2 : Int32) : zStepL l G mX8_element mX9_element [.int x1, .int x2] := by
  rintro I L ⟨v, o, nb, hv, hG, hF, hM, hLw, hNm, hTp, hDd, hIm, hCh, hBd, hTr, hSh⟩
  have hR : Rel I L := ⟨v, o, nb, hv, hG, hF, hM, hLw, hNm, hTp, hDd, hIm, hCh, hBd, hTr, hSh⟩
  obtain ⟨r, h8, h9, hr⟩ := refs hBd.1 hSh x1 x2
  by_cases h0 : r = 0
  · subst h0
    obtain ⟨q, s, n, i, q6, rfl, ⟨-, n6, -, -, -, -, hrow⟩, hi, rfl⟩ := hr rfl
    refine ⟨fun y I' L' => L (32 + 2 * q) i = y ∧ I = I' ∧ L = L', ?_, ?_⟩
    · refine t_X8_element ⟨1, _, by decide, h8 l G 1 (Nat.le_refl 1), ?_⟩
      rintro _ _ _ ⟨rfl, rfl, rfl⟩
      exact ⟨fun _ => ⟨q, rfl, q6, i, rfl, by omega, rfl, rfl, rfl⟩, fun c => absurd rfl c⟩
    · rintro _ _ _ ⟨rfl, rfl, rfl⟩
      refine t_X9_element ⟨2, _, by decide, h9 l G 2 (Nat.le_refl 2), ?_⟩
      rintro _ _ _ ⟨rfl, rfl, rfl⟩
      exact ⟨fun _ => ⟨60 * q + i, by rw [show (60 : Int32) = nI 60 from rfl, nI_mul, nI_add], by omega, hrow i hi, hR⟩, fun c => absurd rfl c⟩
  · refine ⟨fun y I' L' => (-9223372036854775808 : Int64) = y ∧ I = I' ∧ L = L', ?_, ?_⟩
    · refine t_X8_element ⟨1, _, by decide, h8 l G 1 (Nat.le_refl 1), ?_⟩
      rintro _ _ _ ⟨rfl, rfl, rfl⟩
      exact ⟨fun c => absurd c h0, fun _ => ⟨rfl, rfl, rfl⟩⟩
    · rintro _ _ _ ⟨rfl, rfl, rfl⟩
      refine t_X9_element ⟨2, _, by decide, h9 l G 2 (Nat.le_refl 2), ?_⟩
      rintro _ _ _ ⟨rfl, rfl, rfl⟩
      exact ⟨fun c => absurd c h0, fun _ => ⟨rfl, hR⟩⟩
theorem cLow8 {d q s : Nat} {I : zIM} {L : zLM} (hq : q < 6) (hs : s < 5) (h : I (31 + 2 * q) 0 = nI s) (x : Int64) : zCl l G d mX5_lowestBits [.ref (31 + 2 * q), .long x] I L (zE (sLow s x) I L) := by
  have ek : ∀ j : Nat, j < 10 → (I (31 + 2 * q) 0 = nI j ↔ s = j) := fun j hj => by rw [h]; exact nI_eq_iff (by omega) (by omega)
  refine t_X5_lowestBits hq ⟨fun c => ?_, fun c => ?_, fun c => ?_, fun c => ?_, fun n0 n1 n2 n3 => ?_⟩
  · obtain rfl := (ek 0 (by omega)).mp c; exact zE.of rfl
  · obtain rfl := (ek 1 (by omega)).mp c; exact zE.of rfl
  · obtain rfl := (ek 2 (by omega)).mp c; exact zE.of rfl
  · obtain rfl := (ek 3 (by omega)).mp c; exact zE.of rfl
  · have m0 : ¬ s = 0 := fun z => n0 ((ek 0 (by omega)).mpr z)
    have m1 : ¬ s = 1 := fun z => n1 ((ek 1 (by omega)).mpr z)
    have m2 : ¬ s = 2 := fun z => n2 ((ek 2 (by omega)).mpr z)
    have m3 : ¬ s = 3 := fun z => n3 ((ek 3 (by omega)).mpr z)
    exact ⟨fun c => zE.of (by rw [sLow, if_neg m0, if_neg m1, if_neg m2, if_neg m3, if_pos c]), fun c => zE.of (by rw [sLow, if_neg m0, if_neg m1, if_neg m2, if_neg m3, if_neg c])⟩
theorem cLow9 {d s : Nat} {I : zIM} {L : zLM} (hs : s < 5) (x : Int64) : zCl l G d mX9_asSort [.int (nI s), .long x] I L (zE (sLow s x) I L) := by
  have ek : ∀ j : Nat, j < 10 → (nI s = nI j ↔ s = j) := fun j hj => nI_eq_iff (by omega) (by omega)
  refine t_X9_asSort ⟨fun n0 => ⟨fun n1 => ⟨fun n2 => ⟨fun n4 => zE.of ?_, fun c => ⟨fun c2 => zE.of ?_, fun c2 => zE.of ?_⟩⟩, fun c => ?_⟩, fun c => ?_⟩, fun c => ?_⟩
  · have m0 : ¬ s = 0 := fun z => n0 ((ek 0 (by omega)).mpr z)
    have m1 : ¬ s = 1 := fun z => n1 ((ek 1 (by omega)).mpr z)
    have m2 : ¬ s = 2 := fun z => n2 ((ek 2 (by omega)).mpr z)
    have m4 : ¬ s = 4 := fun z => n4 ((ek 4 (by omega)).mpr z)
    rw [sLow, if_neg m0, if_neg m1, if_neg m2, if_pos (by omega)]
  · obtain rfl := (ek 4 (by omega)).mp c
    exact (if_pos c2).symm
  · obtain rfl := (ek 4 (by omega)).mp c
    exact (if_neg c2).symm
  · obtain rfl := (ek 2 (by omega)).mp c; exact zE.of rfl
  · obtain rfl := (ek 1 (by omega)).mp c; exact zE.of rfl
  · obtain rfl := (ek 0 (by omega)).mp c; exact zE.of rfl
theorem s_put (x1 x2 : Int32) (x3 : Int64) : zStep l G mX8_put mX9_put [.int x1, .int x2, .long x3] := by
  rintro I L ⟨v, o, nb, hv, hG, hF, hM, hLw, hNm, hTp, hDd, hIm, hCh, hBd, hTr, hSh⟩
  have hR : Rel I L := ⟨v, o, nb, hv, hG, hF, hM, hLw, hNm, hTp, hDd, hIm, hCh, hBd, hTr, hSh⟩
  obtain ⟨r, h8, h9, hr⟩ := refs hBd.1 hSh x1 x2
  by_cases h0 : r = 0
  · subst h0
    obtain ⟨q, s, n, i, q6, rfl, ⟨s5, n6, w1, w2, w3, w4, hrow⟩, hi, rfl⟩ := hr rfl
    refine ⟨fun y I' L' => 1 = y ∧ I = I' ∧ xL L (32 + 2 * q) i (sLow s x3) = L', ?_, ?_⟩
    · refine t_X8_put ⟨1, _, by decide, h8 l G 1 (Nat.le_refl 1), ?_⟩
      rintro _ _ _ ⟨rfl, rfl, rfl⟩
      refine ⟨fun _ => ⟨q, rfl, q6, 1, fun I' L' => I = I' ∧ xL L (32 + 2 * q) i (sLow s x3) = L', by decide, t_X5_setElement q6 ⟨0, _, Nat.le_refl 1, cLow8 q6 s5 w1 x3, ?_⟩, ?_⟩, fun c => absurd rfl c⟩
      · rintro _ _ _ ⟨rfl, rfl, rfl⟩
        exact ⟨i, rfl, by omega, rfl, rfl⟩
      · rintro _ _ ⟨rfl, rfl⟩
        exact ⟨rfl, rfl, rfl⟩
    · rintro _ _ _ ⟨rfl, rfl, rfl⟩
      have hSh2 : rSh nb I (xL L (32 + 2 * q) i (sLow s x3)) → True := fun _ => trivial
      -- the reference's refusal looks at no element
      obtain ⟨r2, -, k9, -⟩ := refs (L := L) hBd.1 hSh (nI q) (nI i)
      have h9' : ∀ (L1 : zLM), zCi l G 2 mX9_refusal [.ref 44, .int (nI q), .int (nI i)] I L1 (zE 0 I L1) := by
        intro L1
        refine t_X9_refusal ⟨1, _, Nat.le_refl 2, cIsShelf9 (nI q) (Nat.le_refl 1), ?_⟩
        rintro y _ _ ⟨hy, rfl, rfl⟩
        obtain rfl := zB_t hy ⟨q, Nat.zero_le _, by omega, rfl⟩
        refine ⟨fun _ => ⟨q, rfl, by omega, fun _ => ⟨fun z => ⟨fun c => absurd c (nI_pos (by omega)), fun _ => ⟨fun c => absurd c ?_, fun _ => zE.of rfl⟩⟩, fun z => absurd ?_ z⟩, fun z => absurd ?_ z⟩, fun c => absurd c (by decide)⟩
        · rw [w4]; exact nI_ge hi (by omega)
        · rw [w3]; exact nI_le (a := 50) (by omega) (by omega)
        · rw [w3]; exact nI_pos' (by omega)
      refine t_X9_put ⟨2, _, by decide, h9' _, ?_⟩
      rintro _ _ _ ⟨rfl, rfl, rfl⟩
      refine ⟨fun c => absurd rfl c, fun _ => ⟨q, rfl, q6, 0, zE (sLow s x3) I (xL L (32 + 2 * q) i (sLow s x3)), by decide, ?_, ?_⟩⟩
      · rw [w3, show (50 : Int32) = nI 50 from rfl, nI_sub (by omega), show 50 + s - 50 = s by omega]
        exact cLow9 s5 x3
      · rintro _ _ _ ⟨rfl, rfl, rfl⟩
        refine ⟨60 * q + i, by rw [show (60 : Int32) = nI 60 from rfl, nI_mul, nI_add], by omega, fun c => absurd rfl c, fun _ => ⟨rfl, v, o, nb, hv, hG, hF, hM, hLw, hNm, hTp, hDd, hIm, hCh, hBd, hTr, fun d hd => ?_⟩⟩
        rcases hSh d hd with ⟨a, b⟩ | ⟨c, c1, c2, c3, c4⟩ | ⟨s', n', a0, a1, a2, a3, a4, a5, a6⟩
        · exact Or.inl ⟨a, b⟩
        · exact Or.inr (Or.inl ⟨c, c1, c2, c3, c4⟩)
        · refine Or.inr (Or.inr ⟨s', n', a0, a1, a2, a3, a4, a5, fun j hj => ?_⟩)
          rw [xL_ne (by omega)]
          by_cases e : d = q ∧ j = i
          · obtain ⟨rfl, rfl⟩ := e
            rw [xL_eq, xL_eq]
          · rw [xL_ne (by omega), xL_ne (by omega), xL_ne (by omega)]
            exact a6 j hj
  · refine ⟨fun y I' L' => r = y ∧ I = I' ∧ L = L', ?_, ?_⟩
    · refine t_X8_put ⟨1, _, by decide, h8 l G 1 (Nat.le_refl 1), ?_⟩
      rintro _ _ _ ⟨rfl, rfl, rfl⟩
      exact ⟨fun c => absurd c h0, fun _ => ⟨rfl, rfl, rfl⟩⟩
    · rintro _ _ _ ⟨rfl, rfl, rfl⟩
      refine t_X9_put ⟨2, _, by decide, h9 l G 2 (Nat.le_refl 2), ?_⟩
      rintro _ _ _ ⟨rfl, rfl, rfl⟩
      exact ⟨fun _ => ⟨fun _ => ⟨rfl, hR⟩, fun c => absurd c h0⟩, fun c => absurd c h0⟩
end PE
