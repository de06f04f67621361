/-! ===== public calls: of, body, trace; refusals; element, put ===== -/
theorem nI_m (n : Nat) (hn : n < 2 ^ 31) : (nI n - 1).toInt = (n : Int) - 1 := by
  cases n with
  | zero => decide
  | succ k =>
    rw [nI_pred, nI_toInt (by omega)]
    omega
theorem i_lt0 {x : Int32} : x < 0 ↔ x.toInt < 0 := by rw [Int32.lt_iff_toInt_lt, Int32.toInt_zero]
section PS
variable {l : Launch} {G : zG}
theorem cWithinM {d : Nat} {I : zIM} {L : zLM} (x : Int32) (n : Nat) (hn : n < 2 ^ 31) : zCi l G d mX8_isWithin [.int x, .int (nI n - 1)] I L (zB (iP x n) I L) := by
  have e1 : nI n - 1 < x ↔ (n : Int) - 1 < x.toInt := by rw [Int32.lt_iff_toInt_lt, nI_m n hn]
  refine t_X8_isWithin ⟨fun c => zB.n ?_, fun c => ⟨fun c2 => zB.n ?_, fun c2 => zB.y ?_⟩⟩
  · rw [iP_iff hn]; rw [i_lt0] at c; omega
  · rw [iP_iff hn]; rw [e1] at c2; omega
  · rw [iP_iff hn]; rw [i_lt0] at c; rw [e1] at c2; omega
theorem cIsShelf9 {d : Nat} {I : zIM} {L : zLM} (x : Int32) (hd : 1 ≤ d) : zCi l G d mX9_isShelf [.int x] I L (zB (iN x 0 5) I L) := by
  refine t_X9_isShelf ⟨0, _, hd, cWithin9 x 0 5 (by decide) (by decide), ?_⟩
  rintro y _ _ ⟨hy, rfl, rfl⟩
  exact ⟨hy.elim (fun z => Or.inr z.1) (fun z => Or.inl z.1), hy, rfl, rfl⟩
theorem s_of (x1 x2 : Int32) : zStep l G mX8_of mX9_of [.int x1, .int x2] := by
  rintro I L ⟨v, o, nb, hv, hG, hF, hM, hLw, hNm, hTp, hDd, hIm, hCh, hBd, hTr, hSh⟩
  have hR : Rel I L := ⟨v, o, nb, hv, hG, hF, hM, hLw, hNm, hTp, hDd, hIm, hCh, hBd, hTr, hSh⟩
  have hn := hv.1
  by_cases h1 : iP x1 (vn v)
  · obtain ⟨p, hp, rfl⟩ := h1
    have hp4 : p < 4 := by omega
    obtain ⟨s, t, w, hk, q1, q2, q3, q4, q5, q6⟩ := id hDd
    by_cases h2 : iN x2 0 4
    · obtain ⟨k, k0, k4, rfl⟩ := h2
      have ek : ∀ j : Nat, j < 10 → (nI k = nI j ↔ k = j) := fun j hj => nI_eq_iff (by omega) (by omega)
      refine ⟨fun y I' L' => (if k = 0 then nI (vH v p) else if k = 1 then nI (vY v p) else if k = 2 then nI (vT v p) else if k = 3 then nI (vP v p) else if bIn s p = true then 1 else 0) = y ∧ I = I' ∧ L = L', ?_, ?_⟩
      · refine t_X8_of ⟨0, _, by decide, cHasB (nI p) hv hG, ?_⟩
        rintro y _ _ ⟨hy, rfl, rfl⟩
        obtain rfl := zB_t hy ⟨p, hp, rfl⟩
        refine ⟨fun c => absurd c (by decide), fun _ => ⟨0, _, by decide, cWithin8 (nI k) 4 (by decide), ?_⟩⟩
        rintro y _ _ ⟨hy, rfl, rfl⟩
        obtain rfl := zB_t hy ⟨k, k0, k4, rfl⟩
        refine ⟨fun _ => ⟨fun c4 => ⟨fun c3 => ⟨0, _, by decide, cTold hp4, ?_⟩, fun c3 => ⟨p, rfl, hp4, ?_⟩⟩, fun c4 => ?_⟩, fun c => absurd c (by decide)⟩
        · rintro _ _ _ ⟨rfl, rfl, rfl⟩
          refine ⟨?_, rfl, rfl⟩
          have n4 : ¬ k = 4 := fun z => c4 ((ek 4 (by omega)).mpr z)
          have n3 : ¬ k = 3 := fun z => c3 ((ek 3 (by omega)).mpr z)
          rw [hG.2.2.1 p hp4, hG.2.2.2.1 p hp4, hG.2.2.2.2.1 p hp4]
          rcases (by omega : k = 0 ∨ k = 1 ∨ k = 2) with rfl | rfl | rfl <;> rfl
        · obtain rfl := (ek 3 (by omega)).mp c3
          exact ⟨(hG.2.2.2.2.2.2.1 p hp).symm, rfl, rfl⟩
        · obtain rfl := (ek 4 (by omega)).mp c4
          exact ⟨by rw [q1, b_inv s hk.1 p hp4]; rfl, rfl, rfl⟩
      · rintro y _ _ ⟨rfl, rfl, rfl⟩
        refine t_X9_of ⟨1, _, by decide, cIsPlayer9 (nI p) hn hM.1 (Nat.le_refl 1), ?_⟩
        rintro y _ _ ⟨hy, rfl, rfl⟩
        obtain rfl := zB_t hy ⟨p, hp, rfl⟩
        refine ⟨fun _ => ⟨fun c => ?_, fun c => ?_, fun c => ?_, fun c => ?_, fun c => ?_, fun n0 n1 n2 n3 n4 => ?_⟩, fun c => absurd c (by decide)⟩
        · obtain rfl := (ek 0 (by omega)).mp c
          exact ⟨p, by rw [show (4 : Int32) = nI 4 from rfl, nI_mul, nI_add]; congr 1; omega, by omega, (hM.2.2.1 p hp4).symm, hR⟩
        · obtain rfl := (ek 1 (by omega)).mp c
          exact ⟨4 + p, by rw [show (4 : Int32) = nI 4 from rfl, nI_mul, nI_add], by omega, (hM.2.2.2.1 p hp4).symm, hR⟩
        · obtain rfl := (ek 2 (by omega)).mp c
          exact ⟨8 + p, by rw [show (4 : Int32) = nI 4 from rfl, nI_mul, nI_add], by omega, (hM.2.2.2.2.1 p hp4).symm, hR⟩
        · obtain rfl := (ek 3 (by omega)).mp c
          exact ⟨p, rfl, hp4, (hM.2.2.2.2.2.2.1 p hp).symm, hR⟩
        · obtain rfl := (ek 4 (by omega)).mp c
          refine ⟨0, zB (bIn s p = true) I L, by decide, by rw [q4]; exact cIsIn9 hk.1 hp4, ?_⟩
          rintro y _ _ ⟨hy, rfl, rfl⟩
          refine ⟨fun c => ⟨?_, hR⟩, fun c => ⟨?_, hR⟩⟩
          · rcases hy with ⟨e, -⟩ | ⟨-, e⟩
            · rw [e] at c; exact absurd c (by decide)
            · show (if bIn s p = true then (1 : Int32) else 0) = 0
              rw [if_neg e]
          · rcases hy with ⟨-, e⟩ | ⟨e, -⟩
            · show (if bIn s p = true then (1 : Int32) else 0) = 1
              rw [if_pos e]
            · exact absurd e c
        · exfalso
          have m0 : ¬ k = 0 := fun z => n0 ((ek 0 (by omega)).mpr z)
          have m1 : ¬ k = 1 := fun z => n1 ((ek 1 (by omega)).mpr z)
          have m2 : ¬ k = 2 := fun z => n2 ((ek 2 (by omega)).mpr z)
          have m3 : ¬ k = 3 := fun z => n3 ((ek 3 (by omega)).mpr z)
          have m4 : ¬ k = 4 := fun z => n4 ((ek 4 (by omega)).mpr z)
          omega
    · refine ⟨fun y I' L' => -1 = y ∧ I = I' ∧ L = L', ?_, ?_⟩
      · refine t_X8_of ⟨0, _, by decide, cHasB (nI p) hv hG, ?_⟩
        rintro y _ _ ⟨hy, rfl, rfl⟩
        obtain rfl := zB_t hy ⟨p, hp, rfl⟩
        refine ⟨fun c => absurd c (by decide), fun _ => ⟨0, _, by decide, cWithin8 x2 4 (by decide), ?_⟩⟩
        rintro y _ _ ⟨hy, rfl, rfl⟩
        obtain rfl := zB_f hy h2
        exact ⟨fun c => absurd rfl c, fun _ => ⟨rfl, rfl, rfl⟩⟩
      · rintro y _ _ ⟨rfl, rfl, rfl⟩
        refine t_X9_of ⟨1, _, by decide, cIsPlayer9 (nI p) hn hM.1 (Nat.le_refl 1), ?_⟩
        rintro y _ _ ⟨hy, rfl, rfl⟩
        obtain rfl := zB_t hy ⟨p, hp, rfl⟩
        exact ⟨fun _ => ⟨fun c => absurd ⟨0, by omega, by omega, c⟩ h2, fun c => absurd ⟨1, by omega, by omega, c⟩ h2, fun c => absurd ⟨2, by omega, by omega, c⟩ h2, fun c => absurd ⟨3, by omega, by omega, c⟩ h2, fun c => absurd ⟨4, by omega, by omega, c⟩ h2, fun _ _ _ _ _ => ⟨rfl, hR⟩⟩, fun c => absurd c (by decide)⟩
  · refine ⟨fun y I' L' => -1 = y ∧ I = I' ∧ L = L', ?_, ?_⟩
    · refine t_X8_of ⟨0, _, by decide, cHasB x1 hv hG, ?_⟩
      rintro y _ _ ⟨hy, rfl, rfl⟩
      obtain rfl := zB_f hy h1
      exact ⟨fun _ => ⟨rfl, rfl, rfl⟩, fun c => absurd rfl c⟩
    · rintro y _ _ ⟨rfl, rfl, rfl⟩
      refine t_X9_of ⟨1, _, by decide, cIsPlayer9 x1 hn hM.1 (Nat.le_refl 1), ?_⟩
      rintro y _ _ ⟨hy, rfl, rfl⟩
      obtain rfl := zB_f hy h1
      exact ⟨fun c => absurd rfl c, fun _ => ⟨rfl, hR⟩⟩
theorem s_body (x : Int32) : zStep l G mX8_body mX9_body [.int x] := by
  rintro I L ⟨v, o, nb, hv, hG, hF, hM, hLw, hNm, hTp, hDd, hIm, hCh, hBd, hTr, hSh⟩
  have hR : Rel I L := ⟨v, o, nb, hv, hG, hF, hM, hLw, hNm, hTp, hDd, hIm, hCh, hBd, hTr, hSh⟩
  obtain ⟨b1, b2, b3, b4⟩ := id hBd
  by_cases h1 : iN x 0 7
  · obtain ⟨k, k0, k7, rfl⟩ := h1
    by_cases hb : nb < 50
    · refine ⟨fun y I' L' => nI nb = y ∧ xI (xI I 28 nb (nI k)) 27 1 (nI (nb + 1)) = I' ∧ L = L', ?_, ?_⟩
      · refine t_X8_body ⟨0, _, by decide, cWithin8 (nI k) 7 (by decide), ?_⟩
        rintro y _ _ ⟨hy, rfl, rfl⟩
        obtain rfl := zB_t hy ⟨k, k0, k7, rfl⟩
        refine ⟨fun c => absurd c (by decide), fun _ => ⟨0, fun y I' L' => nI nb = y ∧ xI (xI I 28 nb (nI k)) 27 1 (nI (nb + 1)) = I' ∧ L = L', by decide, t_X6_come ⟨fun c => ⟨nb, b2, hb, ?_, ?_, rfl⟩, fun c => absurd ?_ c⟩, fun _ _ _ h => h⟩⟩
        · rw [b2, nI_1, nI_pred]
        · rw [b2, nI_1]
        · rw [b2]; exact nI_lt (b := 50) hb (by decide)
      · rintro y _ _ ⟨rfl, rfl, rfl⟩
        refine t_X9_body ⟨0, _, by decide, cWithin9 (nI k) 0 7 (by decide) (by decide), ?_⟩
        rintro y _ _ ⟨hy, rfl, rfl⟩
        obtain rfl := zB_t hy ⟨k, k0, k7, rfl⟩
        have b3' : (xI (xI I 28 nb (nI k)) 27 1 (nI (nb + 1))) 44 40 = nI nb := b3
        refine ⟨fun _ => ⟨fun c => ⟨nb, b3, hb, ?e1, v, o, nb + 1, hv, hG.off (fun a b h1 h8 => ?_), hF.off (fun _ => rfl), hM.off rfl rfl (fun a b h => ?_), hLw.off rfl (fun _ => rfl) rfl (fun _ => rfl), hNm.off rfl (fun _ => rfl), hTp.off rfl rfl (fun a b h => ?_), hDd.off (fun _ _ => rfl) (fun _ _ _ => ?_), hIm.off (fun _ _ _ => rfl) (fun _ _ _ => ?_), hCh.off (Nat.le_refl _) rfl rfl rfl rfl (fun a b h => ?_), ⟨by omega, rfl, ?e2, fun i hi => ?e3⟩, hTr.off rfl rfl (fun a b h => ?_), hSh.off (by omega) (fun a b h => ?_) (fun _ _ _ => rfl)⟩, fun c => ?e4⟩, fun c => absurd c (by decide)⟩
        case e1 => rw [b3', nI_1, nI_pred]
        case e2 =>
          rw [b3']
          exact nI_1 nb
        case e3 =>
          by_cases e : i = nb
          · subst e
            exact ⟨k, by omega, by rw [xI_ne (by omega), xI_ne (by omega), xI_ne (by omega), xI_eq], by rw [xI_ne (by omega), xI_eq]⟩
          · obtain ⟨j, j1, j2, j3⟩ := b4 i (by omega)
            exact ⟨j, j1, by rw [xI_ne (by omega), xI_ne (by omega), xI_ne (by omega), xI_ne (by omega)]; exact j2, by rw [xI_ne (by omega), xI_ne (by omega), xI_ne (by omega), xI_ne (by omega)]; exact j3⟩
        case e4 =>
          rw [b3', show (50 : Int32) = nI 50 from rfl, nI_eq_iff (by omega) (by omega)] at c
          omega
        all_goals rw [xI_ne (by omega), xI_ne (by omega), xI_ne (by omega), xI_ne (by omega)]
    · have hb5 : nb = 50 := by omega
      subst hb5
      refine ⟨fun y I' L' => -3 = y ∧ I = I' ∧ L = L', ?_, ?_⟩
      · refine t_X8_body ⟨0, _, by decide, cWithin8 (nI k) 7 (by decide), ?_⟩
        rintro y _ _ ⟨hy, rfl, rfl⟩
        obtain rfl := zB_t hy ⟨k, k0, k7, rfl⟩
        refine ⟨fun c => absurd c (by decide), fun _ => ⟨0, fun y I' L' => -3 = y ∧ I = I' ∧ L = L', by decide, t_X6_come ⟨fun c => absurd c ?_, fun c => ⟨rfl, rfl, rfl⟩⟩, fun _ _ _ h => h⟩⟩
        rw [b2]; decide
      · rintro y _ _ ⟨rfl, rfl, rfl⟩
        refine t_X9_body ⟨0, _, by decide, cWithin9 (nI k) 0 7 (by decide) (by decide), ?_⟩
        rintro y _ _ ⟨hy, rfl, rfl⟩
        obtain rfl := zB_t hy ⟨k, k0, k7, rfl⟩
        exact ⟨fun _ => ⟨fun c => absurd b3 c, fun _ => ⟨rfl, hR⟩⟩, fun c => absurd c (by decide)⟩
  · refine ⟨fun y I' L' => -1 = y ∧ I = I' ∧ L = L', ?_, ?_⟩
    · refine t_X8_body ⟨0, _, by decide, cWithin8 x 7 (by decide), ?_⟩
      rintro y _ _ ⟨hy, rfl, rfl⟩
      obtain rfl := zB_f hy h1
      exact ⟨fun _ => ⟨rfl, rfl, rfl⟩, fun c => absurd rfl c⟩
    · rintro y _ _ ⟨rfl, rfl, rfl⟩
      refine t_X9_body ⟨0, _, by decide, cWithin9 x 0 7 (by decide) (by decide), ?_⟩
      rintro y _ _ ⟨hy, rfl, rfl⟩
      obtain rfl := zB_f hy h1
      exact ⟨fun c => absurd rfl c, fun _ => ⟨rfl, hR⟩⟩
theorem s_trace (x : Int32) : zStep l G mX8_trace mX9_trace [.int x] := by
  rintro I L ⟨v, o, nb, hv, hG, hF, hM, hLw, hNm, hTp, hDd, hIm, hCh, hBd, hTr, hSh⟩
  have hR : Rel I L := ⟨v, o, nb, hv, hG, hF, hM, hLw, hNm, hTp, hDd, hIm, hCh, hBd, hTr, hSh⟩
  obtain ⟨n, n1, r1, r2, r3⟩ := hTr
  obtain ⟨c, hc⟩ : ∃ c, c = min n 24 := ⟨_, rfl⟩
  have em : (if (24 : Int32) < I 27 3 then (24 : Int32) else I 27 3) - 1 = nI c - 1 := by
    rw [r1]
    by_cases h : 24 < n
    · rw [if_pos (show (24 : Int32) < nI n from nI_lt (a := 24) h (by omega)), hc, show min n 24 = 24 by omega]; rfl
    · rw [if_neg (show ¬ (24 : Int32) < nI n from nI_nlt (a := 24) (by omega) (by decide)), hc, show min n 24 = n by omega]
  by_cases h : iP x c
  · obtain ⟨k, hk, rfl⟩ := h
    refine ⟨fun y I' L' => I 29 k = y ∧ I = I' ∧ L = L', ?_, ?_⟩
    · refine t_X8_trace (by decide) ⟨0, zB (iP (nI k) c) I L, by decide, by rw [em]; exact cWithinM (nI k) c (by omega), ?_⟩
      rintro y _ _ ⟨hy, rfl, rfl⟩
      obtain rfl := zB_t hy ⟨k, hk, rfl⟩
      exact ⟨fun c => absurd c (by decide), fun _ => ⟨k, rfl, by omega, rfl, rfl, rfl⟩⟩
    · rintro y _ _ ⟨rfl, rfl, rfl⟩
      refine t_X9_trace ⟨fun q => absurd q (nI_pos (by omega)), fun _ => ⟨fun q => absurd q ?_, fun _ => ⟨fun q => absurd q (nI_ge (b := 24) (by omega) (by decide)), fun _ => ⟨k, rfl, by omega, r3 k (by omega) (by omega), hR⟩⟩⟩⟩
      rw [r2]
      exact nI_ge (by omega) (by omega)
  · refine ⟨fun y I' L' => -1 = y ∧ I = I' ∧ L = L', ?_, ?_⟩
    · refine t_X8_trace (by decide) ⟨0, zB (iP x c) I L, by decide, by rw [em]; exact cWithinM x c (by omega), ?_⟩
      rintro y _ _ ⟨hy, rfl, rfl⟩
      obtain rfl := zB_f hy h
      exact ⟨fun _ => ⟨rfl, rfl, rfl⟩, fun c => absurd rfl c⟩
    · rintro y _ _ ⟨rfl, rfl, rfl⟩
      refine t_X9_trace ⟨fun q => ⟨rfl, hR⟩, fun q1 => ⟨fun q => ⟨rfl, hR⟩, fun q2 => ⟨fun q => ⟨rfl, hR⟩, fun q3 => absurd ?_ h⟩⟩⟩
      rw [iP_iff (by omega)]
      rw [i_lt0] at q1
      rw [r2, Int32.le_iff_toInt_le, nI_toInt (by omega)] at q2
      rw [Int32.le_iff_toInt_le, show (24 : Int32).toInt = 24 from rfl] at q3
      omega
end PS
