/-! ===== public calls: keep, row, taken, feed ===== -/
theorem rS1.off {nb d : Nat} {I I' : zIM} {L L' : zLM} (h : rS1 nb d I L) (h1 : ∀ b, I' (31 + 2 * d) b = I (31 + 2 * d) b) (h2 : I' 65 d = I 65 d) (h3 : I' 66 d = I 66 d) (h4 : ∀ b, b < 60 → L' (32 + 2 * d) b = L (32 + 2 * d) b) (h5 : ∀ i, i < 60 → L' 67 (60 * d + i) = L 67 (60 * d + i)) : rS1 nb d I' L' := by
  rcases h with ⟨a, b⟩ | ⟨b, a1, a2, a3, a4⟩ | ⟨s, n, a1, a2, a3, a4, a5, a6, a7⟩
  · exact Or.inl ⟨(h1 _).trans a, h2.trans b⟩
  · exact Or.inr (Or.inl ⟨b, a1, (h1 _).trans a2, (h1 _).trans a3, h2.trans a4⟩)
  · exact Or.inr (Or.inr ⟨s, n, a1, a2, (h1 _).trans a3, (h1 _).trans a4, h2.trans a5, h3.trans a6, fun i hi => by rw [h4 _ (by omega), h5 _ (by omega)]; exact a7 i hi⟩)
/-- a shelf's cells, both sides, with a new content -/
def xSh (I : zIM) (q : Nat) (a b c e f : Int32) : zIM := xI (xI (xI (xI (xI I (31 + 2 * q) 0 a) (31 + 2 * q) 1 b) (31 + 2 * q) 2 c) 65 q e) 66 q f
theorem xSh_ne {I : zIM} {q : Nat} {a b c e f : Int32} {x y : Nat} (h1 : x ≠ 31 + 2 * q) (h2 : ¬ (x = 65 ∧ y = q)) (h3 : ¬ (x = 66 ∧ y = q)) : xSh I q a b c e f x y = I x y := by
  unfold xSh
  rw [xI_ne h3, xI_ne h2, xI_ne (fun z => h1 z.1), xI_ne (fun z => h1 z.1), xI_ne (fun z => h1 z.1)]
theorem rel_sh {v : Vw} {o : Lw} {nb q : Nat} {I : zIM} {L L' : zLM} {a b c e f : Int32} (hq : q < 6) (hv : vOk v) (hG : cG v I) (hF : cF v I) (hM : mG v I) (hLw : rLaw o I) (hNm : rNum v o I) (hTp : rTp I) (hDd : rDd v I) (hIm : rIm v I) (hCh : rCh v I) (hBd : rBd nb I) (hTr : rTr I) (hSh : rSh nb I L)
    (h : rS1 nb q (xSh I q a b c e f) L') (hL : ∀ d, d < 6 → d ≠ q → (∀ z, z < 60 → L' (32 + 2 * d) z = L (32 + 2 * d) z) ∧ ∀ z, z < 60 → L' 67 (60 * d + z) = L 67 (60 * d + z)) : Rel (xSh I q a b c e f) L' := by
  refine ⟨v, o, nb, hv, hG.off (fun x y h1 h8 => xSh_ne (by omega) (by omega) (by omega)), hF.off (fun _ => xSh_ne (by omega) (by omega) (by omega)), hM.off (xSh_ne (by omega) (by omega) (by omega)) (xSh_ne (by omega) (by omega) (by omega)) (fun x y h => xSh_ne (by omega) (by omega) (by omega)), hLw.off (xSh_ne (by omega) (by omega) (by omega)) (fun _ => xSh_ne (by omega) (by omega) (by omega)) (xSh_ne (by omega) (by omega) (by omega)) (fun _ => xSh_ne (by omega) (by omega) (by omega)), hNm.off (xSh_ne (by omega) (by omega) (by omega)) (fun _ => xSh_ne (by omega) (by omega) (by omega)), hTp.off (xSh_ne (by omega) (by omega) (by omega)) (xSh_ne (by omega) (by omega) (by omega)) (fun x y h => xSh_ne (by omega) (by omega) (by omega)), hDd.off (fun _ _ => xSh_ne (by omega) (by omega) (by omega)) (fun _ _ _ => xSh_ne (by omega) (by omega) (by omega)), hIm.off (fun _ _ _ => xSh_ne (by omega) (by omega) (by omega)) (fun _ _ _ => xSh_ne (by omega) (by omega) (by omega)), hCh.off (Nat.le_refl _) (xSh_ne (by omega) (by omega) (by omega)) (xSh_ne (by omega) (by omega) (by omega)) (xSh_ne (by omega) (by omega) (by omega)) (xSh_ne (by omega) (by omega) (by omega)) (fun x y h => xSh_ne (by omega) (by omega) (by omega)), hBd.off (xSh_ne (by omega) (by omega) (by omega)) (xSh_ne (by omega) (by omega) (by omega)) (fun x y h => xSh_ne (by omega) (by omega) (by omega)), hTr.off (xSh_ne (by omega) (by omega) (by omega)) (xSh_ne (by omega) (by omega) (by omega)) (fun x y h => xSh_ne (by omega) (by omega) (by omega)), fun d hd => ?_⟩
  by_cases e : d = q
  · subst e
    exact h
  · exact (hSh d hd).off (fun _ => xSh_ne (by omega) (by omega) (by omega)) (xSh_ne (by omega) (by omega) (by omega)) (xSh_ne (by omega) (by omega) (by omega)) (hL d hd e).1 (hL d hd e).2
section PK
variable {l : Launch} {G : zG}
theorem cIsBody9 {d n : Nat} {I : zIM} {L : zLM} (x : Int32) (hn : n ≤ 50) (h : I 44 40 = nI n) (hd : 1 ≤ d) : zCi l G d mX9_isBody [.ref 44, .int x] I L (zB (iP x n) I L) := by
  have e0 : (x.toInt64 < 0 ↔ x.toInt < 0) := by rw [Int64.lt_iff_toInt_lt, Int32.toInt_toInt64, Int64.toInt_zero]
  have e1 : ((nI n - 1).toInt64 < x.toInt64 ↔ (n : Int) - 1 < x.toInt) := by rw [Int64.lt_iff_toInt_lt, Int32.toInt_toInt64, Int32.toInt_toInt64, nI_m n (by omega)]
  refine t_X9_isBody ⟨0, zB (iP x n) I L, hd, ?_, ?_⟩
  · rw [h]
    refine t_X9_within ⟨fun c => zB.n ?_, fun c => ⟨fun c2 => zB.n ?_, fun c2 => zB.y ?_⟩⟩
    · rw [iP_iff (by omega)]; rw [e0] at c; omega
    · rw [iP_iff (by omega)]; rw [e1] at c2; omega
    · rw [iP_iff (by omega)]; rw [e0] at c; rw [e1] at c2; omega
  · rintro y _ _ ⟨hy, rfl, rfl⟩
    exact ⟨hy.elim (fun z => Or.inr z.1) (fun z => Or.inl z.1), hy, rfl, rfl⟩
theorem s_keep (x1 x2 : Int32) : zStep l G mX8_keep mX9_keep [.int x1, .int x2] := by
  rintro I L ⟨v, o, nb, hv, hG, hF, hM, hLw, hNm, hTp, hDd, hIm, hCh, hBd, hTr, hSh⟩
  have hR : Rel I L := ⟨v, o, nb, hv, hG, hF, hM, hLw, hNm, hTp, hDd, hIm, hCh, hBd, hTr, hSh⟩
  obtain ⟨b1, b2, b3, -⟩ := id hBd
  by_cases h1 : iN x1 0 5
  · obtain ⟨q, q0, q5, rfl⟩ := h1
    by_cases hm : x2 = -1
    · subst hm
      refine ⟨fun y I' L' => 1 = y ∧ xI (xI (xI I (31 + 2 * q) 0 (-2)) (31 + 2 * q) 1 (-1)) (31 + 2 * q) 2 0 = I' ∧ L = L', ?_, ?_⟩
      · refine t_X8_keep ⟨0, _, by decide, cWithin8 (nI q) 5 (by decide), ?_⟩
        rintro y _ _ ⟨hy, rfl, rfl⟩
        obtain rfl := zB_t hy ⟨q, q0, q5, rfl⟩
        refine ⟨fun c => absurd c (by decide), fun _ => ⟨fun c => absurd c (by decide), fun _ => ⟨fun _ => ⟨q, rfl, by omega, 0, zU (xI (xI (xI I (31 + 2 * q) 0 (-2)) (31 + 2 * q) 1 (-1)) (31 + 2 * q) 2 0) L, by decide, t_X5_holdBody (by omega) ⟨fun c => absurd c (by decide), fun _ => ⟨rfl, rfl⟩⟩, ?_⟩, fun c => absurd ?_ c⟩⟩⟩
        · rintro _ _ ⟨rfl, rfl⟩; exact ⟨rfl, rfl, rfl⟩
        · rw [b2, Int32.lt_iff_toInt_lt, nI_toInt (by omega), show (-1 : Int32).toInt = -1 from by decide]; omega
      · rintro _ _ _ ⟨rfl, rfl, rfl⟩
        refine t_X9_keep ⟨1, _, by decide, cIsShelf9 (nI q) (Nat.le_refl 1), ?_⟩
        rintro y _ _ ⟨hy, rfl, rfl⟩
        obtain rfl := zB_t hy ⟨q, q0, q5, rfl⟩
        refine ⟨fun c => absurd c (by decide), fun _ => ⟨fun _ => ⟨q, rfl, by omega, rfl, ?_⟩, fun c => absurd rfl c⟩⟩
        refine rel_sh (a := -2) (b := -1) (c := 0) (e := -1) (f := 0) (q := q) (by omega) hv hG hF hM hLw hNm hTp hDd hIm hCh hBd hTr hSh (Or.inl ⟨?_, ?_⟩) (fun _ _ _ => ⟨fun _ _ => rfl, fun _ _ => rfl⟩)
        · unfold xSh; rw [xI_ne (by omega), xI_ne (by omega), xI_ne (by omega), xI_ne (by omega), xI_eq]
        · unfold xSh; rw [xI_ne (by omega), xI_eq]
    · by_cases h2 : iP x2 nb
      · obtain ⟨k, hk, rfl⟩ := h2
        refine ⟨fun y I' L' => 1 = y ∧ xI (xI (xI I (31 + 2 * q) 0 (-1)) (31 + 2 * q) 1 (nI k)) (31 + 2 * q) 2 0 = I' ∧ L = L', ?_, ?_⟩
        · refine t_X8_keep ⟨0, _, by decide, cWithin8 (nI q) 5 (by decide), ?_⟩
          rintro y _ _ ⟨hy, rfl, rfl⟩
          obtain rfl := zB_t hy ⟨q, q0, q5, rfl⟩
          refine ⟨fun c => absurd c (by decide), fun _ => ⟨fun c => absurd c ?_, fun _ => ⟨fun _ => ⟨q, rfl, by omega, 0, zU (xI (xI (xI I (31 + 2 * q) 0 (-1)) (31 + 2 * q) 1 (nI k)) (31 + 2 * q) 2 0) L, by decide, t_X5_holdBody (by omega) ⟨fun _ => ⟨rfl, rfl⟩, fun c => absurd (nI_pos' (by omega)) c⟩, ?_⟩, fun c => absurd ?_ c⟩⟩⟩
          · rw [Int32.lt_iff_toInt_lt, nI_toInt (by omega), show (-1 : Int32).toInt = -1 from by decide]; omega
          · rintro _ _ ⟨rfl, rfl⟩; exact ⟨rfl, rfl, rfl⟩
          · rw [b2]; exact nI_lt hk (by omega)
        · rintro _ _ _ ⟨rfl, rfl, rfl⟩
          refine t_X9_keep ⟨1, _, by decide, cIsShelf9 (nI q) (Nat.le_refl 1), ?_⟩
          rintro y _ _ ⟨hy, rfl, rfl⟩
          obtain rfl := zB_t hy ⟨q, q0, q5, rfl⟩
          refine ⟨fun c => absurd c (by decide), fun _ => ⟨fun c => absurd c hm, fun _ => ⟨1, _, by decide, cIsBody9 (n := nb) (nI k) b1 ?_ (Nat.le_refl 1), ?_⟩⟩⟩
          · rw [xI_ne (by omega), xI_ne (by omega), xI_ne (by omega)]; exact b3
          · rintro y _ _ ⟨hy, rfl, rfl⟩
            obtain rfl := zB_t hy ⟨k, hk, rfl⟩
            refine ⟨fun _ => ⟨q, rfl, by omega, rfl, ?_⟩, fun c => absurd c (by decide)⟩
            refine rel_sh (a := -1) (b := nI k) (c := 0) (e := nI k) (f := 0) (q := q) (by omega) hv hG hF hM hLw hNm hTp hDd hIm hCh hBd hTr hSh (Or.inr (Or.inl ⟨k, hk, ?_, ?_, ?_⟩)) (fun _ _ _ => ⟨fun _ _ => rfl, fun _ _ => rfl⟩)
            · unfold xSh; rw [xI_ne (by omega), xI_ne (by omega), xI_ne (by omega), xI_ne (by omega), xI_eq]
            · unfold xSh; rw [xI_ne (by omega), xI_ne (by omega), xI_ne (by omega), xI_eq]
            · unfold xSh; rw [xI_ne (by omega), xI_eq]
      · refine ⟨fun y I' L' => -1 = y ∧ I = I' ∧ L = L', ?_, ?_⟩
        · refine t_X8_keep ⟨0, _, by decide, cWithin8 (nI q) 5 (by decide), ?_⟩
          rintro y _ _ ⟨hy, rfl, rfl⟩
          obtain rfl := zB_t hy ⟨q, q0, q5, rfl⟩
          refine ⟨fun c => absurd c (by decide), fun _ => ⟨fun c => ⟨rfl, rfl, rfl⟩, fun e1 => ⟨fun e2 => absurd ?_ h2, fun c => ⟨rfl, rfl, rfl⟩⟩⟩⟩
          rw [iP_iff (by omega)]
          rw [Int32.lt_iff_toInt_lt, show (-1 : Int32).toInt = -1 from by decide] at e1
          rw [b2, Int32.lt_iff_toInt_lt, nI_toInt (by omega)] at e2
          have : x2.toInt ≠ -1 := fun z => hm (Int32.toInt_inj.mp (z.trans (by decide)))
          omega
        · rintro _ _ _ ⟨rfl, rfl, rfl⟩
          refine t_X9_keep ⟨1, _, by decide, cIsShelf9 (nI q) (Nat.le_refl 1), ?_⟩
          rintro y _ _ ⟨hy, rfl, rfl⟩
          obtain rfl := zB_t hy ⟨q, q0, q5, rfl⟩
          refine ⟨fun c => absurd c (by decide), fun _ => ⟨fun c => absurd c hm, fun _ => ⟨1, _, by decide, cIsBody9 (n := nb) x2 b1 b3 (Nat.le_refl 1), ?_⟩⟩⟩
          rintro y _ _ ⟨hy, rfl, rfl⟩
          obtain rfl := zB_f hy h2
          exact ⟨fun c => absurd rfl c, fun _ => ⟨rfl, hR⟩⟩
  · refine ⟨fun y I' L' => -1 = y ∧ I = I' ∧ L = L', ?_, ?_⟩
    · refine t_X8_keep ⟨0, _, by decide, cWithin8 x1 5 (by decide), ?_⟩
      rintro y _ _ ⟨hy, rfl, rfl⟩
      obtain rfl := zB_f hy h1
      exact ⟨fun _ => ⟨rfl, rfl, rfl⟩, fun c => absurd rfl c⟩
    · rintro _ _ _ ⟨rfl, rfl, rfl⟩
      refine t_X9_keep ⟨1, _, by decide, cIsShelf9 x1 (Nat.le_refl 1), ?_⟩
      rintro y _ _ ⟨hy, rfl, rfl⟩
      obtain rfl := zB_f hy h1
      exact ⟨fun _ => ⟨rfl, hR⟩, fun c => absurd rfl c⟩
theorem s_feed (x : Int32) : zStep l G mX8_feed mX9_feed [.int x] := by
  rintro I L ⟨v, o, nb, hv, hG, hF, hM, hLw, hNm, hTp, hDd, hIm, hCh, hBd, hTr, hSh⟩
  have hR : Rel I L := ⟨v, o, nb, hv, hG, hF, hM, hLw, hNm, hTp, hDd, hIm, hCh, hBd, hTr, hSh⟩
  obtain ⟨n, n1, t1, t2, t3⟩ := id hTp
  by_cases h1 : iN x 0 255
  · obtain ⟨k, k0, k5, rfl⟩ := h1
    by_cases hb : n < 120
    · refine ⟨fun y I' L' => nI (n + 1) = y ∧ xI (xI I 10 n (nI k)) 9 0 (nI (n + 1)) = I' ∧ L = L', ?_, ?_⟩
      · refine t_X8_feed ⟨0, _, by decide, cWithin8 (nI k) 255 (by decide), ?_⟩
        rintro y _ _ ⟨hy, rfl, rfl⟩
        obtain rfl := zB_t hy ⟨k, k0, k5, rfl⟩
        refine ⟨fun c => absurd c (by decide), fun _ => ⟨0, fun y I' L' => nI (n + 1) = y ∧ xI (xI I 10 n (nI k)) 9 0 (nI (n + 1)) = I' ∧ L = L', by decide, t_X3_take ⟨fun c => ⟨n, t1, hb, ?_, ?_, rfl⟩, fun c => absurd ?_ c⟩, fun _ _ _ h => h⟩⟩
        · rw [t1, nI_1]
        · rw [t1, nI_1]
        · rw [t1]; exact nI_lt (b := 120) hb (by decide)
      · rintro y _ _ ⟨rfl, rfl, rfl⟩
        refine t_X9_feed ⟨0, _, by decide, cWithin9 (nI k) 0 255 (by decide) (by decide), ?_⟩
        rintro y _ _ ⟨hy, rfl, rfl⟩
        obtain rfl := zB_t hy ⟨k, k0, k5, rfl⟩
        have t2' : (xI (xI I 10 n (nI k)) 9 0 (nI (n + 1))) 44 13 = nI n := t2
        refine ⟨fun _ => ⟨fun c => ⟨n, t2, hb, ?e1, v, o, nb, hv, hG.off (fun a b h1 h8 => ?_), hF.off (fun _ => rfl), hM.off rfl rfl (fun a b h => ?_), hLw.off rfl (fun _ => rfl) rfl (fun _ => rfl), hNm.off rfl (fun _ => rfl), ⟨n + 1, by omega, rfl, ?e2, fun i hi => ?e3⟩, hDd.off (fun _ _ => rfl) (fun _ _ _ => ?_), hIm.off (fun _ _ _ => rfl) (fun _ _ _ => ?_), hCh.off (Nat.le_refl _) rfl rfl rfl rfl (fun a b h => ?_), hBd.off rfl rfl (fun a b h => ?_), hTr.off rfl rfl (fun a b h => ?_), hSh.off (by omega) (fun a b h => ?_) (fun _ _ _ => rfl)⟩, fun c => ?e4⟩, fun c => absurd c (by decide)⟩
        case e1 => rw [t2', nI_1]
        case e2 =>
          rw [t2']
          exact nI_1 n
        case e3 =>
          by_cases e : i = n
          · subst e
            exact ⟨k, k5, by rw [xI_ne (by omega), xI_ne (by omega), xI_ne (by omega), xI_eq], by rw [xI_ne (by omega), xI_eq]⟩
          · obtain ⟨j, j1, j2, j3⟩ := t3 i (by omega)
            exact ⟨j, j1, by rw [xI_ne (by omega), xI_ne (by omega), xI_ne (by omega), xI_ne (by omega)]; exact j2, by rw [xI_ne (by omega), xI_ne (by omega), xI_ne (by omega), xI_ne (by omega)]; exact j3⟩
        case e4 =>
          rw [t2', show (120 : Int32) = nI 120 from rfl, nI_eq_iff (by omega) (by omega)] at c
          omega
        all_goals rw [xI_ne (by omega), xI_ne (by omega), xI_ne (by omega), xI_ne (by omega)]
    · have hb5 : n = 120 := by omega
      subst hb5
      refine ⟨fun y I' L' => -3 = y ∧ I = I' ∧ L = L', ?_, ?_⟩
      · refine t_X8_feed ⟨0, _, by decide, cWithin8 (nI k) 255 (by decide), ?_⟩
        rintro y _ _ ⟨hy, rfl, rfl⟩
        obtain rfl := zB_t hy ⟨k, k0, k5, rfl⟩
        refine ⟨fun c => absurd c (by decide), fun _ => ⟨0, fun y I' L' => -3 = y ∧ I = I' ∧ L = L', by decide, t_X3_take ⟨fun c => absurd c ?_, fun c => ⟨rfl, rfl, rfl⟩⟩, fun _ _ _ h => h⟩⟩
        rw [t1]; decide
      · rintro y _ _ ⟨rfl, rfl, rfl⟩
        refine t_X9_feed ⟨0, _, by decide, cWithin9 (nI k) 0 255 (by decide) (by decide), ?_⟩
        rintro y _ _ ⟨hy, rfl, rfl⟩
        obtain rfl := zB_t hy ⟨k, k0, k5, rfl⟩
        exact ⟨fun _ => ⟨fun c => absurd t2 c, fun _ => ⟨rfl, hR⟩⟩, fun c => absurd c (by decide)⟩
  · refine ⟨fun y I' L' => -1 = y ∧ I = I' ∧ L = L', ?_, ?_⟩
    · refine t_X8_feed ⟨0, _, by decide, cWithin8 x 255 (by decide), ?_⟩
      rintro y _ _ ⟨hy, rfl, rfl⟩
      obtain rfl := zB_f hy h1
      exact ⟨fun _ => ⟨rfl, rfl, rfl⟩, fun c => absurd rfl c⟩
    · rintro y _ _ ⟨rfl, rfl, rfl⟩
      refine t_X9_feed ⟨0, _, by decide, cWithin9 x 0 255 (by decide) (by decide), ?_⟩
      rintro y _ _ ⟨hy, rfl, rfl⟩
      obtain rfl := zB_f hy h1
      exact ⟨fun c => absurd rfl c, fun _ => ⟨rfl, hR⟩⟩
end PK
