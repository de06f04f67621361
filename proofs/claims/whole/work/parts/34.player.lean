/-! ===== public call: player ===== -/
/-- the reference's cells, one player more -/
def mAd (v : Vw) (I : zIM) (h y : Nat) : zIM := xI (xI (xI (xI (xI (xI I 45 (vn v) (nI h)) 45 (4 + vn v) (nI y)) 45 (8 + vn v) 0) 49 (vn v) (nI (vn v))) 50 (vn v) (nI (vn v))) 44 6 (nI (vn v + 1))
theorem mAd_ne {v : Vw} {I : zIM} {h y a b : Nat} (h1 : ¬ (a = 45 ∧ (b = vn v ∨ b = 4 + vn v ∨ b = 8 + vn v))) (h2 : ¬ ((a = 49 ∨ a = 50) ∧ b = vn v)) (h3 : ¬ (a = 44 ∧ b = 6)) : mAd v I h y a b = I a b := by
  unfold mAd
  rw [xI_ne (by omega), xI_ne (by omega), xI_ne (by omega), xI_ne (by omega), xI_ne (by omega), xI_ne (by omega)]
theorem mAd_m {v : Vw} {I : zIM} {h y : Nat} (hv : vOk v) (hM : mG v I) (hn : vn v < 4) : mG (vCome v h y) (mAd v I h y) := by
  obtain ⟨a, b, c, e, f, g, i, j, k⟩ := hM
  refine ⟨xI_eq, (mAd_ne (by omega) (by omega) (by omega)).trans b, fun p hp => ?_, fun p hp => ?_, fun p hp => ?_, fun q hq => ?_, fun q hq => ?_, fun m hm => (mAd_ne (by omega) (by omega) (by omega)).trans (j m hm), fun z => ?_⟩
  · show _ = nI (wU (vH v) (vn v) h p)
    by_cases hp2 : p = vn v
    · subst hp2
      rw [wU_eq]; unfold mAd
      rw [xI_ne (by omega), xI_ne (by omega), xI_ne (by omega), xI_ne (by omega), xI_ne (by omega), xI_eq]
    · rw [wU_ne hp2, mAd_ne (by omega) (by omega) (by omega)]; exact c p hp
  · show _ = nI (wU (vY v) (vn v) y p)
    by_cases hp2 : p = vn v
    · subst hp2
      rw [wU_eq]; unfold mAd
      rw [xI_ne (by omega), xI_ne (by omega), xI_ne (by omega), xI_ne (by omega), xI_eq]
    · rw [wU_ne hp2, mAd_ne (by omega) (by omega) (by omega)]; exact e p hp
  · show _ = nI (vT v p)
    by_cases hp2 : p = vn v
    · subst hp2
      rw [hv.2.2.2.2.2.2.2 _ (Nat.le_refl _)]; unfold mAd
      rw [xI_ne (by omega), xI_ne (by omega), xI_ne (by omega), xI_eq]; rfl
    · rw [mAd_ne (by omega) (by omega) (by omega)]; exact f p hp
  · show _ = nI (wU (vO v) (vn v) (vn v) q)
    have hq : q < vn v + 1 := hq
    by_cases hp2 : q = vn v
    · subst hp2
      rw [wU_eq]; unfold mAd
      rw [xI_ne (by omega), xI_ne (by omega), xI_eq]
    · rw [wU_ne hp2, mAd_ne (by omega) (by omega) (by omega)]; exact g q (by omega)
  · show _ = nI (wU (vP v) (vn v) (vn v) q)
    have hq : q < vn v + 1 := hq
    by_cases hp2 : q = vn v
    · subst hp2
      rw [wU_eq]; unfold mAd
      rw [xI_ne (by omega), xI_eq]
    · rw [wU_ne hp2, mAd_ne (by omega) (by omega) (by omega)]; exact i q (by omega)
  · exact absurd (show vn v + 1 = 0 from z) (by omega)
theorem cSt_ne {v : Vw} {I : zIM} {a b : Nat} (h : ¬ (a = 20 ∧ b < 3)) : cSt v I a b = I a b := by
  unfold cSt
  rw [xI_ne (by omega), xI_ne (by omega), xI_ne (by omega)]
theorem mSt_ne {v : Vw} {I : zIM} {a b : Nat} (h : ¬ (a = 44 ∧ (b = 33 ∨ b = 34 ∨ b = 35))) : mSt v I a b = I a b := by
  unfold mSt
  rw [xI_ne (by omega), xI_ne (by omega), xI_ne (by omega)]
/-- one more, on both sides -/
theorem rel_ad {v : Vw} {o : Lw} {nb h y : Nat} {I I1 : zIM} {L L1 : zLM} {r : Int32} (hn : vn v < 4) (hh : h ≤ 12) (hy : y ≤ 5) (hv : vOk v) (hM : mG v I) (hLw : rLaw o I) (hTp : rTp I) (hCh : rCh v I) (hBd : rBd nb I) (hTr : rTr I) (hSh : rSh nb I L) (hq : qCome v h y I L r I1 L1) : Rel (mSt (vCome v h y) (xI (mAd v (xI (cSt (vCome v h y) (xI I1 14 8 0)) 20 4 0) h y) 44 36 0)) L1 := by
  obtain ⟨-, hL, ho, hG1, hF1⟩ := hq
  subst hL
  have hv1 := vCome_ok hv hn hh hy
  have k1 : ∀ a b, ¬ (a = 20 ∧ b < 5) → ¬ (a = 14 ∧ b = 8) → xI (cSt (vCome v h y) (xI I1 14 8 0)) 20 4 0 a b = I1 a b := fun a b h1 h2 => by rw [xI_ne (by omega), cSt_ne (by omega), xI_ne (by omega)]
  have k2 : ∀ a b, (a = 44 → b ≠ 6 ∧ b ≠ 33 ∧ b ≠ 34 ∧ b ≠ 35 ∧ b ≠ 36) → a ≠ 45 → a ≠ 49 → a ≠ 50 → mSt (vCome v h y) (xI (mAd v (xI (cSt (vCome v h y) (xI I1 14 8 0)) 20 4 0) h y) 44 36 0) a b = xI (cSt (vCome v h y) (xI I1 14 8 0)) 20 4 0 a b := fun a b h1 h2 h3 h4 => by rw [mSt_ne (by omega), xI_ne (by omega), mAd_ne (by omega) (by omega) (by omega)]
  have off : ∀ a b, 9 ≤ a → ¬ (a = 14 ∧ b = 8) → ¬ (a = 20 ∧ b < 5) → (a = 44 → b ≠ 6 ∧ b ≠ 33 ∧ b ≠ 34 ∧ b ≠ 35 ∧ b ≠ 36) → a ≠ 45 → a ≠ 49 → a ≠ 50 → mSt (vCome v h y) (xI (mAd v (xI (cSt (vCome v h y) (xI I1 14 8 0)) 20 4 0) h y) 44 36 0) a b = I a b := fun a b q1 q2 q3 q4 q5 q6 q7 => by rw [k2 a b q4 q5 q6 q7, k1 a b q3 q2, ho a b (by omega)]
  have hMk : mG v (xI (cSt (vCome v h y) (xI I1 14 8 0)) 20 4 0) := hM.off (by rw [k1 _ _ (by omega) (by omega), ho _ _ (by omega)]) (by rw [k1 _ _ (by omega) (by omega), ho _ _ (by omega)]) (fun a b _ => by rw [k1 _ _ (by omega) (by omega), ho _ _ (by omega)])
  have hM1 := mAd_m (h := h) (y := y) hv hMk hn
  have f0 := mFirst hv1 hM1
  refine ⟨vCome v h y, o, nb, hv1, hG1.off (fun a b q1 q2 => ?_), hF1.off (fun b => ?_), hM1.off ?_ ?_ (fun a b q => ?_), hLw.off (off _ _ (by omega) (by omega) (by omega) (by omega) (by omega) (by omega) (by omega)) (fun b => off _ _ (by omega) (by omega) (by omega) (by omega) (by omega) (by omega) (by omega)) (off _ _ (by omega) (by omega) (by omega) (by omega) (by omega) (by omega) (by omega)) (fun b => off _ _ (by omega) (by omega) (by omega) (by omega) (by omega) (by omega) (by omega)), Or.inl ?_,
    hTp.off (off _ _ (by omega) (by omega) (by omega) (by omega) (by omega) (by omega) (by omega)) (off _ _ (by omega) (by omega) (by omega) (by omega) (by omega) (by omega) (by omega)) (fun a b q => off _ _ (by omega) (by omega) (by omega) (by omega) (by omega) (by omega) (by omega)),
    ⟨bAll (vn (vCome v h y)), 0, vFirst (vCome v h y) (bAll (vn (vCome v h y))), dStart hv1, ?_, ?_, ?_, ?_, ?_, ?_⟩, Or.inl ⟨?_, ?_⟩,
    hCh.off (Nat.le_succ _) (off _ _ (by omega) (by omega) (by omega) (by omega) (by omega) (by omega) (by omega)) (off _ _ (by omega) (by omega) (by omega) (by omega) (by omega) (by omega) (by omega)) (off _ _ (by omega) (by omega) (by omega) (by omega) (by omega) (by omega) (by omega)) (off _ _ (by omega) (by omega) (by omega) (by omega) (by omega) (by omega) (by omega)) (fun a b q => off _ _ (by omega) (by omega) (by omega) (by omega) (by omega) (by omega) (by omega)),
    hBd.off (off _ _ (by omega) (by omega) (by omega) (by omega) (by omega) (by omega) (by omega)) (off _ _ (by omega) (by omega) (by omega) (by omega) (by omega) (by omega) (by omega)) (fun a b q => off _ _ (by omega) (by omega) (by omega) (by omega) (by omega) (by omega) (by omega)),
    hTr.off (off _ _ (by omega) (by omega) (by omega) (by omega) (by omega) (by omega) (by omega)) (off _ _ (by omega) (by omega) (by omega) (by omega) (by omega) (by omega) (by omega)) (fun a b q => off _ _ (by omega) (by omega) (by omega) (by omega) (by omega) (by omega) (by omega)),
    hSh.off (Nat.le_refl _) (fun a b q => off _ _ (by omega) (by omega) (by omega) (by omega) (by omega) (by omega) (by omega)) (fun _ _ _ => rfl)⟩
  · rw [k2 a b (by omega) (by omega) (by omega) (by omega), k1 a b (by omega) (by omega)]
  · rw [k2 8 b (by omega) (by omega) (by omega) (by omega), k1 8 b (by omega) (by omega)]
  · rw [mSt_ne (by omega), xI_ne (by omega)]
  · rw [mSt_ne (by omega), xI_ne (by omega)]
  · rw [mSt_ne (by omega), xI_ne (by omega)]
  · rw [k2 14 8 (by omega) (by omega) (by omega) (by omega), xI_ne (by omega), cSt_ne (by omega), xI_eq]
  · rw [k2 20 0 (by omega) (by omega) (by omega) (by omega), xI_ne (by omega)]; rfl
  · rw [k2 20 1 (by omega) (by omega) (by omega) (by omega), xI_ne (by omega)]; rfl
  · rw [k2 20 2 (by omega) (by omega) (by omega) (by omega), xI_ne (by omega)]; rfl
  · rfl
  · rfl
  · rw [← f0]
    show xI (mAd v _ h y) 44 36 0 49 0 = _
    exact xI_ne (by omega)
  · rw [k2 20 4 (by omega) (by omega) (by omega) (by omega)]; rfl
  · rw [mSt_ne (by omega)]; rfl
section PP
variable {l : Launch} {G : zG}
/-- Fight.come: what it leaves -/
def qCm (v : Vw) (h y : Nat) (I : zIM) (L : zLM) : Int32 → zIM → zLM → Prop := fun r I' L' => r = nI (vn v) ∧ ∃ I1, qCome v h y I L r I1 L' ∧ xI (cSt (vCome v h y) (xI I1 14 8 0)) 20 4 0 = I'
theorem cCome8 {d h y : Nat} {I : zIM} {L : zLM} {v : Vw} (hv : vOk v) (hG : cG v I) (hn : vn v < 4) (hh : h ≤ 12) (hy : y ≤ 5) (hd : 3 ≤ d) : zCi l G d mX8_come [.ref 0, .int (nI h), .int (nI y)] I L (qCm v h y I L) := by
  refine t_X8_come ⟨2, _, hd, cCome hv hG hn hh hy (Nat.le_refl 2), ?_⟩
  rintro r I1 L1 hq
  have hv1 := vCome_ok hv hn hh hy
  refine ⟨0, zU (xI I1 14 8 0) L1, by omega, t_X4_forgetNumbers ⟨rfl, rfl⟩, ?_⟩
  rintro _ _ ⟨rfl, rfl⟩
  refine ⟨2, _, by omega, cStartNew hv1 (hq.2.2.2.1.off fun a b h1 h8 => xI_ne (by omega)) (Nat.le_refl 2), ?_⟩
  rintro _ _ ⟨rfl, rfl⟩
  exact ⟨hq.1, I1, hq, rfl⟩
theorem cAdds9 {d h y : Nat} {I : zIM} {L : zLM} {v : Vw} (hv : vOk v) (hM : mG v I) (hn : vn v < 4) (hh : h ≤ 12) (hy : y ≤ 5) (hd : 2 ≤ d) : zCv l G d mX9_adds [.ref 44, .int (nI h), .int (nI y)] I L (zU (mSt (vCome v h y) (xI (mAd v I h y) 44 36 0)) L) := by
  have h6 := hM.1
  have e4 : (4 : Int32) + I 44 6 = nI (4 + vn v) := by rw [h6]; exact nI_add 4 _
  have e8 : (8 : Int32) + I 44 6 = nI (8 + vn v) := by rw [h6]; exact nI_add 8 _
  have e1 : I 44 6 + (1 : Int32) = nI (vn v + 1) := by rw [h6, nI_1]
  refine t_X9_adds ⟨vn v, h6, by omega, 4 + vn v, e4, by omega, 8 + vn v, e8, by omega, hn, ?_⟩
  rw [e1, h6]
  refine ⟨1, _, hd, cStartsAnew9 (v := vCome v h y) (I := mAd v I h y) (vCome_ok hv hn hh hy) xI_eq (Nat.le_refl 1), ?_⟩
  rintro _ _ ⟨rfl, rfl⟩
  exact ⟨rfl, rfl⟩
theorem cIsOne9 (x1 x2 : Int32) {d : Nat} {I : zIM} {L : zLM} (hd : 1 ≤ d) : zCi l G d mX9_isOne [.long (x1.toInt64), .long (x2.toInt64)] I L (zB (iN x1 0 12 ∧ iN x2 0 5) I L) := by
  have one : ¬ (1 : Int32) = 0 := by decide
  refine t_X9_isOne ⟨0, _, hd, cWithin9 x1 0 12 (by omega) (by omega), ?_⟩
  rintro y _ _ ⟨hy, rfl, rfl⟩
  by_cases h1 : iN x1 0 12
  · obtain rfl := zB_t hy h1
    refine ⟨fun c => absurd c one, fun _ => ⟨0, _, hd, cWithin9 x2 0 5 (by omega) (by omega), ?_⟩⟩
    rintro y _ _ ⟨hy, rfl, rfl⟩
    by_cases h2 : iN x2 0 5
    · obtain rfl := zB_t hy h2
      exact ⟨fun c => absurd c one, fun _ => zB.y ⟨h1, h2⟩⟩
    · obtain rfl := zB_f hy h2
      exact ⟨fun _ => zB.n fun z => h2 z.2, fun c => absurd rfl c⟩
  · obtain rfl := zB_f hy h1
    exact ⟨fun _ => zB.n fun z => h1 z.1, fun c => absurd rfl c⟩
theorem s_player (x1 x2 : Int32) : zStep l G mX8_player mX9_player [.int x1, .int x2] := by
  rintro I L ⟨v, o, nb, hv, hG, hF, hM, hLw, hNm, hTp, hDd, hIm, hCh, hBd, hTr, hSh⟩
  have hR : Rel I L := ⟨v, o, nb, hv, hG, hF, hM, hLw, hNm, hTp, hDd, hIm, hCh, hBd, hTr, hSh⟩
  have hn := hv.1
  have one : ¬ (1 : Int32) = 0 := by decide
  by_cases hin : iN x1 0 12 ∧ iN x2 0 5
  · obtain ⟨⟨h, -, hh, rfl⟩, y0, -, hy0, rfl⟩ := id hin
    by_cases hn4 : vn v < 4
    · refine ⟨qCm v h y0 I L, ?_, ?_⟩
      · refine t_X8_player ⟨0, _, by omega, cWithin8 (nI h) 12 (by omega), ?_⟩
        rintro y _ _ ⟨hy, rfl, rfl⟩
        obtain rfl := zB_t hy hin.1
        refine ⟨fun c => absurd c one, fun _ => ⟨0, _, by omega, cWithin8 (nI y0) 5 (by omega), ?_⟩⟩
        rintro y _ _ ⟨hy, rfl, rfl⟩
        obtain rfl := zB_t hy hin.2
        refine ⟨fun _ => ⟨fun _ => ⟨3, _, by omega, cCome8 hv hG hn4 hh hy0 (Nat.le_refl 3), fun _ _ _ h => h⟩, fun c => absurd ?_ c⟩, fun c => absurd c one⟩
        rw [hG.1]
        exact (show nI (vn v) < nI 4 from nI_lt (by omega) (by omega))
      · rintro _ _ L1 ⟨rfl, I1, hq, rfl⟩
        have k1 : ∀ a b, 9 ≤ a → ¬ (a = 20 ∧ b < 5) → ¬ (a = 14 ∧ b = 8) → xI (cSt (vCome v h y0) (xI I1 14 8 0)) 20 4 0 a b = I a b := fun a b h0 h1 h2 => by rw [xI_ne (by omega), cSt_ne (by omega), xI_ne (by omega), hq.2.2.1 a b (by omega)]
        have hMk : mG v (xI (cSt (vCome v h y0) (xI I1 14 8 0)) 20 4 0) := hM.off (k1 _ _ (by omega) (by omega) (by omega)) (k1 _ _ (by omega) (by omega) (by omega)) (fun a b _ => k1 _ _ (by omega) (by omega) (by omega))
        refine t_X9_player ⟨1, _, by omega, cIsOne9 (nI h) (nI y0) (Nat.le_refl 1), ?_⟩
        rintro y _ _ ⟨hy, rfl, rfl⟩
        obtain rfl := zB_t hy hin
        refine ⟨fun _ => ⟨fun _ => ⟨2, _, by omega, cAdds9 hv hMk hn4 hh hy0 (Nat.le_refl 2), ?_⟩, fun c => ?_⟩, fun c => absurd c one⟩
        · rintro _ _ ⟨rfl, rfl⟩
          refine ⟨?_, rel_ad hn4 hh hy0 hv hM hLw hTp hCh hBd hTr hSh hq⟩
          rw [mSt_ne (by omega), xI_ne (by omega), show mAd v (xI (cSt (vCome v h y0) (xI I1 14 8 0)) 20 4 0) h y0 44 6 = nI (vn v + 1) from xI_eq, nI_pred]
        · rw [hMk.1] at c
          exact absurd (nI_inj (b := 4) (by omega) (by omega) c) (by omega)
    · refine ⟨zE (-3) I L, ?_, ?_⟩
      · refine t_X8_player ⟨0, _, by omega, cWithin8 (nI h) 12 (by omega), ?_⟩
        rintro y _ _ ⟨hy, rfl, rfl⟩
        obtain rfl := zB_t hy hin.1
        refine ⟨fun c => absurd c one, fun _ => ⟨0, _, by omega, cWithin8 (nI y0) 5 (by omega), ?_⟩⟩
        rintro y _ _ ⟨hy, rfl, rfl⟩
        obtain rfl := zB_t hy hin.2
        refine ⟨fun _ => ⟨fun c => absurd c ?_, fun _ => zE.of rfl⟩, fun c => absurd c one⟩
        rw [hG.1]
        exact (show ¬ nI (vn v) < nI 4 from nI_nlt (by omega) (by omega))
      · rintro _ _ _ ⟨rfl, rfl, rfl⟩
        refine t_X9_player ⟨1, _, by omega, cIsOne9 (nI h) (nI y0) (Nat.le_refl 1), ?_⟩
        rintro y _ _ ⟨hy, rfl, rfl⟩
        obtain rfl := zB_t hy hin
        refine ⟨fun _ => ⟨fun c => absurd ?_ c, fun _ => ⟨rfl, hR⟩⟩, fun c => absurd c one⟩
        rw [hM.1, show vn v = 4 by omega]; rfl
  · refine ⟨zE (-1) I L, ?_, ?_⟩
    · refine t_X8_player ⟨0, _, by omega, cWithin8 x1 12 (by omega), ?_⟩
      rintro y _ _ ⟨hy, rfl, rfl⟩
      by_cases h1 : iN x1 0 12
      · obtain rfl := zB_t hy h1
        refine ⟨fun c => absurd c one, fun _ => ⟨0, _, by omega, cWithin8 x2 5 (by omega), ?_⟩⟩
        rintro y _ _ ⟨hy, rfl, rfl⟩
        obtain rfl := zB_f hy (fun z => hin ⟨h1, z⟩)
        exact ⟨fun c => absurd rfl c, fun _ => zE.of rfl⟩
      · obtain rfl := zB_f hy h1
        exact ⟨fun _ => zE.of rfl, fun c => absurd rfl c⟩
    · rintro _ _ _ ⟨rfl, rfl, rfl⟩
      refine t_X9_player ⟨1, _, by omega, cIsOne9 x1 x2 (Nat.le_refl 1), ?_⟩
      rintro y _ _ ⟨hy, rfl, rfl⟩
      obtain rfl := zB_f hy hin
      exact ⟨fun c => absurd rfl c, fun _ => ⟨rfl, hR⟩⟩
end PP
