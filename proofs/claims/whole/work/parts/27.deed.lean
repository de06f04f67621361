/-! ===== public calls: image, anew, back, bell, of ===== -/
theorem b_hi {s p : Nat} (hs : s < 16) (hp : 4 ≤ p) : bIn s p = false := Nat.testBit_lt_two_pow (Nat.lt_of_lt_of_le hs (Nat.pow_le_pow_right (by decide) hp : 2 ^ 4 ≤ 2 ^ p))
theorem vFirst_all {v : Vw} (hv : vOk v) (hn : 0 < vn v) : vFirst v (bAll (vn v)) = vO v 0 := by
  have h4 := hv.1
  have h0 := (hv.2.2.2.2.1 0 hn).1
  unfold vFirst
  obtain ⟨k, hk⟩ : ∃ k, vn v = k + 1 := ⟨vn v - 1, by omega⟩
  have e : bIn (bAll (vn v)) (vO v 0) = true := by rw [b_all_in (vn v) (by omega) _ (by omega)]; simpa using h0
  rw [show sFirst v (bAll (vn v)) (vn v) 0 = sFirst v (bAll (vn v)) (k + 1) 0 by rw [hk], sFirst, if_pos e]
theorem vFirst_none {v : Vw} (hn : vn v = 0) (s : Nat) : vFirst v s = 0 := by
  unfold vFirst
  rw [hn]
  rfl
theorem dStart {v : Vw} (hv : vOk v) : dOk v (bAll (vn v)) 0 (vFirst v (bAll (vn v))) := by
  have h4 := hv.1
  refine ⟨b_all_lt _ (by omega), fun p hp => ?_, by decide, (sFirst_lt hv _ _ _ (by omega)).1, (sFirst_lt hv _ _ _ (by omega)).2, fun h => ?_⟩
  · by_cases h : p < 4
    · rw [b_all_in _ (by omega) _ h] at hp
      simpa using hp
    · rw [b_hi (b_all_lt _ (by omega)) (by omega)] at hp
      cases hp
  · by_cases hn : 0 < vn v
    · rw [vFirst_all hv hn, b_all_in _ (by omega) _ (by have := (hv.2.2.2.2.1 0 hn).1; omega)]
      simpa using (hv.2.2.2.2.1 0 hn).1
    · rw [show vn v = 0 by omega] at h
      exact absurd h (by decide)
theorem mFirst {v : Vw} {I : zIM} (hv : vOk v) (hM : mG v I) : I 49 0 = nI (vFirst v (bAll (vn v))) := by
  by_cases hn : 0 < vn v
  · rw [vFirst_all hv hn]
    exact hM.2.2.2.2.2.1 0 hn
  · rw [vFirst_none (by omega)]
    exact (hM.2.2.2.2.2.2.2.2 (by omega)).trans nI_0.symm
/-- both begin the deed anew -/
theorem rStart {v : Vw} {I : zIM} (hv : vOk v) (h : I 49 0 = nI (vFirst v (bAll (vn v)))) : rDd v (mSt v (cSt v I)) :=
  ⟨bAll (vn v), 0, vFirst v (bAll (vn v)), dStart hv, rfl, nI_0.symm, rfl, rfl, nI_0.symm, h⟩
def cKp (I : zIM) : zIM := xI (xI (xI (xI I 20 4 1) 20 5 (I 20 0)) 20 6 (I 20 1)) 20 7 (I 20 2)
def vBl (v : Vw) (k : Nat) : Vw := (vn v, vH v, vY v, vT v, vO v, vP v, k, vZ v)
theorem vBl_ok {v : Vw} (hv : vOk v) {k : Nat} (hk : k ≤ 9) : vOk (vBl v k) := ⟨hv.1, hk, hv.2.2⟩
section PD
variable {l : Launch} {G : zG}
theorem s_image : zStep l G mX8_image mX9_image [] := by
  rintro I L ⟨v, o, nb, hv, hG, hF, hM, hLw, hNm, hTp, hDd, hIm, hCh, hBd, hTr, hSh⟩
  obtain ⟨s, t, w, hk, d1, d2, d3, d4, d5, d6⟩ := id hDd
  refine ⟨fun y I' L' => nI t = y ∧ cKp I = I' ∧ L = L', ?_, ?_⟩
  · refine t_X8_image ⟨0, zU (cKp I) L, by decide, t_X1_keepImage ⟨rfl, rfl⟩, ?_⟩
    rintro _ _ ⟨rfl, rfl⟩
    exact ⟨d2.symm, rfl, rfl⟩
  · rintro _ _ _ ⟨rfl, rfl, rfl⟩
    refine t_X9_image ⟨d5.symm, v, o, nb, hv, hG.off (fun a b h1 h8 => ?_), hF.off (fun _ => rfl), hM.off rfl rfl (fun a b h => ?_), hLw.off rfl (fun _ => rfl) rfl (fun _ => rfl), hNm.off rfl (fun _ => rfl), hTp.off rfl rfl (fun a b h => ?_), ⟨s, t, w, hk, d1, d2, d3, d4, d5, d6⟩, Or.inr ⟨rfl, rfl, s, t, w, hk, d1, d2, d3, d4, d5, d6⟩, hCh.off (Nat.le_refl _) rfl rfl rfl rfl (fun a b h => ?_), hBd.off rfl rfl (fun a b h => ?_), hTr.off rfl rfl (fun a b h => ?_), hSh.off (Nat.le_refl _) (fun a b h => ?_) (fun _ _ _ => rfl)⟩ <;>
    · unfold cKp
      rw [xI_ne (by omega), xI_ne (by omega), xI_ne (by omega), xI_ne (by omega), xI_ne (by omega), xI_ne (by omega), xI_ne (by omega), xI_ne (by omega)]
theorem s_anew : zStep l G mX8_anew mX9_anew [] := by
  rintro I L ⟨v, o, nb, hv, hG, hF, hM, hLw, hNm, hTp, hDd, hIm, hCh, hBd, hTr, hSh⟩
  obtain ⟨s, t, w, hk, d1, d2, d3, d4, d5, d6⟩ := id hDd
  refine ⟨fun y I' L' => nI t = y ∧ cSt v I = I' ∧ L = L', ?_, ?_⟩
  · refine t_X8_anew ⟨1, _, by decide, cStart hv hG (Nat.le_refl 1), ?_⟩
    rintro _ _ ⟨rfl, rfl⟩
    exact ⟨d2.symm, rfl, rfl⟩
  · rintro _ _ _ ⟨rfl, rfl, rfl⟩
    refine t_X9_anew ⟨0, _, by decide, cAll9 hv.1 hM.1, ?_⟩
    rintro _ _ _ ⟨rfl, rfl, rfl⟩
    refine ⟨d5.symm, v, o, nb, hv, hG.off (fun a b h1 h8 => ?_), hF.off (fun _ => rfl), hM.off rfl rfl (fun a b h => ?_), hLw.off rfl (fun _ => rfl) rfl (fun _ => rfl), hNm.off rfl (fun _ => rfl), hTp.off rfl rfl (fun a b h => ?_), rStart (I := I) hv (mFirst hv hM), hIm.off (fun b h1 h2 => ?_) (fun b h1 h2 => ?_), hCh.off (Nat.le_refl _) rfl rfl rfl rfl (fun a b h => ?_), hBd.off rfl rfl (fun a b h => ?_), hTr.off rfl rfl (fun a b h => ?_), hSh.off (Nat.le_refl _) (fun a b h => ?_) (fun _ _ _ => rfl)⟩ <;>
    · unfold cSt
      rw [xI_ne (by omega), xI_ne (by omega), xI_ne (by omega), xI_ne (by omega), xI_ne (by omega), xI_ne (by omega)]
theorem s_back : zStep l G mX8_back mX9_back [] := by
  rintro I L ⟨v, o, nb, hv, hG, hF, hM, hLw, hNm, hTp, hDd, hIm, hCh, hBd, hTr, hSh⟩
  have hR : Rel I L := ⟨v, o, nb, hv, hG, hF, hM, hLw, hNm, hTp, hDd, hIm, hCh, hBd, hTr, hSh⟩
  rcases id hIm with ⟨h0, h1⟩ | ⟨h0, h1, s, t, w, hk, c1, c2, c3, c4, c5, c6⟩
  · refine ⟨fun y I' L' => -5 = y ∧ I = I' ∧ L = L', ?_, ?_⟩
    · refine t_X8_back ⟨0, zE 0 I L, by decide, t_X1_takeImage ⟨fun c => ⟨Or.inl c, zE.of c⟩, fun c => absurd h0 c⟩, ?_⟩
      rintro _ _ _ ⟨rfl, rfl, rfl⟩
      exact ⟨fun _ => ⟨rfl, rfl, rfl⟩, fun c => absurd rfl c⟩
    · rintro _ _ _ ⟨rfl, rfl, rfl⟩
      exact t_X9_back ⟨fun c => absurd h1 c, fun _ => ⟨rfl, hR⟩⟩
  · refine ⟨fun y I' L' => nI t = y ∧ xI (xI (xI I 20 0 (I 20 5)) 20 1 (I 20 6)) 20 2 (I 20 7) = I' ∧ L = L', ?_, ?_⟩
    · refine t_X8_back ⟨0, fun y I' L' => 1 = y ∧ xI (xI (xI I 20 0 (I 20 5)) 20 1 (I 20 6)) 20 2 (I 20 7) = I' ∧ L = L', by decide, t_X1_takeImage ⟨fun c => ?_, fun c => ⟨Or.inr h0, h0.symm, rfl, rfl⟩⟩, ?_⟩
      · rw [h0] at c
        exact absurd c (by decide)
      · rintro _ _ _ ⟨rfl, rfl, rfl⟩
        exact ⟨fun c => absurd c (by decide), fun _ => ⟨c2.symm, rfl, rfl⟩⟩
    · rintro _ _ _ ⟨rfl, rfl, rfl⟩
      refine t_X9_back ⟨fun _ => ⟨c5.symm, v, o, nb, hv, hG.off (fun a b h1 h8 => ?_), hF.off (fun _ => rfl), hM.off rfl rfl (fun a b h => ?_), hLw.off rfl (fun _ => rfl) rfl (fun _ => rfl), hNm.off rfl (fun _ => rfl), hTp.off rfl rfl (fun a b h => ?_), ⟨s, t, w, hk, c1, c2, c3, c4, c5, c6⟩, hIm.off (fun b h1 h2 => ?_) (fun b h1 h2 => ?_), hCh.off (Nat.le_refl _) rfl rfl rfl rfl (fun a b h => ?_), hBd.off rfl rfl (fun a b h => ?_), hTr.off rfl rfl (fun a b h => ?_), hSh.off (Nat.le_refl _) (fun a b h => ?_) (fun _ _ _ => rfl)⟩, fun c => ?_⟩
      rotate_right
      · exact absurd (show I 44 36 = 0 from c) (by rw [h1]; decide)
      all_goals rw [xI_ne (by omega), xI_ne (by omega), xI_ne (by omega), xI_ne (by omega), xI_ne (by omega), xI_ne (by omega)]
theorem s_bell (x : Int32) : zStep l G mX8_bell mX9_bell [.int x] := by
  rintro I L ⟨v, o, nb, hv, hG, hF, hM, hLw, hNm, hTp, hDd, hIm, hCh, hBd, hTr, hSh⟩
  have hR : Rel I L := ⟨v, o, nb, hv, hG, hF, hM, hLw, hNm, hTp, hDd, hIm, hCh, hBd, hTr, hSh⟩
  by_cases h : iN x 0 9
  · obtain ⟨k, k0, k9, rfl⟩ := h
    have hv' := vBl_ok hv k9
    have hG' : cG (vBl v k) (xI I 1 7 (nI k)) := ⟨hG.1, rfl, hG.2.2.1, hG.2.2.2.1, hG.2.2.2.2.1, hG.2.2.2.2.2.1, hG.2.2.2.2.2.2.1, hG.2.2.2.2.2.2.2⟩
    refine ⟨fun y I' L' => nI (vB v) = y ∧ xI (cSt (vBl v k) (xI I 1 7 (nI k))) 20 4 0 = I' ∧ L = L', ?_, ?_⟩
    · refine t_X8_bell ⟨0, _, by decide, cWithin8 (nI k) 9 (by decide), ?_⟩
      rintro y _ _ ⟨hy, rfl, rfl⟩
      obtain rfl := zB_t hy ⟨k, k0, k9, rfl⟩
      refine ⟨fun _ => ⟨2, _, by decide, cStartNew hv' hG' (Nat.le_refl 2), ?_⟩, fun c => absurd c (by decide)⟩
      rintro _ _ ⟨rfl, rfl⟩
      exact ⟨hG.2.1.symm, rfl, rfl⟩
    · rintro _ _ _ ⟨rfl, rfl, rfl⟩
      refine t_X9_bell ⟨0, _, by decide, cWithin9 (nI k) 0 9 (by decide) (by decide), ?_⟩
      rintro y _ _ ⟨hy, rfl, rfl⟩
      obtain rfl := zB_t hy ⟨k, k0, k9, rfl⟩
      refine ⟨fun _ => ⟨1, _, by decide, cStartsAnew9 (v := vBl v k) hv' hM.1 (Nat.le_refl 1), ?_⟩, fun c => absurd c (by decide)⟩
      rintro _ _ ⟨rfl, rfl⟩
      refine ⟨hM.2.1.symm, vBl v k, o, nb, hv', hG'.off (fun a b h1 h8 => ?_), ?_, ⟨hM.1, rfl, hM.2.2⟩, hLw.off rfl (fun _ => rfl) rfl (fun _ => rfl), ?_, hTp.off rfl rfl (fun a b h => ?_), ⟨_, 0, _, dStart hv', rfl, nI_0.symm, rfl, rfl, nI_0.symm, mFirst (v := vBl v k) (I := xI (xI I 1 7 (nI k)) 44 9 (nI k)) hv' ⟨hM.1, rfl, hM.2.2⟩⟩, Or.inl ⟨rfl, rfl⟩, hCh.off (Nat.le_refl _) rfl rfl rfl rfl (fun a b h => ?_), hBd.off rfl rfl (fun a b h => ?_), hTr.off rfl rfl (fun a b h => ?_), hSh.off (Nat.le_refl _) (fun a b h => ?_) (fun _ _ _ => rfl)⟩
      all_goals first
        | (unfold mSt cSt; rw [xI_ne (by omega), xI_ne (by omega), xI_ne (by omega), xI_ne (by omega), xI_ne (by omega), xI_ne (by omega), xI_ne (by omega), xI_ne (by omega), xI_ne (by omega)]; done)
        | (unfold mSt cSt; rw [xI_ne (by omega), xI_ne (by omega), xI_ne (by omega), xI_ne (by omega), xI_ne (by omega), xI_ne (by omega), xI_ne (by omega), xI_ne (by omega), xI_ne (by omega), xI_ne (by omega)]; done)
        | skip
      · exact cF_congr (v := v) (v' := vBl v k) rfl rfl rfl (hF.off (fun _ => rfl))
      · have h : rNum v o _ := hNm.off (I' := mSt (vBl v k) (xI (xI (xI (cSt (vBl v k) (xI I 1 7 (nI k))) 20 4 0) 44 9 (nI k)) 44 36 0)) rfl (fun _ => rfl)
        cases o <;> exact h
  · refine ⟨fun y I' L' => -1 = y ∧ I = I' ∧ L = L', ?_, ?_⟩
    · refine t_X8_bell ⟨0, _, by decide, cWithin8 x 9 (by decide), ?_⟩
      rintro y _ _ ⟨hy, rfl, rfl⟩
      obtain rfl := zB_f hy h
      exact ⟨fun c => absurd rfl c, fun _ => ⟨rfl, rfl, rfl⟩⟩
    · rintro _ _ _ ⟨rfl, rfl, rfl⟩
      refine t_X9_bell ⟨0, _, by decide, cWithin9 x 0 9 (by decide) (by decide), ?_⟩
      rintro y _ _ ⟨hy, rfl, rfl⟩
      obtain rfl := zB_f hy h
      exact ⟨fun c => absurd rfl c, fun _ => ⟨rfl, hR⟩⟩
end PD
