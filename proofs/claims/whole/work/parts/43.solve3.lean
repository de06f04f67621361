/-! ===== the class: solve ===== -/
def cDn (v : Vw) (o : Lw) (R : Nat → Nat → Nat → Prop) (I : zIM) (L : zLM) : Prop := ∀ t s w, t ≤ vB v → s ≤ bAll (vn v) → bIn s w = true → R t s w → I 17 ((t * 4 + w) * 16 + s) = aI (sAm v o (vB v - t) s w) ∧ ∀ p, p < vn v → L 16 (((t * 4 + w) * 16 + s) * 4 + p) = sWt v o (vB v - t) s w p
/-- all situations stand -/
def cSv (v : Vw) (o : Lw) (I : zIM) (L : zLM) : Prop := ∀ t s w, t ≤ vB v → s ≤ bAll (vn v) → bIn s w = true → I 17 ((t * 4 + w) * 16 + s) = aI (sAm v o (vB v - t) s w) ∧ ∀ p, p < vn v → L 16 (((t * 4 + w) * 16 + s) * 4 + p) = sWt v o (vB v - t) s w p
def oC (I0 I : zIM) : Prop := ∀ a b, a ≠ 13 → a ≠ 17 → a ≠ 19 → (a = 9 → b ≠ 8) → (a = 14 → b ≠ 8) → I a b = I0 a b
def oCL (L0 L : zLM) : Prop := ∀ a b, a ≠ 16 → L a b = L0 a b
def qSv (v : Vw) (o : Lw) (I0 : zIM) (L0 : zLM) : zIM → zLM → Prop := fun I' L' => cSv v o I' L' ∧ cNm v o I' ∧ I' 14 8 = 1 ∧ oC I0 I' ∧ oCL L0 L'
theorem i_dec : ∀ k, k < 20 → nI (k + 1) + (-1 : Int32) = nI k := by decide +kernel
section SL
variable {l : Launch} {G : zG} {d : Nat} {v : Vw} {o : Lw} {I1 : zIM} {L0 : zLM} {P : zIM → zLM → Prop}
def sInv (v : Vw) (o : Lw) (I1 : zIM) (L0 : zLM) (R : Nat → Nat → Nat → Prop) (I : zIM) (L : zLM) : Prop := (∀ a b, a ≠ 17 → I a b = I1 a b) ∧ oCL L0 L ∧ cDn v o R I L
theorem cSl_38 (hv : vOk v) (hF : cF v I1) (hG : cG v I1) (hN : cNm v o I1) (hd : 8 ≤ d) {t s : Nat} (ht : t ≤ vB v) (hs : s ≤ bAll (vn v))
    (after : ∀ I L, sInv v o I1 L0 (fun t' s' _ => t + 1 ≤ t' ∨ t' = t ∧ s' < s + 1) I L → K_X4_solve_25 l G d P I L (nI t) (nI (s + 1))) : ∀ f w I L, f + w = vn v → sInv v o I1 L0 (fun t' s' w' => t + 1 ≤ t' ∨ t' = t ∧ (s' < s ∨ s' = s ∧ w' < w)) I L → K_X4_solve_38 l G d P I L (nI t) (nI s) (nI w)
  | 0, w, I, L, h, hI => by
    have hn := hv.1
    refine t_X4_solve_38 ⟨fun c => ?_, fun c => absurd (by rw [hI.1 1 6 (by decide), hG.1]; exact nI_le (by omega) (by omega)) c⟩
    rw [nI_1]
    refine after I L ⟨hI.1, hI.2.1, fun t' s' w' h1 h2 h3 h4 => hI.2.2 t' s' w' h1 h2 h3 ?_⟩
    have h4 : t + 1 ≤ t' ∨ t' = t ∧ s' < s + 1 := h4
    have := vsub' hv h2 h3
    show t + 1 ≤ t' ∨ t' = t ∧ (s' < s ∨ s' = s ∧ w' < w)
    omega
  | f + 1, w, I, L, h, hI => by
    have hn := hv.1
    have hb := hv.2.1
    have h16 := vAll16 hv
    have hGI : cG v I := hG.off fun a b _ _ => hI.1 a b (by omega)
    have hFI : cF v I := hF.off fun b => hI.1 8 b (by omega)
    have hNI : cNm v o I := hN.off fun b => hI.1 19 b (by omega)
    refine t_X4_solve_38 ⟨fun c => absurd c (by rw [hGI.1]; exact nI_ge (by omega) (by omega)), fun c => ⟨fun c2 => ?_, fun c2 => ?_⟩⟩
    · have e := (b_in s (by omega) w (by omega)).mp c2
      rw [nI_1]
      refine cSl_38 hv hF hG hN hd ht hs after f (w + 1) I L (by omega) ⟨hI.1, hI.2.1, fun t' s' w' h1 h2 h3 h4 => hI.2.2 t' s' w' h1 h2 h3 ?_⟩
      have h4 : t + 1 ≤ t' ∨ t' = t ∧ (s' < s ∨ s' = s ∧ w' < w + 1) := h4
      show t + 1 ≤ t' ∨ t' = t ∧ (s' < s ∨ s' = s ∧ w' < w)
      have h5 : ¬ (s' = s ∧ w' = w) := fun z => by
        rw [z.1, z.2, e] at h3
        cases h3
      omega
    · have e : bIn s w = true := by
        cases hb : bIn s w with
        | true => rfl
        | false => exact absurd ((b_in s (by omega) w (by omega)).mpr hb) c2
      have hW : t < vB v → cLv v L (t + 1) (sWt v o (vB v - (t + 1))) := fun hlt s' w' p q1 q2 q3 => (hI.2.2 (t + 1) s' w' (by omega) q1 q2 (Or.inl (Nat.le_refl _))).2 p q3
      refine ⟨6, _, by omega, cSolveAt hv hFI hGI hNI hW ht hs e (Nat.le_refl 6), ?_⟩
      rintro I' L' ⟨q1, q2, q3, q4⟩
      rw [nI_1]
      refine cSl_38 hv hF hG hN hd ht hs after f (w + 1) I' L' (by omega) ⟨fun a b ha => (q1 a b (by omega)).trans (hI.1 a b ha), fun a b ha => (q2 a b (by omega)).trans (hI.2.1 a b ha), fun t' s' w' h1 h2 h3 h4 => ?_⟩
      have h4 : t + 1 ≤ t' ∨ t' = t ∧ (s' < s ∨ s' = s ∧ w' < w + 1) := h4
      have hw' := vsub' hv h2 h3
      by_cases e : t' = t ∧ s' = s ∧ w' = w
      · obtain ⟨e1, e2, e3⟩ := e
        subst e1; subst e2; subst e3
        exact ⟨q3, q4⟩
      · obtain ⟨g1, g2⟩ := hI.2.2 t' s' w' h1 h2 h3 (show t + 1 ≤ t' ∨ t' = t ∧ (s' < s ∨ s' = s ∧ w' < w) by omega)
        exact ⟨(q1 _ _ (by omega)).trans g1, fun p hp => (q2 _ _ (by omega)).trans (g2 p hp)⟩
theorem cSl_25 (hv : vOk v) (hF : cF v I1) (hG : cG v I1) (hN : cNm v o I1) (hd : 8 ≤ d) {t : Nat} (ht : t ≤ vB v)
    (after : ∀ I L, sInv v o I1 L0 (fun t' _ _ => t ≤ t') I L → K_X4_solve_19 l G d P I L (nI t + (-1 : Int32))) : ∀ f s I L, f + s = bAll (vn v) + 1 → 1 ≤ s → sInv v o I1 L0 (fun t' s' _ => t + 1 ≤ t' ∨ t' = t ∧ s' < s) I L → K_X4_solve_25 l G d P I L (nI t) (nI s)
  | 0, s, I, L, h, h1, hI => by
    have h16 := vAll16 hv
    have hGI : cG v I := hG.off fun a b _ _ => hI.1 a b (by omega)
    refine t_X4_solve_25 (bE 0 (cAll hv hGI) (by omega) ⟨fun c => ?_, fun c => absurd (nI_lt (by omega) (by omega)) c⟩)
    refine after I L ⟨hI.1, hI.2.1, fun t' s' w' h1 h2 h3 h4 => hI.2.2 t' s' w' h1 h2 h3 ?_⟩
    have h4 : t ≤ t' := h4
    show t + 1 ≤ t' ∨ t' = t ∧ s' < s
    omega
  | f + 1, s, I, L, h, h1, hI => by
    have h16 := vAll16 hv
    have hGI : cG v I := hG.off fun a b _ _ => hI.1 a b (by omega)
    refine t_X4_solve_25 (bE 0 (cAll hv hGI) (by omega) ⟨fun c => absurd c (nI_nlt (by omega) (by omega)), fun c => ?_⟩)
    have := cSl_38 (l := l) (G := G) (P := P) (L0 := L0) hv hF hG hN hd ht (s := s) (by omega) (fun I L hI => cSl_25 hv hF hG hN hd ht after f (s + 1) I L (by omega) (by omega) hI) (vn v) 0 I L (by omega) ⟨hI.1, hI.2.1, fun t' s' w' h1 h2 h3 h4 => hI.2.2 t' s' w' h1 h2 h3 ?_⟩
    · rw [nI_0] at this
      exact this
    · have h4 : t + 1 ≤ t' ∨ t' = t ∧ (s' < s ∨ s' = s ∧ w' < 0) := h4
      show t + 1 ≤ t' ∨ t' = t ∧ s' < s
      omega
theorem cSl_19 (hv : vOk v) (hF : cF v I1) (hG : cG v I1) (hN : cNm v o I1) (hd : 8 ≤ d) (hP : ∀ I L, (∀ a b, a ≠ 17 → I a b = I1 a b) → oCL L0 L → cSv v o I L → P I L) : ∀ k I L, k ≤ vB v + 1 → sInv v o I1 L0 (fun t' _ _ => k ≤ t') I L → K_X4_solve_19 l G d P I L (nI k + (-1 : Int32))
  | 0, I, L, h, hI => by
    refine t_X4_solve_19 ⟨fun c => hP I L hI.1 hI.2.1 fun t s w h1 h2 h3 => hI.2.2 t s w h1 h2 h3 (Nat.zero_le _), fun c => absurd (by decide +kernel) c⟩
  | k + 1, I, L, h, hI => by
    have hb := hv.2.1
    rw [i_dec k (by omega)]
    refine t_X4_solve_19 ⟨fun c => absurd c (nI_pos (by omega)), fun c => ?_⟩
    refine cSl_25 (L0 := L0) (s := 1) (f := bAll (vn v)) hv hF hG hN hd (by omega) (fun I L hI => cSl_19 hv hF hG hN hd hP k I L (by omega) hI) I L (by omega) (Nat.le_refl 1) ⟨hI.1, hI.2.1, fun t' s' w' h1 h2 h3 h4 => hI.2.2 t' s' w' h1 h2 h3 ?_⟩
    have h4 : k + 1 ≤ t' ∨ t' = k ∧ s' < 1 := h4
    have hw' := vsub' hv h2 h3
    have h16 := vAll16 hv
    have := b_nz s' (by omega) w' (by have := hv.1; omega) h3
    show k + 1 ≤ t'
    omega
theorem cSolve {I : zIM} {L : zLM} (hv : vOk v) (hF : cF v I) (hG : cG v I) (hL : rLaw o I) (hN : rNum v o I) (hd : 8 ≤ d) : zCv l G d mX4_solve [.ref 14] I L (qSv v o I L) := by
  have hb := hv.2.1
  have hn := hv.1
  have go : ∀ I1, cG v I1 → cF v I1 → cNm v o I1 → I1 14 8 = 1 → oC I I1 → K_X4_solve_19 l G d (qSv v o I L) I1 L (I1 1 7) := by
    intro I1 g1 g2 g3 g4 g5
    have := cSl_19 (l := l) (G := G) (L0 := L) (P := qSv v o I L) hv g2 g1 g3 hd (fun I' L' q1 q2 q3 => ⟨q3, g3.off (fun b => q1 19 b (by decide)), (q1 14 8 (by decide)).trans g4, fun a b h1 h2 h3 h4 h5 => (q1 a b h2).trans (g5 a b h1 h2 h3 h4 h5), q2⟩) (vB v + 1) I1 L (Nat.le_refl _) ⟨fun _ _ _ => rfl, fun _ _ _ => rfl, fun t s w h1 h2 h3 h4 => absurd (show vB v + 1 ≤ t from h4) (by omega)⟩
    rw [i_dec (vB v) (by omega), ← g1.2.1] at this
    exact this
  refine t_X4_solve ⟨fun c => ?_, fun c => ⟨5, _, by omega, cFindNumbers hv hG hL (Nat.le_refl 5), ?_⟩⟩
  · rcases hN with h | ⟨h, k⟩
    · exact absurd h c
    · exact go I hG hF k h fun _ _ _ _ _ _ _ => rfl
  · rintro I1 _ ⟨rfl, q1, q2, q3⟩
    exact go I1 (hG.off fun a b _ _ => q3 a b (by omega) (by omega) (by omega) (by omega)) (hF.off fun b => q3 8 b (by omega) (by omega) (by omega) (by omega)) q1 q2 fun a b h1 _ h3 h4 h5 => q3 a b h1 h3 h4 h5
end SL
