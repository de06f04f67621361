/-! ===== calls that ask the odds: what they may write; how the relation stays ===== -/
/-- the class's own scratch -/
def oC2 (I0 I : zIM) : Prop := ∀ a b, a ≠ 13 → a ≠ 17 → a ≠ 19 → a ≠ 21 → a ≠ 43 → (a = 9 → b ≠ 8) → (a = 14 → b ≠ 8) → I a b = I0 a b
def oCL2 (L0 L : zLM) : Prop := ∀ a b, a ≠ 14 → a ≠ 15 → a ≠ 16 → a ≠ 18 → a ≠ 21 → L a b = L0 a b
/-- the reference's -/
def oM2 (I0 I : zIM) : Prop := ∀ a b, a ≠ 55 → a ≠ 58 → a ≠ 59 → a ≠ 62 → (a = 44 → b < 16 ∨ 20 < b ∧ b < 29 ∨ 32 < b) → I a b = I0 a b
def oML2 (L0 L : zLM) : Prop := ∀ a b, a ≠ 44 → a ≠ 56 → a ≠ 57 → a ≠ 60 → a ≠ 61 → L a b = L0 a b
theorem oC.up {I0 I : zIM} (h : oC I0 I) : oC2 I0 I := fun a b h1 h2 h3 _ _ h6 h7 => h a b h1 h2 h3 h6 h7
theorem oCL.up {I0 I : zLM} (h : oCL I0 I) : oCL2 I0 I := fun a b _ _ h3 _ _ => h a b h3
theorem oM.up {I0 I : zIM} (h : oM I0 I) : oM2 I0 I := fun a b h1 h2 h3 _ h5 => h a b h1 h2 h3 (fun z => by have := h5 z; omega)
theorem oML.up {I0 I : zLM} (h : oML I0 I) : oML2 I0 I := fun a b _ h2 h3 h4 _ => h a b h2 h3 h4
theorem oC2.rf {I : zIM} : oC2 I I := fun _ _ _ _ _ _ _ _ _ => rfl
theorem oCL2.rf {I : zLM} : oCL2 I I := fun _ _ _ _ _ _ _ => rfl
theorem oM2.rf {I : zIM} : oM2 I I := fun _ _ _ _ _ _ _ => rfl
theorem oML2.rf {I : zLM} : oML2 I I := fun _ _ _ _ _ _ _ => rfl
theorem oC2.tr {I0 I1 I2 : zIM} (h : oC2 I0 I1) (g : oC2 I1 I2) : oC2 I0 I2 := fun a b h1 h2 h3 h4 h5 h6 h7 => (g a b h1 h2 h3 h4 h5 h6 h7).trans (h a b h1 h2 h3 h4 h5 h6 h7)
theorem oCL2.tr {I0 I1 I2 : zLM} (h : oCL2 I0 I1) (g : oCL2 I1 I2) : oCL2 I0 I2 := fun a b h1 h2 h3 h4 h5 => (g a b h1 h2 h3 h4 h5).trans (h a b h1 h2 h3 h4 h5)
theorem oM2.tr {I0 I1 I2 : zIM} (h : oM2 I0 I1) (g : oM2 I1 I2) : oM2 I0 I2 := fun a b h1 h2 h3 h4 h5 => (g a b h1 h2 h3 h4 h5).trans (h a b h1 h2 h3 h4 h5)
theorem oML2.tr {I0 I1 I2 : zLM} (h : oML2 I0 I1) (g : oML2 I1 I2) : oML2 I0 I2 := fun a b h1 h2 h3 h4 h5 => (g a b h1 h2 h3 h4 h5).trans (h a b h1 h2 h3 h4 h5)
theorem oC2.gG {v : Vw} {I0 I : zIM} (h : oC2 I0 I) (hG : cG v I0) : cG v I := hG.off fun a b _ _ => h a b (by omega) (by omega) (by omega) (by omega) (by omega) (by omega) (by omega)
theorem oC2.gF {v : Vw} {I0 I : zIM} (h : oC2 I0 I) (hF : cF v I0) : cF v I := hF.off fun b => h 8 b (by omega) (by omega) (by omega) (by omega) (by omega) (by omega) (by omega)
theorem oC2.gL {o : Lw} {I0 I : zIM} (h : oC2 I0 I) (hL : rLaw o I0) : rLaw o I := hL.off (h 9 6 (by omega) (by omega) (by omega) (by omega) (by omega) (by omega) (by omega)) (fun b => h 12 b (by omega) (by omega) (by omega) (by omega) (by omega) (by omega) (by omega)) (h 44 15 (by omega) (by omega) (by omega) (by omega) (by omega) (by omega) (by omega)) (fun b => h 54 b (by omega) (by omega) (by omega) (by omega) (by omega) (by omega) (by omega))
theorem oM2.gG {v : Vw} {I0 I : zIM} (h : oM2 I0 I) (hM : mG v I0) : mG v I := hM.off (h 44 6 (by omega) (by omega) (by omega) (by omega) (by omega)) (h 44 9 (by omega) (by omega) (by omega) (by omega) (by omega)) (fun a b _ => h a b (by omega) (by omega) (by omega) (by omega) (by omega))
theorem oM2.gL {o : Lw} {I0 I : zIM} (h : oM2 I0 I) (hL : rLaw o I0) : rLaw o I := hL.off (h 9 6 (by omega) (by omega) (by omega) (by omega) (by omega)) (fun b => h 12 b (by omega) (by omega) (by omega) (by omega) (by omega)) (h 44 15 (by omega) (by omega) (by omega) (by omega) (by omega)) (fun b => h 54 b (by omega) (by omega) (by omega) (by omega) (by omega))
/-- the relation, its view told -/
def RelV (v : Vw) (o : Lw) (nb : Nat) (I : zIM) (L : zLM) : Prop := vOk v ∧ cG v I ∧ cF v I ∧ mG v I ∧ rLaw o I ∧ rNum v o I ∧ rTp I ∧ rDd v I ∧ rIm v I ∧ rCh v I ∧ rBd nb I ∧ rTr I ∧ rSh nb I L
theorem RelV.c {v : Vw} {o : Lw} {nb : Nat} {I I' : zIM} {L L' : zLM} (h : RelV v o nb I L) (hI : oC2 I I') (hL : oCL2 L L') (hn : rNum v o I') : RelV v o nb I' L' := by
  obtain ⟨hv, hG, hF, hM, hLw, hNm, hTp, hDd, hIm, hCh, hBd, hTr, hSh⟩ := h
  have k : ∀ a b, a ≠ 13 ∧ a ≠ 17 ∧ a ≠ 19 ∧ a ≠ 21 ∧ a ≠ 43 ∧ (a = 9 → b ≠ 8) ∧ (a = 14 → b ≠ 8) → I' a b = I a b := fun a b ⟨h1, h2, h3, h4, h5, h6, h7⟩ => hI a b h1 h2 h3 h4 h5 h6 h7
  have kL : ∀ a b, a ≠ 14 ∧ a ≠ 15 ∧ a ≠ 16 ∧ a ≠ 18 ∧ a ≠ 21 → L' a b = L a b := fun a b ⟨h1, h2, h3, h4, h5⟩ => hL a b h1 h2 h3 h4 h5
  refine ⟨hv, hI.gG hG, hI.gF hF, hM.off (k _ _ (by omega)) (k _ _ (by omega)) (fun a b h => k a b (by omega)), hI.gL hLw, hn, hTp.off (k _ _ (by omega)) (k _ _ (by omega)) (fun a b h => k a b (by omega)), hDd.off (fun b hb => k 20 b (by omega)) (fun b h1 h2 => k 44 b (by omega)), hIm.off (fun b h1 h2 => k 20 b (by omega)) (fun b h1 h2 => k 44 b (by omega)), hCh.off (Nat.le_refl _) (k _ _ (by omega)) (k _ _ (by omega)) (k _ _ (by omega)) (k _ _ (by omega)) (fun a b h => k a b (by omega)), hBd.off (k _ _ (by omega)) (k _ _ (by omega)) (fun a b h => k a b (by omega)), hTr.off (k _ _ (by omega)) (k _ _ (by omega)) (fun a b h => k a b (by omega)), hSh.off (Nat.le_refl _) (fun a b h => k a b (by omega)) (fun a b h => kL a b (by omega))⟩
theorem RelV.m {v : Vw} {o : Lw} {nb : Nat} {I I' : zIM} {L L' : zLM} (h : RelV v o nb I L) (hI : oM2 I I') (hL : oML2 L L') : RelV v o nb I' L' := by
  obtain ⟨hv, hG, hF, hM, hLw, hNm, hTp, hDd, hIm, hCh, hBd, hTr, hSh⟩ := h
  have k : ∀ a b, a ≠ 55 ∧ a ≠ 58 ∧ a ≠ 59 ∧ a ≠ 62 ∧ (a = 44 → b < 16 ∨ 20 < b ∧ b < 29 ∨ 32 < b) → I' a b = I a b := fun a b ⟨h1, h2, h3, h4, h5⟩ => hI a b h1 h2 h3 h4 h5
  have kL : ∀ a b, a ≠ 44 ∧ a ≠ 56 ∧ a ≠ 57 ∧ a ≠ 60 ∧ a ≠ 61 → L' a b = L a b := fun a b ⟨h1, h2, h3, h4, h5⟩ => hL a b h1 h2 h3 h4 h5
  refine ⟨hv, hG.off (fun a b _ _ => k a b (by omega)), hF.off (fun b => k 8 b (by omega)), hI.gG hM, hI.gL hLw, hNm.off (k _ _ (by omega)) (fun b => k 19 b (by omega)), hTp.off (k _ _ (by omega)) (k _ _ (by omega)) (fun a b h => k a b (by omega)), hDd.off (fun b hb => k 20 b (by omega)) (fun b h1 h2 => k 44 b (by omega)), hIm.off (fun b h1 h2 => k 20 b (by omega)) (fun b h1 h2 => k 44 b (by omega)), hCh.off (Nat.le_refl _) (k _ _ (by omega)) (k _ _ (by omega)) (k _ _ (by omega)) (k _ _ (by omega)) (fun a b h => k a b (by omega)), hBd.off (k _ _ (by omega)) (k _ _ (by omega)) (fun a b h => k a b (by omega)), hTr.off (k _ _ (by omega)) (k _ _ (by omega)) (fun a b h => k a b (by omega)), hSh.off (Nat.le_refl _) (fun a b h => k a b (by omega)) (fun a b h => kL a b (by omega))⟩
/-- a call's end: it answers e, writes its own scratch alone -/
def qC {α : Type} (e : α) (v : Vw) (o : Lw) (I : zIM) (L : zLM) : α → zIM → zLM → Prop := fun y I' L' => e = y ∧ oC2 I I' ∧ oCL2 L L' ∧ rNum v o I'
def qM {α : Type} (e : α) (I : zIM) (L : zLM) : α → zIM → zLM → Prop := fun y I' L' => e = y ∧ oM2 I I' ∧ oML2 L L'
/-- the same, no more than solving writes -/
def qS {α : Type} (e : α) (v : Vw) (o : Lw) (I : zIM) (L : zLM) : α → zIM → zLM → Prop := fun y I' L' => e = y ∧ oC I I' ∧ oCL L L' ∧ rNum v o I'
def qT {α : Type} (e : α) (I : zIM) (L : zLM) : α → zIM → zLM → Prop := fun y I' L' => e = y ∧ oM I I' ∧ oML L L'
theorem oC.rf {I : zIM} : oC I I := fun _ _ _ _ _ _ _ => rfl
theorem oCL.rf {I : zLM} : oCL I I := fun _ _ _ => rfl
theorem oM.rf {I : zIM} : oM I I := fun _ _ _ _ _ _ => rfl
theorem oML.rf {I : zLM} : oML I I := fun _ _ _ _ _ => rfl
theorem oC.tr {I0 I1 I2 : zIM} (h : oC I0 I1) (g : oC I1 I2) : oC I0 I2 := fun a b h1 h2 h3 h4 h5 => (g a b h1 h2 h3 h4 h5).trans (h a b h1 h2 h3 h4 h5)
theorem oCL.tr {I0 I1 I2 : zLM} (h : oCL I0 I1) (g : oCL I1 I2) : oCL I0 I2 := fun a b h1 => (g a b h1).trans (h a b h1)
theorem oM.tr {I0 I1 I2 : zIM} (h : oM I0 I1) (g : oM I1 I2) : oM I0 I2 := fun a b h1 h2 h3 h4 => (g a b h1 h2 h3 h4).trans (h a b h1 h2 h3 h4)
theorem oML.tr {I0 I1 I2 : zLM} (h : oML I0 I1) (g : oML I1 I2) : oML I0 I2 := fun a b h1 h2 h3 => (g a b h1 h2 h3).trans (h a b h1 h2 h3)
theorem oC.gG {v : Vw} {I0 I : zIM} (h : oC I0 I) (hG : cG v I0) : cG v I := h.up.gG hG
theorem oC.gF {v : Vw} {I0 I : zIM} (h : oC I0 I) (hF : cF v I0) : cF v I := h.up.gF hF
theorem oC.gL {o : Lw} {I0 I : zIM} (h : oC I0 I) (hL : rLaw o I0) : rLaw o I := h.up.gL hL
theorem qS.up {α : Type} {e y : α} {v : Vw} {o : Lw} {I I' : zIM} {L L' : zLM} (h : qS e v o I L y I' L') : qC e v o I L y I' L' := ⟨h.1, h.2.1.up, h.2.2.1.up, h.2.2.2⟩
theorem qT.up {α : Type} {e y : α} {I I' : zIM} {L L' : zLM} (h : qT e I L y I' L') : qM e I L y I' L' := ⟨h.1, h.2.1.up, h.2.2.up⟩
section ZO
variable {l : Launch} {G : zG} {Mc Mm : zM} {ar : List Value}
theorem zStep_of (h : ∀ v o nb I L, RelV v o nb I L → ∃ e, zCi l G 900 Mc (.ref 0 :: ar) I L (qC e v o I L) ∧ ∀ I1 L1, RelV v o nb I1 L1 → oC2 I I1 → oCL2 L L1 → zCi l G 900 Mm (.ref 44 :: ar) I1 L1 (qM e I1 L1)) : zStep l G Mc Mm ar := by
  rintro I L ⟨v, o, nb, hR⟩
  have hR : RelV v o nb I L := hR
  obtain ⟨e, h1, h2⟩ := h v o nb I L hR
  refine ⟨_, h1, ?_⟩
  rintro y I1 L1 ⟨rfl, g1, g2, g3⟩
  have hR1 := hR.c g1 g2 g3
  refine zCi_mono (h2 I1 L1 hR1 g1 g2) ?_
  rintro y I2 L2 ⟨rfl, k1, k2⟩
  exact ⟨rfl, v, o, nb, hR1.m k1 k2⟩
theorem zStepL_of (h : ∀ v o nb I L, RelV v o nb I L → ∃ e, zCl l G 900 Mc (.ref 0 :: ar) I L (qC e v o I L) ∧ ∀ I1 L1, RelV v o nb I1 L1 → oC2 I I1 → oCL2 L L1 → zCl l G 900 Mm (.ref 44 :: ar) I1 L1 (qM e I1 L1)) : zStepL l G Mc Mm ar := by
  rintro I L ⟨v, o, nb, hR⟩
  have hR : RelV v o nb I L := hR
  obtain ⟨e, h1, h2⟩ := h v o nb I L hR
  refine ⟨_, h1, ?_⟩
  rintro y I1 L1 ⟨rfl, g1, g2, g3⟩
  have hR1 := hR.c g1 g2 g3
  refine zCl_mono (h2 I1 L1 hR1 g1 g2) ?_
  rintro y I2 L2 ⟨rfl, k1, k2⟩
  exact ⟨rfl, v, o, nb, hR1.m k1 k2⟩
theorem qC.of {α : Type} {e a : α} {v : Vw} {o : Lw} {I : zIM} {L : zLM} (h : e = a) (hn : rNum v o I) : qC e v o I L a I L := ⟨h, oC2.rf, oCL2.rf, hn⟩
theorem qM.of {α : Type} {e a : α} {I : zIM} {L : zLM} (h : e = a) : qM e I L a I L := ⟨h, oM2.rf, oML2.rf⟩
theorem qSv.num {v : Vw} {o : Lw} {I I' : zIM} {L L' : zLM} (h : qSv v o I L I' L') : rNum v o I' := Or.inr ⟨h.2.2.1, h.2.1⟩
theorem qC.sv {α : Type} {e a : α} {v : Vw} {o : Lw} {I I' : zIM} {L L' : zLM} (h : qSv v o I L I' L') (he : e = a) : qC e v o I L a I' L' := ⟨he, h.2.2.2.1.up, h.2.2.2.2.up, h.num⟩
theorem qM.sv {α : Type} {e a : α} {v : Vw} {o : Lw} {I I' : zIM} {L L' : zLM} (h : qMv v o I L I' L') (he : e = a) : qM e I L a I' L' := ⟨he, h.2.2.1.up, h.2.2.2.up⟩
end ZO
/-! ===== WORTHS from the beginning on ===== -/
def sBeg (v : Vw) (o : Lw) (k p : Nat) : Int64 := sWt v o (vB v) (bAll (vn v)) (vO v k) p
section WB
variable {l : Launch} {G : zG} {d : Nat} {I : zIM} {L : zLM} {v : Vw} {o : Lw}
theorem vAll_in (hv : vOk v) {p : Nat} (hp : p < vn v) : bIn (bAll (vn v)) p = true := by
  have hn := hv.1
  rw [b_all_in (vn v) (by omega) p (by omega)]
  simpa using hp
theorem sFirst_in (hv : vOk v) {s k0 : Nat} (h0 : k0 < vn v) (hi : bIn s (vO v k0) = true) : ∀ f k, f + k = vn v → k ≤ k0 → bIn s (sFirst v s f k) = true
  | 0, k, h, hk => absurd h (by omega)
  | f + 1, k, h, hk => by
    unfold sFirst
    split
    · assumption
    · rename_i hn
      refine sFirst_in hv h0 hi f (k + 1) (by omega) ?_
      by_cases e : k = k0
      · subst e
        exact absurd hi hn
      · omega
theorem vFirst_in (hv : vOk v) {s p : Nat} (hp : p < vn v) (hi : bIn s p = true) : bIn s (vFirst v s) = true := by
  obtain ⟨a, b⟩ := hv.2.2.2.2.2.1 p hp
  exact sFirst_in hv a (by rw [b]; exact hi) (vn v) 0 (by omega) (Nat.zero_le _)
theorem cW0 (hv : vOk v) (hS : cSv v o I L) {s w p : Nat} (hs : s ≤ bAll (vn v)) (hi : bIn s w = true) (hp : p < vn v) (hd : 1 ≤ d) : zCl l G d mX4_worthAtFirst [.ref 14, .int (nI w), .int (nI s), .int (nI p)] I L (zE (sWt v o (vB v) s w p) I L) := by
  have hn := hv.1
  have h16 := vAll16 hv
  have hw := vsub' hv hs hi
  exact t_X4_worthAtFirst (bE 0 (cSit 0 w s) (by omega) ⟨_, q_4p _ _, by omega, zE.of ((hS 0 s w (Nat.zero_le _) hs hi).2 p hp)⟩)
theorem cBeg (hv : vOk v) (hG : cG v I) (hS : cSv v o I L) {k p : Nat} (hk : k < vn v) (hp : p < vn v) (hd : 2 ≤ d) : zCl l G d mX8_worthIfBegins [.ref 0, .int (nI k), .int (nI p)] I L (zE (sBeg v o k p) I L) := by
  have hn := hv.1
  refine t_X8_worthIfBegins ⟨k, rfl, by omega, ?_⟩
  rw [hG.2.2.2.2.2.1 k (by omega)]
  exact bE 0 (cAll hv hG) (by omega) (bL 1 (cW0 hv hS (Nat.le_refl _) (vAll_in hv (hv.2.2.2.2.1 k hk).1) hp (Nat.le_refl 1)) (by omega) (zE.of rfl))
theorem cNow (hv : vOk v) (hG : cG v I) (hS : cSv v o I L) {p : Nat} (hp : p < vn v) (hd : 2 ≤ d) : zCl l G d mX8_worthNow [.ref 0, .int (nI p)] I L (zE (sBeg v o 0 p) I L) := by
  have hn := hv.1
  refine t_X8_worthNow (bE 0 (cAll hv hG) (by omega) (bE 0 (cFirst hv hG (vAll16 hv)) (by omega) (bE 0 (cAll hv hG) (by omega) ?_)))
  rw [vFirst_all hv (by omega)]
  exact bL 1 (cW0 hv hS (Nat.le_refl _) (vAll_in hv (hv.2.2.2.2.1 0 (by omega)).1) hp (Nat.le_refl 1)) (by omega) (zE.of rfl)
/-! the reference -/
theorem mStart_2 (hv : vOk v) (hM : mG v I) {s : Nat} (hs : s < 16) (hd : 1 ≤ d) : ∀ f k, f + k = vn v → K_X9_startOf_2 l G d (zE (nI (sFirst v s f k)) I L) I L (nI s) (0 : Int32) (nI k)
  | 0, k, h => by
    have hn := hv.1
    exact t_X9_startOf_2 ⟨fun c => zE.of nI_0.symm, fun c => absurd (by rw [hM.1]; exact nI_le (by omega) (by omega)) c⟩
  | f + 1, k, h => by
    have hn := hv.1
    have hO := (hv.2.2.2.1 k (by omega)).1
    refine t_X9_startOf_2 ⟨fun c => absurd c (by rw [hM.1]; exact nI_ge (by omega) (by omega)), fun c => ⟨by rw [hM.1]; exact nI_ne0 (by omega) (by omega), k, ?_, by omega, ?_⟩⟩
    · rw [hM.1, ← nI_0, nI_add, q_mod _ (by omega) _ (by omega), Nat.zero_add, Nat.mod_eq_of_lt (by omega)]
    · rw [hM.2.2.2.2.2.1 k (by omega)]
      refine bB 0 (cIsIn9 hs hO) (by omega) (fun e => ⟨fun c => absurd c i1_0, fun _ => zE.of ?_⟩) (fun e => ⟨fun _ => ?_, fun c => absurd rfl c⟩)
      · rw [sFirst, if_pos e]
      · rw [nI_1, sFirst, if_neg e]
        exact mStart_2 hv hM hs hd f (k + 1) (by omega)
theorem mStart (hv : vOk v) (hM : mG v I) {s : Nat} (hs : s < 16) (hd : 1 ≤ d) : zCi l G d mX9_startOf [.ref 44, .int (nI s), .int (0 : Int32)] I L (zE (nI (vFirst v s)) I L) := by
  refine t_X9_startOf ?_
  have := mStart_2 (l := l) (G := G) (I := I) (L := L) hv hM hs hd (vn v) 0 (by omega)
  rw [nI_0] at this
  exact this
theorem mStartAll (hv : vOk v) (hM : mG v I) {k : Nat} (hk : k < vn v) (hd : 1 ≤ d) : zCi l G d mX9_startOf [.ref 44, .int (nI (bAll (vn v))), .int (nI k)] I L (zE (nI (vO v k)) I L) := by
  have hn := hv.1
  have hO := (hv.2.2.2.1 k (by omega)).1
  refine t_X9_startOf (t_X9_startOf_2 ⟨fun c => absurd c (by rw [hM.1]; exact nI_ge (a := 0) (by omega) (by omega)), fun c => ⟨by rw [hM.1]; exact nI_ne0 (by omega) (by omega), k, ?_, by omega, ?_⟩⟩)
  · rw [hM.1, ← nI_0, nI_add, q_mod _ (by omega) _ (by omega), Nat.add_zero, Nat.mod_eq_of_lt (by omega)]
  · rw [hM.2.2.2.2.2.1 k (by omega)]
    exact bBt 0 (cIsIn9 (vAll16 hv) hO) (by omega) (vAll_in hv (hv.2.2.2.2.1 k hk).1) ⟨fun c => absurd c i1_0, fun _ => zE.of rfl⟩
theorem mW0 (hv : vOk v) (hS : mSv v o I L) {s w p : Nat} {b : Int32} (hs : s ≤ bAll (vn v)) (hi : bIn s w = true) (hp : p < vn v) (hd : 2 ≤ d) (hw : ∀ l G, zCi l G 1 mX9_startOf [.ref 44, .int (nI s), .int b] I L (zE (nI w) I L)) : zCl l G d mX9_worthFrom [.ref 44, .int (nI s), .int b, .int (nI p)] I L (zE (sWt v o (vB v) s w p) I L) := by
  have hn := hv.1
  have h16 := vAll16 hv
  have hww := vsub' hv hs hi
  exact t_X9_worthFrom (bE 1 (hw l G) (by omega) (bE 0 (mState 0 s w) (by omega) ⟨4 * ((0 * 16 + s) * 4 + w) + p, by rw [q_4, nI_add], by omega, zE.of ((hS 0 s w (Nat.zero_le _) hs hi).2.2 p hp)⟩))
theorem mBeg (hv : vOk v) (hM : mG v I) (hS : mSv v o I L) {k p : Nat} (hk : k < vn v) (hp : p < vn v) (hd : 2 ≤ d) : zCl l G d mX9_worthFrom [.ref 44, .int (nI (bAll (vn v))), .int (nI k), .int (nI p)] I L (zE (sBeg v o k p) I L) :=
  mW0 hv hS (Nat.le_refl _) (vAll_in hv (hv.2.2.2.2.1 k hk).1) hp hd (fun l G => mStartAll hv hM hk (Nat.le_refl 1))
theorem mBeg0 (hv : vOk v) (hM : mG v I) (hS : mSv v o I L) {p : Nat} (hp : p < vn v) (hd : 2 ≤ d) : zCl l G d mX9_worthFrom [.ref 44, .int (nI (bAll (vn v))), .int (0 : Int32), .int (nI p)] I L (zE (sBeg v o 0 p) I L) :=
  mBeg (k := 0) hv hM hS (by omega) hp hd
theorem mWorthOf (hv : vOk v) (hM : mG v I) (hL : rLaw o I) {p : Nat} (hp : p < vn v) (hd : 106 ≤ d) : zCl l G d mX9_worthOf [.ref 44, .int (nI p)] I L (qT (sBeg v o 0 p) I L) := by
  refine t_X9_worthOf ⟨105, _, by omega, mSolves hv hM hL (Nat.le_refl 105), fun I1 L1 hq => ?_⟩
  have hM1 := hq.2.2.1.gG hM
  exact bE 0 (cAll9 hv.1 hM1.1) (by omega) (bL 2 (mBeg0 hv hM1 hq.1 hp (Nat.le_refl 2)) (by omega) ⟨rfl, hq.2.2.1, hq.2.2.2⟩)
end WB
