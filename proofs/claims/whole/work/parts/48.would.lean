/-! ===== public calls: would, rest, settle ===== -/
def vYs (v : Vw) (y : Nat → Nat) : Vw := (vn v, vH v, y, vT v, vO v, vP v, vB v, vZ v)
theorem vYs_ok {v : Vw} (hv : vOk v) {y : Nat → Nat} (hy : ∀ p, p < 4 → y p ≤ 5) : vOk (vYs v y) :=
  ⟨hv.1, hv.2.1, fun p hp => ⟨(hv.2.2.1 p hp).1, hy p hp, (hv.2.2.1 p hp).2.2⟩, hv.2.2.2⟩
def vWy (v : Vw) (p w : Nat) : Vw := vYs v (wU (vY v) p w)
theorem vWy_ok {v : Vw} (hv : vOk v) {p w : Nat} (hw : w ≤ 5) : vOk (vWy v p w) := vYs_ok hv fun q hq => by
  unfold wU
  split
  · exact hw
  · exact (hv.2.2.1 q hq).2.1
theorem rNum_y {v : Vw} {o : Lw} {I : zIM} {y : Nat → Nat} (h : rNum v o I) : rNum (vYs v y) o I := by cases o <;> exact h
theorem rNum_y' {v : Vw} {o : Lw} {I : zIM} {y : Nat → Nat} (h : rNum (vYs v y) o I) : rNum v o I := by cases o <;> exact h
theorem cF_y {v : Vw} {I : zIM} {y : Nat → Nat} (h : cF v I) : cF (vYs v y) I := cF_congr (v := v) (v' := vYs v y) rfl rfl rfl h
def sWd (v : Vw) (o : Lw) (p : Nat) : Nat → Nat → Nat → Int64 → Nat
  | 0, _, b, _ => b
  | f + 1, w, b, m => if m < sBeg (vWy v p w) o 0 p then sWd v o p f (w + 1) w (sBeg (vWy v p w) o 0 p) else sWd v o p f (w + 1) b m
def sWould (v : Vw) (o : Lw) (p : Nat) : Nat := sWd v o p 6 0 (vY v p) (sBeg v o 0 p)
theorem sWd_le {v : Vw} {o : Lw} {p : Nat} : ∀ f w b m, f + w = 6 → b ≤ 5 → sWd v o p f w b m ≤ 5
  | 0, w, b, m, h, hb => hb
  | f + 1, w, b, m, h, hb => by
    unfold sWd
    split
    · exact sWd_le f (w + 1) w _ (by omega) (by omega)
    · exact sWd_le f (w + 1) b m (by omega) hb
theorem sWould_le {v : Vw} {o : Lw} {p : Nat} (hv : vOk v) (hp : p < 4) : sWould v o p ≤ 5 := sWd_le 6 0 _ _ rfl (hv.2.2.1 p hp).2.1
/-- all stays but scratch and what S tells -/
def oCx (S : Nat → Nat → Prop) (I0 I : zIM) : Prop := ∀ a b, a ≠ 13 → a ≠ 17 → a ≠ 19 → (a = 9 → b ≠ 8) → (a = 14 → b ≠ 8) → ¬ S a b → I a b = I0 a b
def oMx (S : Nat → Nat → Prop) (I0 I : zIM) : Prop := ∀ a b, a ≠ 55 → a ≠ 58 → a ≠ 59 → (a = 44 → b < 16 ∨ 20 < b) → ¬ S a b → I a b = I0 a b
theorem oCx.tr {S : Nat → Nat → Prop} {I0 I1 I2 : zIM} (h : oCx S I0 I1) (g : oC I1 I2) : oCx S I0 I2 := fun a b h1 h2 h3 h6 h7 h8 => (g a b h1 h2 h3 h6 h7).trans (h a b h1 h2 h3 h6 h7 h8)
theorem oMx.tr {S : Nat → Nat → Prop} {I0 I1 I2 : zIM} (h : oMx S I0 I1) (g : oM I1 I2) : oMx S I0 I2 := fun a b h1 h2 h3 h5 h8 => (g a b h1 h2 h3 h5).trans (h a b h1 h2 h3 h5 h8)
theorem cG_w {v : Vw} {I0 I : zIM} {y : Nat → Nat} (hG : cG v I0) (h : oCx (fun a b => a = 3 ∧ b < 4) I0 I) (hy : ∀ p, p < 4 → I 3 p = nI (y p)) : cG (vYs v y) I := by
  obtain ⟨a, b, c, d, e, f, i, g⟩ := hG
  have k : ∀ x z, 1 ≤ x → x ≤ 7 → x ≠ 3 → I x z = I0 x z := fun x z h1 h2 h3 => h x z (by omega) (by omega) (by omega) (by omega) (by omega) (by omega)
  exact ⟨(k 1 6 (by omega) (by omega) (by omega)).trans a, (k 1 7 (by omega) (by omega) (by omega)).trans b, fun p hp => (k 2 p (by omega) (by omega) (by omega)).trans (c p hp), hy, fun p hp => (k 4 p (by omega) (by omega) (by omega)).trans (e p hp), fun p hp => (k 5 p (by omega) (by omega) (by omega)).trans (f p hp), fun p hp => (k 6 p (by omega) (by omega) (by omega)).trans (i p hp), fun p hp => (k 7 p (by omega) (by omega) (by omega)).trans (g p hp)⟩
theorem oCx.gF {v : Vw} {I0 I : zIM} (h : oCx (fun a b => a = 3 ∧ b < 4) I0 I) (hF : cF v I0) : cF v I := hF.off fun b => h 8 b (by omega) (by omega) (by omega) (by omega) (by omega) (by omega)
theorem oCx.gL {o : Lw} {I0 I : zIM} (h : oCx (fun a b => a = 3 ∧ b < 4) I0 I) (hL : rLaw o I0) : rLaw o I := hL.off (h 9 6 (by omega) (by omega) (by omega) (by omega) (by omega) (by omega)) (fun b => h 12 b (by omega) (by omega) (by omega) (by omega) (by omega) (by omega)) (h 44 15 (by omega) (by omega) (by omega) (by omega) (by omega) (by omega)) (fun b => h 54 b (by omega) (by omega) (by omega) (by omega) (by omega) (by omega))
theorem mG_w {v : Vw} {I0 I : zIM} {y : Nat → Nat} (hM : mG v I0) (h : oMx (fun a b => a = 45 ∧ 4 ≤ b ∧ b < 8) I0 I) (hy : ∀ p, p < 4 → I 45 (4 + p) = nI (y p)) : mG (vYs v y) I := by
  obtain ⟨a, b, c, d, e, f, i, g, j⟩ := hM
  have k : ∀ x z, x ≠ 55 ∧ x ≠ 58 ∧ x ≠ 59 ∧ (x = 44 → z < 16) ∧ ¬ (x = 45 ∧ 4 ≤ z ∧ z < 8) → I x z = I0 x z := fun x z ⟨h1, h2, h3, h5, h6⟩ => h x z h1 h2 h3 (fun q => Or.inl (h5 q)) h6
  exact ⟨(k 44 6 (by omega)).trans a, (k 44 9 (by omega)).trans b, fun p hp => (k 45 p (by omega)).trans (c p hp), hy, fun p hp => (k 45 (8 + p) (by omega)).trans (e p hp), fun p hp => (k 49 p (by omega)).trans (f p hp), fun p hp => (k 50 p (by omega)).trans (i p hp), fun p hp => (k 51 p (by omega)).trans (g p hp), fun hn => (k 49 0 (by omega)).trans (j hn)⟩
theorem oMx.gL {o : Lw} {I0 I : zIM} (h : oMx (fun a b => a = 45 ∧ 4 ≤ b ∧ b < 8) I0 I) (hL : rLaw o I0) : rLaw o I := hL.off (h 9 6 (by omega) (by omega) (by omega) (by omega) (by omega)) (fun b => h 12 b (by omega) (by omega) (by omega) (by omega) (by omega)) (h 44 15 (by omega) (by omega) (by omega) (by omega) (by omega)) (fun b => h 54 b (by omega) (by omega) (by omega) (by omega) (by omega))
section WY
variable {l : Launch} {G : zG} {d : Nat} {v : Vw} {o : Lw}
theorem cWant_29 (hv : vOk v) {I0 : zIM} {L0 : zLM} (hG : cG v I0) (hF : cF v I0) (hL : rLaw o I0) {p R : Nat} (hp : p < vn v) (hd : 10 ≤ d) : ∀ f w b m I L, f + w = 6 → oCx (fun a b => a = 3 ∧ b = p) I0 I → oCL L0 L → rNum v o I → sWd v o p f w b m = R → K_X8_wantedWay_29 l G d (qS (nI R) v o I0 L0) I L (nI p) (nI (vY v p)) m (nI b) (nI w)
  | 0, w, b, m, I, L, h, hI, hL2, hN, e => by
    have hn := hv.1
    have e : b = R := e
    subst e
    refine t_X8_wantedWay_29 ⟨fun c => ⟨p, rfl, by omega, rfl, fun x z h1 h2 h3 h6 h7 => ?_, hL2, hN.off (xI_ne (by omega)) (fun _ => xI_ne (by omega))⟩, fun c => absurd (nI_le (a := 6) (by omega) (by omega)) c⟩
    by_cases e : x = 3 ∧ z = p
    · obtain ⟨e1, e2⟩ := e
      subst e1; subst e2
      exact xI_eq.trans (hG.2.2.2.1 z (by omega)).symm
    · exact (xI_ne e).trans (hI x z h1 h2 h3 h6 h7 e)
  | f + 1, w, b, m, I, L, h, hI, hL2, hN, e => by
    have hn := hv.1
    have hv2 : vOk (vWy v p w) := vWy_ok hv (by omega)
    have hI2 : oCx (fun a b => a = 3 ∧ b < 4) I0 (xI I 3 p (nI w)) := fun x z h1 h2 h3 h6 h7 h8 => (xI_ne (by omega)).trans (hI x z h1 h2 h3 h6 h7 (by omega))
    have hG2 : cG (vWy v p w) (xI I 3 p (nI w)) := cG_w hG hI2 fun q hq => by
      by_cases e : q = p
      · subst e
        rw [xI_eq, wU_eq]
      · rw [xI_ne (by omega), wU_ne e, hI 3 q (by omega) (by omega) (by omega) (by omega) (by omega) (by omega)]
        exact hG.2.2.2.1 q hq
    have hF2 : cF (vWy v p w) (xI I 3 p (nI w)) := cF_y (hI2.gF hF)
    have hN2 : rNum (vWy v p w) o (xI I 3 p (nI w)) := rNum_y (hN.off (xI_ne (by omega)) (fun _ => xI_ne (by omega)))
    unfold sWd at e
    refine t_X8_wantedWay_29 ⟨fun c => absurd c (nI_ge (b := 6) (by omega) (by omega)), fun c => ⟨p, rfl, by omega, 8, _, by omega, cSolve hv2 hF2 hG2 (hI2.gL hL) hN2 (Nat.le_refl 8), fun I4 L4 hq => ?_⟩⟩
    have hI4 : oCx (fun a b => a = 3 ∧ b = p) I0 I4 := fun x z h1 h2 h3 h6 h7 h8 => (hq.2.2.2.1 x z h1 h2 h3 h6 h7).trans ((xI_ne h8).trans (hI x z h1 h2 h3 h6 h7 h8))
    refine bL 2 (cNow hv2 (hq.2.2.2.1.gG hG2) hq.1 (p := p) hp (Nat.le_refl 2)) (by omega) ⟨fun c1 => ?_, fun c1 => ?_⟩
    · rw [if_neg (Int64.not_lt.mpr c1)] at e
      rw [nI_1]
      exact cWant_29 hv hG hF hL hp hd f (w + 1) b m I4 L4 (by omega) hI4 (hL2.tr hq.2.2.2.2) (rNum_y' hq.num) e
    · rw [if_pos (Int64.not_le.mp c1)] at e
      rw [nI_1]
      exact cWant_29 hv hG hF hL hp hd f (w + 1) w _ I4 L4 (by omega) hI4 (hL2.tr hq.2.2.2.2) (rNum_y' hq.num) e
theorem cWanted {I : zIM} {L : zLM} (hv : vOk v) (hG : cG v I) (hF : cF v I) (hL : rLaw o I) (hN : rNum v o I) {p : Nat} (hp : p < vn v) (hd : 10 ≤ d) : zCi l G d mX8_wantedWay [.ref 0, .int (nI p)] I L (qS (nI (sWould v o p)) v o I L) := by
  have hn := hv.1
  refine t_X8_wantedWay ⟨p, rfl, by omega, 8, _, by omega, cSolve hv hF hG hL hN (Nat.le_refl 8), fun I4 L4 hq => bL 2 (cNow hv (hq.2.2.2.1.gG hG) hq.1 hp (Nat.le_refl 2)) (by omega) ?_⟩
  rw [hG.2.2.2.1 p (by omega)]
  exact cWant_29 hv hG hF hL hp hd 6 0 _ _ I4 L4 rfl (fun x z h1 h2 h3 h6 h7 h8 => hq.2.2.2.1 x z h1 h2 h3 h6 h7) hq.2.2.2.2 hq.num rfl
theorem mWant_21 (hv : vOk v) {I0 : zIM} {L0 : zLM} (hM : mG v I0) (hL : rLaw o I0) {p R : Nat} (hp : p < vn v) (hd : 108 ≤ d) : ∀ f w b m I L, f + w = 6 → oMx (fun a b => a = 45 ∧ b = 4 + p) I0 I → oML L0 L → sWd v o p f w b m = R → K_X9_wouldOf_21 l G d (qT (nI R) I0 L0) I L (nI p) (nI (vY v p)) m (nI b) (nI w)
  | 0, w, b, m, I, L, h, hI, hL2, e => by
    have hn := hv.1
    have e : b = R := e
    subst e
    refine t_X9_wouldOf_21 ⟨fun c => ⟨4 + p, q_4a p, by omega, rfl, fun x z h1 h2 h3 h5 => ?_, hL2⟩, fun c => absurd (nI_le (a := 6) (by omega) (by omega)) c⟩
    by_cases e : x = 45 ∧ z = 4 + p
    · obtain ⟨e1, e2⟩ := e
      subst e1; subst e2
      exact xI_eq.trans (hM.2.2.2.1 p (by omega)).symm
    · exact (xI_ne e).trans (hI x z h1 h2 h3 h5 e)
  | f + 1, w, b, m, I, L, h, hI, hL2, e => by
    have hn := hv.1
    have hv2 : vOk (vWy v p w) := vWy_ok hv (by omega)
    have hI2 : oMx (fun a b => a = 45 ∧ 4 ≤ b ∧ b < 8) I0 (xI I 45 (4 + p) (nI w)) := fun x z h1 h2 h3 h5 h8 => (xI_ne (by omega)).trans (hI x z h1 h2 h3 h5 (by omega))
    have hM2 : mG (vWy v p w) (xI I 45 (4 + p) (nI w)) := mG_w hM hI2 fun q hq => by
      by_cases e : q = p
      · subst e
        rw [xI_eq, wU_eq]
      · rw [xI_ne (by omega), wU_ne e, hI 45 (4 + q) (by omega) (by omega) (by omega) (by omega) (by omega)]
        exact hM.2.2.2.1 q hq
    unfold sWd at e
    refine t_X9_wouldOf_21 ⟨fun c => absurd c (nI_ge (b := 6) (by omega) (by omega)), fun c => ⟨4 + p, q_4a p, by omega, 106, _, by omega, mWorthOf (v := vWy v p w) hv2 hM2 (hI2.gL hL) hp (Nat.le_refl 106), ?_⟩⟩
    rintro y I4 L4 ⟨rfl, g1, g2⟩
    have hI4 : oMx (fun a b => a = 45 ∧ b = 4 + p) I0 I4 := fun x z h1 h2 h3 h5 h8 => (g1 x z h1 h2 h3 h5).trans ((xI_ne h8).trans (hI x z h1 h2 h3 h5 h8))
    rw [nI_1]
    refine ⟨fun c1 => ⟨fun _ => ?_, fun c2 => absurd c1 c2⟩, fun c1 => ⟨fun c2 => absurd c2 c1, fun _ => ?_⟩⟩
    · rw [if_neg (Int64.not_lt.mpr c1)] at e
      exact mWant_21 hv hM hL hp hd f (w + 1) b m I4 L4 (by omega) hI4 (hL2.tr g2) e
    · rw [if_pos (Int64.not_le.mp c1)] at e
      exact mWant_21 hv hM hL hp hd f (w + 1) w _ I4 L4 (by omega) hI4 (hL2.tr g2) e
theorem mWouldOf {I : zIM} {L : zLM} (hv : vOk v) (hM : mG v I) (hL : rLaw o I) {p : Nat} (hp : p < vn v) (hd : 108 ≤ d) : zCi l G d mX9_wouldOf [.ref 44, .int (nI p)] I L (qT (nI (sWould v o p)) I L) := by
  have hn := hv.1
  refine t_X9_wouldOf ⟨4 + p, q_4a p, by omega, 106, _, by omega, mWorthOf hv hM hL hp (Nat.le_refl 106), ?_⟩
  rintro y I4 L4 ⟨rfl, g1, g2⟩
  rw [hM.2.2.2.1 p (by omega)]
  exact mWant_21 hv hM hL hp hd 6 0 _ _ I4 L4 rfl (fun x z h1 h2 h3 h5 h8 => g1 x z h1 h2 h3 h5) g2 rfl
theorem s_would (x1 : Int32) : zStep l G mX8_would mX9_would [.int x1] := by
  refine zStep_of fun v o nb I L hR => ?_
  obtain ⟨hv, hG, hF, hM, hLw, hNm, -⟩ := id hR
  have hn := hv.1
  by_cases h1 : iP x1 (vn v)
  rotate_left
  · exact ⟨-1, t_X8_would (bBf 0 (cHasB _ hv hG) (by omega) h1 ⟨fun _ => qC.of rfl hNm, fun c => absurd rfl c⟩), fun I1 L1 hR1 _ _ => t_X9_would (bBf 1 (cIsPlayer9 _ hn hR1.2.2.2.1.1 (by omega)) (by omega) h1 ⟨fun _ => qM.of rfl, fun c => absurd rfl c⟩)⟩
  obtain ⟨p, hp, rfl⟩ := id h1
  exact ⟨nI (sWould v o p), t_X8_would (bBt 0 (cHasB _ hv hG) (by omega) h1 ⟨fun c => absurd c i1_0, fun _ => ⟨10, _, by omega, cWanted hv hG hF hLw hNm hp (Nat.le_refl 10), fun y I9 L9 hq => hq.up⟩⟩), fun I1 L1 hR1 _ _ => t_X9_would (bBt 1 (cIsPlayer9 _ hn hR1.2.2.2.1.1 (by omega)) (by omega) h1 ⟨fun c => absurd c i1_0, fun _ => ⟨108, _, by omega, mWouldOf hv hR1.2.2.2.1 hR1.2.2.2.2.1 hp (Nat.le_refl 108), fun y I9 L9 hq => hq.up⟩⟩)⟩
/-! rest -/
/-- the first, from p on, who would have another WAY; 9 -/
def sFM (v : Vw) (o : Lw) : Nat → Nat → Nat
  | 0, _ => 9
  | f + 1, p => if sWould v o p = vY v p then sFM v o f (p + 1) else p
theorem sFM_lt {v : Vw} {o : Lw} : ∀ f p, f + p = vn v → sFM v o f p = 9 ∨ sFM v o f p < vn v
  | 0, p, h => Or.inl rfl
  | f + 1, p, h => by
    unfold sFM
    split
    · exact sFM_lt f (p + 1) (by omega)
    · exact Or.inr (by omega)
def sMove (v : Vw) (o : Lw) (r : Nat) : Int32 := if r = 9 then -2 else nI (r * 6 + sWould v o r)
theorem cFM_2 (hv : vOk v) {I0 : zIM} {L0 : zLM} (hG : cG v I0) (hF : cF v I0) (hL : rLaw o I0) (hd : 12 ≤ d) (R : Nat) : ∀ f p I L, f + p = vn v → oC I0 I → oCL L0 L → rNum v o I → sFM v o f p = R → K_X8_firstMove_2 l G d (qS (sMove v o R) v o I0 L0) I L (nI p)
  | 0, p, I, L, h, hI, hL2, hN, e => by
    have hn := hv.1
    have e : 9 = R := e
    subst e
    exact t_X8_firstMove_2 ⟨fun c => ⟨rfl, hI, hL2, hN⟩, fun c => absurd (by rw [(hI.gG hG).1]; exact nI_le (by omega) (by omega)) c⟩
  | f + 1, p, I, L, h, hI, hL2, hN, e => by
    have hn := hv.1
    have hGI := hI.gG hG
    unfold sFM at e
    refine t_X8_firstMove_2 ⟨fun c => absurd c (by rw [hGI.1]; exact nI_ge (by omega) (by omega)), fun c => ⟨10, _, by omega, cWanted hv hGI (hI.gF hF) (hI.gL hL) hN (p := p) (by omega) (Nat.le_refl 10), ?_⟩⟩
    rintro y I2 L2 ⟨rfl, g1, g2, g3⟩
    have hw := sWould_le (o := o) hv (p := p) (by omega)
    have hy := (hv.2.2.1 p (by omega)).2.1
    refine ⟨p, rfl, by omega, ?_⟩
    rw [((hI.tr g1).gG hG).2.2.2.1 p (by omega)]
    refine ⟨fun c1 => ?_, fun c1 => ?_⟩
    · rw [if_pos (nI_inj (by omega) (by omega) c1)] at e
      rw [nI_1]
      exact cFM_2 hv hG hF hL hd R f (p + 1) I2 L2 (by omega) (hI.tr g1) (hL2.tr g2) g3 e
    · rw [if_neg (fun z => c1 (by rw [z]))] at e
      subst e
      refine ⟨?_, hI.tr g1, hL2.tr g2, g3⟩
      rw [sMove, if_neg (by omega), show (6 : Int32) = nI 6 from rfl, nI_mul, nI_add]
theorem cFirstMove {I : zIM} {L : zLM} (hv : vOk v) (hG : cG v I) (hF : cF v I) (hL : rLaw o I) (hN : rNum v o I) (hd : 12 ≤ d) : zCi l G d mX8_firstMove [.ref 0] I L (qS (sMove v o (sFM v o (vn v) 0)) v o I L) :=
  t_X8_firstMove (cFM_2 hv hG hF hL hd _ (vn v) 0 I L (by omega) oC.rf oCL.rf hN rfl)
theorem mRest_2 (hv : vOk v) {I0 : zIM} {L0 : zLM} (hM : mG v I0) (hL : rLaw o I0) (hd : 110 ≤ d) (R : Nat) : ∀ f p I L, f + p = vn v → oM I0 I → oML L0 L → sFM v o f p = R → K_X9_rest_2 l G d (qT (aI R) I0 L0) I L (nI p)
  | 0, p, I, L, h, hI, hL2, e => by
    have hn := hv.1
    have e : 9 = R := e
    subst e
    exact t_X9_rest_2 ⟨fun c => ⟨rfl, hI, hL2⟩, fun c => absurd (by rw [(hI.gG hM).1]; exact nI_le (by omega) (by omega)) c⟩
  | f + 1, p, I, L, h, hI, hL2, e => by
    have hn := hv.1
    have hGI := hI.gG hM
    unfold sFM at e
    refine t_X9_rest_2 ⟨fun c => absurd c (by rw [hGI.1]; exact nI_ge (by omega) (by omega)), fun c => ⟨108, _, by omega, mWouldOf hv hGI (hI.gL hL) (p := p) (by omega) (Nat.le_refl 108), ?_⟩⟩
    rintro y I2 L2 ⟨rfl, g1, g2⟩
    have hw := sWould_le (o := o) hv (p := p) (by omega)
    have hy := (hv.2.2.1 p (by omega)).2.1
    refine ⟨4 + p, q_4a p, by omega, ?_⟩
    rw [((hI.tr g1).gG hM).2.2.2.1 p (by omega)]
    refine ⟨fun c1 => ?_, fun c1 => ?_⟩
    · rw [if_pos (nI_inj (by omega) (by omega) c1)] at e
      rw [nI_1]
      exact mRest_2 hv hM hL hd R f (p + 1) I2 L2 (by omega) (hI.tr g1) (hL2.tr g2) e
    · rw [if_neg (fun z => c1 (by rw [z]))] at e
      subst e
      exact ⟨aI_ne (by omega), hI.tr g1, hL2.tr g2⟩
theorem mRest {I : zIM} {L : zLM} (hv : vOk v) (hM : mG v I) (hL : rLaw o I) (hd : 110 ≤ d) : zCi l G d mX9_rest [.ref 44] I L (qT (aI (sFM v o (vn v) 0)) I L) :=
  t_X9_rest (mRest_2 hv hM hL hd _ (vn v) 0 I L (by omega) oM.rf oML.rf rfl)
theorem q_div6 : ∀ p, p < 4 → ∀ k, k < 6 → nI (p * 6 + k) / (6 : Int32) = nI p ∧ nI (p * 6 + k) % (6 : Int32) = nI k := by decide +kernel
theorem s_rest : zStep l G mX8_rest mX9_rest [] := by
  refine zStep_of fun v o nb I L hR => ?_
  obtain ⟨hv, hG, hF, hM, hLw, hNm, -⟩ := id hR
  have hn := hv.1
  refine ⟨aI (sFM v o (vn v) 0), t_X8_rest ⟨12, _, by omega, cFirstMove hv hG hF hLw hNm (Nat.le_refl 12), ?_⟩, fun I1 L1 hR1 _ _ => zCi_mono (mRest hv hR1.2.2.2.1 hR1.2.2.2.2.1 (by omega)) fun _ _ _ h => h.up⟩
  rintro y I2 L2 ⟨rfl, g1, g2, g3⟩
  rcases sFM_lt (v := v) (o := o) (vn v) 0 (by omega) with e | e
  · rw [e]
    exact ⟨fun c => absurd rfl c, fun _ => ⟨rfl, g1.up, g2.up, g3⟩⟩
  · have hw := sWould_le (o := o) hv (p := sFM v o (vn v) 0) (by omega)
    rw [sMove, if_neg (by omega), (q_div6 _ (by omega) _ (show sWould v o (sFM v o (vn v) 0) < 6 by omega)).1]
    exact ⟨fun c => ⟨aI_ne (by omega), g1.up, g2.up, g3⟩, fun c => absurd c (nI_ne2 (by omega))⟩
end WY
