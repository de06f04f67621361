/-! ===== the class: solveAt, solve ===== -/
/-- the WORTHS of a level, as the class holds them -/
def cLv (v : Vw) (L : zLM) (t : Nat) (W : Nat → Nat → Nat → Int64) : Prop := ∀ s w p, s ≤ bAll (vn v) → bIn s w = true → p < vn v → L 16 (((t * 4 + w) * 16 + s) * 4 + p) = W s w p
/-- behind solveAt: at situation q stand the aim and the WORTHS; all else stays -/
def qAt (n q a : Nat) (V : Nat → Int64) (I0 : zIM) (L0 : zLM) : zIM → zLM → Prop := fun I' L' =>
  (∀ x b, ¬ (x = 17 ∧ b = q) → I' x b = I0 x b) ∧ (∀ x b, ¬ (x = 16 ∧ q * 4 ≤ b ∧ b < q * 4 + 4) → L' x b = L0 x b) ∧ I' 17 q = aI a ∧ ∀ p, p < n → L' 16 (q * 4 + p) = V p
section SA
variable {l : Launch} {G : zG} {d : Nat} {I : zIM} {L : zLM} {v : Vw} {o : Lw}
theorem cLv.get {t s w p : Nat} {W : Nat → Nat → Nat → Int64} (h : cLv v L t W) (hs : s ≤ bAll (vn v)) (hi : bIn s w = true) (hp : p < vn v) : L 16 (((t * 4 + w) * 16 + s) * 4 + p) = W s w p := h s w p hs hi hp
/-- numbers of a situation -/
theorem cBest_28 (hv : vOk v) (hF : cF v I) (hG : cG v I) (hN : cNm v o I) {t s w : Nat} {W : Nat → Nat → Nat → Int64} (hW : cLv v L (t + 1) W) (ht : t < 9) (hs : s ≤ bAll (vn v)) (h2 : 2 ≤ bPop s) (hi : bIn s w = true) (hd : 4 ≤ d) : ∀ f p b m, f + p = vn v → (b = 9 ∨ b < vn v) → K_X4_bestAim_28 l G d (zE (aI (sBA v o t W s w f p b m)) I L) I L (nI t) (nI w) (nI s) (nI (((t + 1) * 4 + vFol v w s) * 16 + s)) (aI b) m (nI p)
  | 0, p, b, m, h, hb => by
    have hn := hv.1
    exact t_X4_bestAim_28 ⟨fun c => zE.of rfl, fun c => absurd (by rw [hG.1]; exact nI_le (by omega) (by omega)) c⟩
  | f + 1, p, b, m, h, hb => by
    have hn := hv.1
    have h16 := vAll16 hv
    have hw := vsub' hv hs hi
    have hfw := vFol_lt hv hw s
    refine t_X4_bestAim_28 ⟨fun c => absurd c (by rw [hG.1]; exact nI_ge (by omega) (by omega)), fun c => ⟨fun c1 => ?_, fun c1 => ⟨fun c2 => ?_, fun c2 => ?_⟩⟩⟩
    · have e : p = w := nI_inj (by omega) (by omega) c1
      rw [nI_1, sBA, if_neg (fun z => z.1 e)]
      exact cBest_28 hv hF hG hN hW ht hs h2 hi hd f (p + 1) b m (by omega) hb
    · have e := (b_in s (by omega) p (by omega)).mp c2
      rw [nI_1, sBA, if_neg (fun z => by rw [e] at z; cases z.2)]
      exact cBest_28 hv hF hG hN hW ht hs h2 hi hd f (p + 1) b m (by omega) hb
    · have e1 : p ≠ w := fun z => c1 (by rw [z])
      have e2 : bIn s p = true := by
        cases hb : bIn s p with
        | true => rfl
        | false => exact absurd ((b_in s (by omega) p (by omega)).mpr hb) c2
      have hdl := vdel hv hs (p := p) (by omega)
      have hiw : bIn (bDel s p) w = true := by
        rw [b_del_in s (by omega) p (by omega) w (by omega), hi]
        simpa using fun z => e1 z.symm
      have hfd := vFol_lt hv hw (bDel s p)
      have x1 : sLs s p = bDel s p := if_neg (by omega)
      have x2 : sNm v o t s w p = sNum v o t (bPop s) w p := if_neg (by omega)
      have g1 := cWithout (l := l) (G := G) (d := 0) (I := I) (L := L) (s := s) (a := p) (by omega) (by omega)
      rw [aI_ne (show p ≠ 9 by omega), x1] at g1
      have g2 := cNumAt (l := l) (G := G) (d := 1) (L := L) hv hN (a := p) ht hw hs h2 (by omega) (Nat.le_refl 1)
      rw [aI_ne (show p ≠ 9 by omega), x2] at g2
      refine bE 0 g1 (by omega) (bE 1 (cSitNext hv hF hw (by omega) (Nat.le_refl 1)) (by omega) (bE 1 g2 (by omega) (bL 0 (cMixed (by omega) (by omega) (by omega)) (by omega) ?_)))
      rw [hW.get hdl (vFol_in hv hw hw hiw) hw, hW.get hs (vFol_in hv hw hw hi) hw, nI_1, sBA, if_pos ⟨e1, e2⟩]
      refine ⟨fun c3 => ?_, fun c3 => ?_⟩
      · rw [if_neg (show ¬ m < sTo v o t W s w p from Int64.not_lt.mpr c3)]
        exact cBest_28 hv hF hG hN hW ht hs h2 hi hd f (p + 1) b m (by omega) hb
      · rw [if_pos (show m < sTo v o t W s w p from Int64.not_le.mp c3)]
        have := cBest_28 hv hF hG hN hW ht hs h2 hi hd f (p + 1) p (sTo v o t W s w p) (by omega) (Or.inr (by omega))
        rw [aI_ne (show p ≠ 9 by omega)] at this
        exact this
theorem cBestAim (hv : vOk v) (hF : cF v I) (hG : cG v I) (hN : cNm v o I) {t s w : Nat} {W : Nat → Nat → Nat → Int64} (hW : cLv v L (t + 1) W) (ht : t < 9) (hs : s ≤ bAll (vn v)) (h2 : 2 ≤ bPop s) (hi : bIn s w = true) (hy : vY v w = 5) (hd : 4 ≤ d) : zCi l G d mX4_bestAim [.ref 14, .int (nI t), .int (nI w), .int (nI s)] I L (zE (aI (sAW v o t W s w)) I L) := by
  have hn := hv.1
  have h16 := vAll16 hv
  have hw := vsub' hv hs hi
  have hfw := vFol_lt hv hw s
  have g := cMixed (l := l) (G := G) (d := 0) (I := I) (L := L) (k := 0) (h := ((t + 1) * 4 + vFol v w s) * 16 + s) (m := ((t + 1) * 4 + vFol v w s) * 16 + s) (p := w) (by omega) (by omega) (by omega)
  rw [nI_0, hW.get hs (vFol_in hv hw hw hi) hw] at g
  refine t_X4_bestAim (bE 1 (cSitNext hv hF hw (by omega) (Nat.le_refl 1)) (by omega) (bL 0 g (by omega) ?_))
  have := cBest_28 (l := l) (G := G) (d := d) hv hF hG hN hW ht hs h2 hi hd (vn v) 0 9 (sMx 0 (W s (vFol v w s) w) (W s (vFol v w s) w)) (by omega) (Or.inl rfl)
  rw [nI_0] at this
  unfold sAW
  rw [if_pos hy]
  exact this
/-- the WORTHS of one situation are written, from player p on -/
theorem cSol_187 (hd : 1 ≤ d) (hv : vOk v) (hG : cG v I) {t s s2 w w1 w2 k a : Nat} {W : Nat → Nat → Nat → Int64} {I0 : zIM} {L0 : zLM} (ht : t < 9) (hw : w < 4) (hs : s < 16) (hs1 : s ≤ bAll (vn v)) (h1 : bIn s w1 = true) (hs2 : s2 ≤ bAll (vn v)) (h2 : bIn s2 w2 = true)
    (hI : ∀ x b, ¬ (x = 17 ∧ b = (t * 4 + w) * 16 + s) → I x b = I0 x b) (hA : I 17 ((t * 4 + w) * 16 + s) = aI a) : ∀ f p L, f + p = vn v → cLv v L (t + 1) W → (∀ x b, ¬ (x = 16 ∧ ((t * 4 + w) * 16 + s) * 4 ≤ b ∧ b < ((t * 4 + w) * 16 + s) * 4 + 4) → L x b = L0 x b) → (∀ p', p' < p → L 16 (((t * 4 + w) * 16 + s) * 4 + p') = sMx k (W s2 w2 p') (W s w1 p')) →
      K_X4_solveAt_187 l G d (qAt (vn v) ((t * 4 + w) * 16 + s) a (fun p => sMx k (W s2 w2 p) (W s w1 p)) I0 L0) I L (nI ((t * 4 + w) * 16 + s)) (nI k) (nI (((t + 1) * 4 + w1) * 16 + s)) (nI (((t + 1) * 4 + w2) * 16 + s2)) (nI p)
  | 0, p, L, h, hW, hL, hV => by
    have hn := hv.1
    exact t_X4_solveAt_187 ⟨fun c => ⟨hI, hL, hA, fun p' hp' => hV p' (by omega)⟩, fun c => absurd (by rw [hG.1]; exact nI_le (by omega) (by omega)) c⟩
  | f + 1, p, L, h, hW, hL, hV => by
    have hn := hv.1
    have h16 := vAll16 hv
    have l1 := vsub' hv hs1 h1
    have l2 := vsub' hv hs2 h2
    refine t_X4_solveAt_187 ⟨fun c => absurd c (by rw [hG.1]; exact nI_ge (by omega) (by omega)), fun c => bL 0 (cMixed (by omega) (by omega) (by omega)) (by omega) ⟨_, q_4p _ _, by omega, ?_⟩⟩
    rw [hW.get hs2 h2 (by omega), hW.get hs1 h1 (by omega), nI_1]
    refine cSol_187 hd hv hG ht hw hs hs1 h1 hs2 h2 hI hA f (p + 1) _ (by omega) (fun s' w' p' q1 q2 q3 => ?_) (fun x b q => (xL_ne (by omega)).trans (hL x b q)) (fun p' hp' => ?_)
    · have := vsub' hv q1 q2
      exact (xL_ne (by omega)).trans (hW s' w' p' q1 q2 q3)
    · by_cases e : p' = p
      · subst e
        exact xL_eq
      · exact (xL_ne (by omega)).trans (hV p' (by omega))
theorem cSol_61 (hv : vOk v) (hG : cG v I) {t s w a : Nat} {z : Int64} {I0 : zIM} {L0 : zLM} (ht : t ≤ 9) (hw : w < 4) (hs : s < 16)
    (hI : ∀ x b, ¬ (x = 17 ∧ b = (t * 4 + w) * 16 + s) → I x b = I0 x b) (hA : I 17 ((t * 4 + w) * 16 + s) = aI a) : ∀ f p L, f + p = vn v → (∀ x b, ¬ (x = 16 ∧ ((t * 4 + w) * 16 + s) * 4 ≤ b ∧ b < ((t * 4 + w) * 16 + s) * 4 + 4) → L x b = L0 x b) → (∀ p', p' < p → L 16 (((t * 4 + w) * 16 + s) * 4 + p') = if bIn s p' = true then z else 0) →
      K_X4_solveAt_61 l G d (qAt (vn v) ((t * 4 + w) * 16 + s) a (fun p => if bIn s p = true then z else 0) I0 L0) I L (nI s) (nI ((t * 4 + w) * 16 + s)) z (nI p)
  | 0, p, L, h, hL, hV => by
    have hn := hv.1
    exact t_X4_solveAt_61 ⟨fun c => ⟨hI, hL, hA, fun p' hp' => hV p' (by omega)⟩, fun c => absurd (by rw [hG.1]; exact nI_le (by omega) (by omega)) c⟩
  | f + 1, p, L, h, hL, hV => by
    have hn := hv.1
    have st : ∀ x : Int64, x = (if bIn s p = true then z else 0) → K_X4_solveAt_61 l G d (qAt (vn v) ((t * 4 + w) * 16 + s) a (fun p => if bIn s p = true then z else 0) I0 L0) I (xL L 16 (((t * 4 + w) * 16 + s) * 4 + p) x) (nI s) (nI ((t * 4 + w) * 16 + s)) z (nI p + 1) := by
      intro x hx
      rw [nI_1]
      refine cSol_61 hv hG ht hw hs hI hA f (p + 1) _ (by omega) (fun x b q => (xL_ne (by omega)).trans (hL x b q)) (fun p' hp' => ?_)
      by_cases e : p' = p
      · subst e
        exact xL_eq.trans hx
      · exact (xL_ne (by omega)).trans (hV p' (by omega))
    refine t_X4_solveAt_61 ⟨fun c => absurd c (by rw [hG.1]; exact nI_ge (by omega) (by omega)), fun c => ⟨fun c2 => ⟨_, q_4p _ _, by omega, st _ ?_⟩, fun c2 => ⟨_, q_4p _ _, by omega, st _ ?_⟩⟩⟩
    · rw [(b_in s hs p (by omega)).mp c2]
      rfl
    · refine (if_pos ?_).symm
      cases hb : bIn s p with
      | true => rfl
      | false => exact absurd ((b_in s hs p (by omega)).mpr hb) c2
theorem qAt_imp {n q a : Nat} {V V' : Nat → Int64} {I0 I' : zIM} {L0 L' : zLM} (h : qAt n q a V I0 L0 I' L') (hV : ∀ p, p < n → V p = V' p) : qAt n q a V' I0 L0 I' L' :=
  ⟨h.1, h.2.1, h.2.2.1, fun p hp => (h.2.2.2 p hp).trans (hV p hp)⟩
theorem cSolveAt (hv : vOk v) (hF : cF v I) (hG : cG v I) (hN : cNm v o I) {t s w : Nat} (hW : t < vB v → cLv v L (t + 1) (sWt v o (vB v - (t + 1)))) (ht : t ≤ vB v) (hs : s ≤ bAll (vn v)) (hi : bIn s w = true) (hd : 6 ≤ d) : zCv l G d mX4_solveAt [.ref 14, .int (nI t), .int (nI w), .int (nI s)] I L (qAt (vn v) ((t * 4 + w) * 16 + s) (sAm v o (vB v - t) s w) (sWt v o (vB v - t) s w) I L) := by
  have hn := hv.1
  have hb := hv.2.1
  have h16 := vAll16 hv
  have hw := vsub' hv hs hi
  have off : ∀ (q : Nat) (x : Int32) a b, ¬ (a = 17 ∧ b = q) → xI I 17 q x a b = I a b := fun q x a b h => xI_ne h
  refine t_X4_solveAt (bE 0 (cSit _ _ _) (by omega) ⟨1, _, by omega, cIsOver hv hG (by omega) (by omega) (Nat.le_refl 1), ?_⟩)
  rintro y _ _ ⟨hy, rfl, rfl⟩
  rcases hy with ⟨rfl, ho⟩ | ⟨rfl, ho⟩
  · have hpp := b_pop_le s (by omega)
    refine ⟨fun c => absurd c i1_0, fun _ => ⟨_, rfl, by omega, bE 0 (cBit s (by omega)) (by omega) ⟨_, rfl, by omega, vB v - t, ?_, by omega, ?_⟩⟩⟩
    · rw [show xI I 17 ((t * 4 + w) * 16 + s) (-2) 1 7 = I 1 7 from off _ _ 1 7 (by omega), hG.2.1, nI_sub ht]
    · rw [show xI I 17 ((t * 4 + w) * 16 + s) (-2) 7 (bPop s) = I 7 (bPop s) from off _ _ 7 _ (by omega), hG.2.2.2.2.2.2.2 _ (by omega), sAm_over ho]
      have := cSol_61 (l := l) (G := G) (d := d) (I := xI I 17 ((t * 4 + w) * 16 + s) (-2)) (a := 9) (I0 := I) (L0 := L) (t := t) (s := s) (w := w) (z := (nI (vZ v (bPop s))).toInt64 * zPOW (vB v - t)) hv (hG.off fun a b _ _ => off _ _ a b (by omega)) (by omega) (by omega) (by omega) (fun a b h => off _ _ a b h) xI_eq (vn v) 0 L (by omega) (fun _ _ _ => rfl) (fun p' hp' => absurd hp' (by omega))
      rw [nI_0, show (fun p => if bIn s p = true then (nI (vZ v (bPop s))).toInt64 * zPOW (vB v - t) else 0) = sWt v o (vB v - t) s w from funext fun p => (sWt_over ho).symm] at this
      exact this
  · have h1 : t < vB v := Nat.not_le.mp fun z => ho (Or.inl z)
    have h2 : 2 ≤ bPop s := Nat.not_lt.mp fun z => ho (Or.inr z)
    have hW := hW h1
    have hok : aOk v s w (sAW v o t (sWt v o (vB v - (t + 1))) s w) := sAW_ok hv hw hs
    have ha4 : sAW v o t (sWt v o (vB v - (t + 1))) s w = 9 ∨ sAW v o t (sWt v o (vB v - (t + 1))) s w < vn v := hok.elim Or.inl fun z => Or.inr z.1
    have hls := sLs_le hv hs hok
    have hli := sLs_in hv hs hok hi
    have key : ∃ j : Nat, nI ((t * 4 + w) * 16 + s) = nI j ∧ j < 640 ∧ ∃ (d2 : Nat) (P2 : Int32 → zIM → zLM → Prop), d2 + 1 ≤ d ∧ zCi l G d2 mX4_numberAt [.ref 14, .int (nI t), .int (nI w), .int (aI (sAW v o t (sWt v o (vB v - (t + 1))) s w)), .int (nI s)] (xI I 17 j (aI (sAW v o t (sWt v o (vB v - (t + 1))) s w))) L P2 ∧ ∀ (y2 : Int32) (I2 : zIM) (L2 : zLM), P2 y2 I2 L2 →
        (∃ (d9 : Nat) (P9 : Int32 → zIM → zLM → Prop), d9 + 1 ≤ d ∧ zCi l G d9 mX4_situationNext [.ref 14, .int (nI t), .int (nI w), .int (nI s)] I2 L2 P9 ∧ ∀ (y9 : Int32) (I9 : zIM) (L9 : zLM), P9 y9 I9 L9 → (∃ (d10 : Nat) (P10 : Int32 → zIM → zLM → Prop), d10 + 1 ≤ d ∧ zCi l G d10 mX4_without [.int (nI s), .int (aI (sAW v o t (sWt v o (vB v - (t + 1))) s w))] I9 L9 P10 ∧ ∀ (y10 : Int32) (I10 : zIM) (L10 : zLM), P10 y10 I10 L10 → (∃ (d11 : Nat) (P11 : Int32 → zIM → zLM → Prop), d11 + 1 ≤ d ∧ zCi l G d11 mX4_situationNext [.ref 14, .int (nI t), .int (nI w), .int y10] I10 L10 P11 ∧ ∀ (y11 : Int32) (I11 : zIM) (L11 : zLM), P11 y11 I11 L11 → (K_X4_solveAt_187 l G d (qAt (vn v) ((t * 4 + w) * 16 + s) (sAm v o (vB v - t) s w) (sWt v o (vB v - t) s w) I L) I11 L11 (nI ((t * 4 + w) * 16 + s)) y2 y9 y11 (0 : Int32))))) := by
      refine ⟨_, rfl, by omega, ?_⟩
      have hN' : cNm v o (xI I 17 ((t * 4 + w) * 16 + s) (aI (sAW v o t (sWt v o (vB v - (t + 1))) s w))) := hN.off fun b => off _ _ 19 b (by omega)
      have hF' : cF v (xI I 17 ((t * 4 + w) * 16 + s) (aI (sAW v o t (sWt v o (vB v - (t + 1))) s w))) := hF.off fun b => off _ _ 8 b (by omega)
      have hG' : cG v (xI I 17 ((t * 4 + w) * 16 + s) (aI (sAW v o t (sWt v o (vB v - (t + 1))) s w))) := hG.off fun a b _ _ => off _ _ a b (by omega)
      refine bE 1 (cNumAt hv hN' (by omega) hw hs h2 ha4 (Nat.le_refl 1)) (by omega) (bE 1 (cSitNext hv hF' hw (by omega) (Nat.le_refl 1)) (by omega) (bE 0 (cWithout (by omega) (by omega)) (by omega) (bE 1 (cSitNext hv hF' hw (by omega) (Nat.le_refl 1)) (by omega) ?_)))
      have := cSol_187 (l := l) (G := G) (d := d) (k := sNm v o t s w (sAW v o t (sWt v o (vB v - (t + 1))) s w)) (a := sAW v o t (sWt v o (vB v - (t + 1))) s w) (I0 := I) (L0 := L) (by omega) hv hG' (t := t) (s := s) (w := w) (s2 := sLs s (sAW v o t (sWt v o (vB v - (t + 1))) s w)) (by omega) (by omega) (by omega) hs (vFol_in hv hw hw hi) hls (vFol_in hv hw hw hli) (fun a b h => off _ _ a b h) xI_eq (vn v) 0 L (by omega) hW (fun _ _ _ => rfl) (fun p' hp' => absurd hp' (by omega))
      rw [nI_0, ← sAm_go ho] at this
      rw [← sAm_go ho]
      rw [show sWt v o (vB v - t) s w = fun p => sMx (sNm v o t s w (sAm v o (vB v - t) s w)) (sWt v o (vB v - (t + 1)) (sLs s (sAm v o (vB v - t) s w)) (vFol v w (sLs s (sAm v o (vB v - t) s w))) p) (sWt v o (vB v - (t + 1)) s (vFol v w s) p) from funext fun p => sWt_go ho]
      exact this
    refine ⟨fun _ => ⟨w, rfl, by omega, ?_⟩, fun c => absurd rfl c⟩
    rw [hG.2.2.2.1 w (by omega)]
    have hY := (hv.2.2.1 w (by omega)).2.1
    refine ⟨fun c => ?_, fun c => ?_⟩
    · have h5 : vY v w ≠ 5 := fun z => c (by rw [z]; rfl)
      refine bE 1 (cPlainAim hv hG hF hw (by omega) (Nat.le_refl 1)) (by omega) ?_
      rw [show sAW v o t (sWt v o (vB v - (t + 1))) s w = sPlain v w s from if_neg h5] at key
      exact key
    · have h5 : vY v w = 5 := nI_inj (by omega) (by omega) c
      exact bE 4 (cBestAim hv hF hG hN hW (by omega) hs h2 hi h5 (Nat.le_refl 4)) (by omega) key
end SA
