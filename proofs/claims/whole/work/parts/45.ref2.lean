/-! ===== the reference: worthBy, settles, ends1, solves ===== -/
/-- the WORTHS of a level, as the reference holds them -/
def mLv (v : Vw) (L : zLM) (t : Nat) (W : Nat → Nat → Nat → Int64) : Prop := ∀ s w p, s ≤ bAll (vn v) → bIn s w = true → p < vn v → L 57 (4 * ((t * 16 + s) * 4 + w) + p) = W s w p
theorem mLv.off {v : Vw} {L L' : zLM} {t : Nat} {W : Nat → Nat → Nat → Int64} (h : mLv v L t W) (ho : ∀ b, L' 57 b = L 57 b) : mLv v L' t W := fun s w p a b c => (ho _).trans (h s w p a b c)
section MS
variable {l : Launch} {G : zG} {d : Nat} {I : zIM} {L : zLM} {v : Vw} {o : Lw}
def qWB (n : Nat) (V : Nat → Int64) (I0 : zIM) (L0 : zLM) : zIM → zLM → Prop := fun I' L' => I0 = I' ∧ (∀ x b, x ≠ 60 → L' x b = L0 x b) ∧ ∀ p, p < n → L' 60 p = V p
theorem mWB_60 (hv : vOk v) (hM : mG v I) {s1 s2 k : Nat} {V : Nat → Int64} {L0 : zLM} (h1 : s1 < 640) (h2 : s2 < 640) (hV : ∀ p, p < vn v → sMx k (L0 57 (4 * s2 + p)) (L0 57 (4 * s1 + p)) = V p) : ∀ f p L, f + p = vn v → (∀ x b, x ≠ 60 → L x b = L0 x b) → (∀ p', p' < p → L 60 p' = V p') → K_X9_worthBy_60 l G d (qWB (vn v) V I L0) I L (nI k) (nI (4 * s1)) (nI (4 * s2)) (nI p)
  | 0, p, L, h, ho, hL => by
    have hn := hv.1
    exact t_X9_worthBy_60 ⟨fun c => ⟨rfl, ho, fun p' hp' => hL p' (by omega)⟩, fun c => absurd (by rw [hM.1]; exact nI_le (by omega) (by omega)) c⟩
  | f + 1, p, L, h, ho, hL => by
    have hn := hv.1
    refine t_X9_worthBy_60 ⟨fun c => absurd c (by rw [hM.1]; exact nI_ge (by omega) (by omega)), fun c => ⟨_, nI_add _ _, by omega, _, nI_add _ _, by omega, p, rfl, by omega, ?_⟩⟩
    rw [nI_1]
    refine mWB_60 hv hM h1 h2 hV f (p + 1) _ (by omega) (fun x b hx => (xL_ne (by omega)).trans (ho x b hx)) (fun p' hp' => ?_)
    by_cases e : p' = p
    · subst e
      refine xL_eq.trans ?_
      rw [ho 57 _ (by decide), ho 57 _ (by decide)]
      exact hV p' (by omega)
    · exact (xL_ne (by omega)).trans (hL p' (by omega))
theorem mWorthBy (hv : vOk v) (hM : mG v I) {t s w a k : Nat} {W : Nat → Nat → Nat → Int64} (hW : mLv v L (t + 1) W) (ht : t < 9) (hs : s ≤ bAll (vn v)) (hi : bIn s w = true) (ha : aOk v s w a) (hd : 2 ≤ d) :
    zCv l G d mX9_worthBy [.ref 44, .int (nI t), .int (nI s), .int (nI w), .int (nI a), .int (nI k)] I L (qWB (vn v) (fun p => sMx k (W (sLs s a) (vFol v w (sLs s a)) p) (W s (vFol v w s) p)) I L) := by
  have hn := hv.1
  have h16 := vAll16 hv
  have hw := vsub' hv hs hi
  have hls := sLs_le hv hs ha
  have hli := sLs_in hv hs ha hi
  have f1 := vFol_lt hv hw s
  have f2 := vFol_lt hv hw (sLs s a)
  have ha4 : a = 9 ∨ a < vn v := ha.elim Or.inl fun z => Or.inr z.1
  have fin := mWB_60 (l := l) (G := G) (d := d) hv hM (s1 := ((t + 1) * 16 + s) * 4 + vFol v w s) (s2 := ((t + 1) * 16 + sLs s a) * 4 + vFol v w (sLs s a)) (k := k) (L0 := L) (V := fun p => sMx k (W (sLs s a) (vFol v w (sLs s a)) p) (W s (vFol v w s) p)) (by omega) (by omega)
    (fun p hp => by rw [hW (sLs s a) _ p hls (vFol_in hv hw hw hli) hp, hW s _ p hs (vFol_in hv hw hw hi) hp]) (vn v) 0 L (by omega) (fun _ _ _ => rfl) (fun p' hp' => absurd hp' (by omega))
  rw [nI_0] at fin
  refine t_X9_worthBy (bE 1 (mNext hv hM hw (by omega) (Nat.le_refl 1)) (by omega) ?_)
  rw [nI_1]
  refine bE 0 (mState _ _ _) (by omega) ⟨fun c => ?_, fun c => ?_⟩
  · have h9 : a ≠ 9 := fun z => c (by rw [z]; rfl)
    have e : sLs s a = bDel s a := if_neg h9
    rw [b_del s (by omega) a (by omega), ← e]
    refine bE 1 (mNext hv hM hw (by omega) (Nat.le_refl 1)) (by omega) (bE 0 (mState _ _ _) (by omega) ?_)
    rw [q_4, q_4]
    exact fin
  · have h9 : a = 9 := (nI_9 (by omega)).mp c
    have e : sLs s a = s := if_pos h9
    rw [e] at fin ⊢
    refine bE 1 (mNext hv hM hw (by omega) (Nat.le_refl 1)) (by omega) (bE 0 (mState _ _ _) (by omega) ?_)
    rw [q_4]
    exact fin
/-- behind settles or ends1: at state q stand the aim, the number, the WORTHS -/
def qMt (n q a k : Nat) (V : Nat → Int64) (I0 : zIM) (L0 : zLM) : zIM → zLM → Prop := fun I' L' =>
  (∀ x b, x ≠ 55 → (x = 44 → b < 16 ∨ 20 < b) → ¬ ((x = 58 ∨ x = 59) ∧ b = q) → I' x b = I0 x b) ∧ (∀ x b, x ≠ 60 → ¬ (x = 57 ∧ 4 * q ≤ b ∧ b < 4 * q + 4) → L' x b = L0 x b) ∧ I' 58 q = nI a ∧ I' 59 q = nI k ∧ ∀ p, p < n → L' 57 (4 * q + p) = V p
theorem mSet_190 (hv : vOk v) (hM : mG v I) {q : Nat} {V : Nat → Int64} {P : zIM → zLM → Prop} {L0 : zLM} (hq : q < 640) (hP : ∀ L, (∀ x b, ¬ (x = 57 ∧ 4 * q ≤ b ∧ b < 4 * q + 4) → L x b = L0 x b) → (∀ p, p < vn v → L 57 (4 * q + p) = V p) → P I L) : ∀ f p L, f + p = vn v → (∀ x b, ¬ (x = 57 ∧ 4 * q ≤ b ∧ b < 4 * q + 4) → L x b = L0 x b) → (∀ p, p < vn v → L 60 p = V p) → (∀ p', p' < p → L 57 (4 * q + p') = V p') → K_X9_settles_190 l G d P I L (nI q) (nI p)
  | 0, p, L, h, ho, h6, hL => by
    have hn := hv.1
    exact t_X9_settles_190 ⟨fun c => hP L ho fun p' hp' => hL p' (by omega), fun c => absurd (by rw [hM.1]; exact nI_le (by omega) (by omega)) c⟩
  | f + 1, p, L, h, ho, h6, hL => by
    have hn := hv.1
    refine t_X9_settles_190 ⟨fun c => absurd c (by rw [hM.1]; exact nI_ge (by omega) (by omega)), fun c => ⟨p, rfl, by omega, 4 * q + p, by rw [q_4, nI_add], by omega, ?_⟩⟩
    rw [nI_1]
    refine mSet_190 hv hM hq hP f (p + 1) _ (by omega) (fun x b hx => (xL_ne (by omega)).trans (ho x b hx)) (fun p' hp' => (xL_ne (by omega)).trans (h6 p' hp')) (fun p' hp' => ?_)
    by_cases e : p' = p
    · subst e
      exact xL_eq.trans (h6 p' (by omega))
    · exact (xL_ne (by omega)).trans (hL p' (by omega))
/-- the end of settles: the aim a is known -/
theorem mSet_end (hv : vOk v) (hM : mG v I) (hL : rLaw o I) {t s w a : Nat} {W : Nat → Nat → Nat → Int64} {I0 : zIM} {L0 : zLM} (hI : mOff I0 I) (hL0 : ∀ x b, x ≠ 60 → L x b = L0 x b) (hW : mLv v L (t + 1) W) (ht : t < 9) (hs : s ≤ bAll (vn v)) (hi : bIn s w = true) (ha : aOk v s w a) (hd : 103 ≤ d) :
    ∃ (d3 : Nat) (P3 : Int32 → zIM → zLM → Prop), d3 + 1 ≤ d ∧ zCi l G d3 mX9_hitsAt [.ref 44, .int (nI t), .int (nI s), .int (nI w), .int (nI a)] (xI I 58 ((t * 16 + s) * 4 + w) (nI a)) L P3 ∧ ∀ (y3 : Int32) (I3 : zIM) (L3 : zLM), P3 y3 I3 L3 → (∃ (d4 : Nat) (P4 : zIM → zLM → Prop), d4 + 1 ≤ d ∧ zCv l G d4 mX9_worthBy [.ref 44, .int (nI t), .int (nI s), .int (nI w), .int (nI a), .int y3] (xI I3 59 ((t * 16 + s) * 4 + w) y3) L3 P4 ∧ ∀ (I4 : zIM) (L4 : zLM), P4 I4 L4 → (K_X9_settles_190 l G d (qMt (vn v) ((t * 16 + s) * 4 + w) a (sNm v o t s w a) (sVW v o t W s w a) I0 L0) I4 L4 (nI ((t * 16 + s) * 4 + w)) (0 : Int32))) := by
  have hn := hv.1
  have h16 := vAll16 hv
  have hw := vsub' hv hs hi
  have ha4 : a = 9 ∨ a < vn v := ha.elim Or.inl fun z => Or.inr z.1
  have o1 : ∀ x b, x ≠ 58 → xI I 58 ((t * 16 + s) * 4 + w) (nI a) x b = I x b := fun x b h => xI_ne (fun z => h z.1)
  have hM1 : mG v (xI I 58 ((t * 16 + s) * 4 + w) (nI a)) := hM.off (o1 _ _ (by decide)) (o1 _ _ (by decide)) (fun x b h => o1 x b (by omega))
  have hL1 : rLaw o (xI I 58 ((t * 16 + s) * 4 + w) (nI a)) := hL.off (o1 _ _ (by decide)) (fun _ => o1 _ _ (by decide)) (o1 _ _ (by decide)) (fun _ => o1 _ _ (by decide))
  refine ⟨101, _, by omega, mHitsAt hv hM1 hL1 (by omega) hw ha4 (by omega) (Nat.le_refl 101), ?_⟩
  rintro y3 I3 L3 ⟨e1, e2, h3⟩
  subst e1; subst e2
  have hM3 := h3.gG hM1
  have o3 : ∀ x b, x ≠ 59 → xI I3 59 ((t * 16 + s) * 4 + w) (nI (sNm v o t s w a)) x b = I3 x b := fun x b h => xI_ne (fun z => h z.1)
  have hM4 : mG v (xI I3 59 ((t * 16 + s) * 4 + w) (nI (sNm v o t s w a))) := hM3.off (o3 _ _ (by decide)) (o3 _ _ (by decide)) (fun x b h => o3 x b (by omega))
  refine ⟨2, _, by omega, mWorthBy hv hM4 hW ht hs hi ha (Nat.le_refl 2), ?_⟩
  rintro I4 L4 ⟨e4, h5, h6⟩
  subst e4
  have := mSet_190 (l := l) (G := G) (d := d) hv hM4 (q := (t * 16 + s) * 4 + w) (V := sVW v o t W s w a) (L0 := L4) (P := qMt (vn v) ((t * 16 + s) * 4 + w) a (sNm v o t s w a) (sVW v o t W s w a) I0 L0) (by omega) (fun L5 g1 g2 => ⟨fun x b q1 q2 q3 => ?_, fun x b q1 q2 => ?_, ?_, xI_eq, g2⟩) (vn v) 0 L4 (by omega) (fun _ _ _ => rfl) (fun p hp => h6 p hp) (fun p' hp' => absurd hp' (by omega))
  · rw [nI_0] at this
    exact this
  · rw [xI_ne (by omega), h3 x b q1 q2, xI_ne (by omega)]
    exact hI x b q1 q2
  · rw [g1 x b q2, h5 x b q1]
    exact hL0 x b q1
  · rw [o3 _ _ (by decide), h3 _ _ (by decide) (by omega)]
    exact xI_eq
theorem mSet_49 (hv : vOk v) {t s w : Nat} {W : Nat → Nat → Nat → Int64} {I0 : zIM} {L0 : zLM} (ht : t < 9) (hs : s ≤ bAll (vn v)) (hi : bIn s w = true) (hd : 103 ≤ d) (R : Nat) (hR : aOk v s w R) : ∀ f p b m I L, f + p = vn v → aOk v s w b → mG v I → rLaw o I → mOff I0 I → (∀ x b, x ≠ 60 → L x b = L0 x b) → mLv v L (t + 1) W → sBA v o t W s w f p b m = R →
    K_X9_settles_49 l G d (qMt (vn v) ((t * 16 + s) * 4 + w) R (sNm v o t s w R) (sVW v o t W s w R) I0 L0) I L (nI t) (nI s) (nI w) (nI ((t * 16 + s) * 4 + w)) (nI b) m (nI p)
  | 0, p, b, m, I, L, h, hb, hM, hL, hI, hL0, hW, e => by
    have hn := hv.1
    have h16 := vAll16 hv
    have hw := vsub' hv hs hi
    have e : b = R := e
    subst e
    exact t_X9_settles_49 ⟨fun c => ⟨_, rfl, by omega, mSet_end hv hM hL hI hL0 hW ht hs hi hb hd⟩, fun c => absurd (by rw [hM.1]; exact nI_le (by omega) (by omega)) c⟩
  | f + 1, p, b, m, I, L, h, hb, hM, hL, hI, hL0, hW, e => by
    have hn := hv.1
    have h16 := vAll16 hv
    have hw := vsub' hv hs hi
    unfold sBA at e
    refine t_X9_settles_49 ⟨fun c => absurd c (by rw [hM.1]; exact nI_ge (by omega) (by omega)), fun c => ⟨fun c1 => ?_, fun c1 => bB 0 (cIsIn9 (by omega) (by omega)) (by omega) (fun e2 => ⟨fun _ => ?_, fun c => absurd c i1_0⟩) (fun e2 => ⟨fun c => absurd rfl c, fun _ => ?_⟩)⟩⟩
    · have e1 : p = w := nI_inj (by omega) (by omega) c1
      rw [nI_1]
      rw [if_neg (fun z => z.1 e1)] at e
      exact mSet_49 hv ht hs hi hd R hR f (p + 1) b m I L (by omega) hb hM hL hI hL0 hW e
    · have e1 : p ≠ w := fun z => c1 (by rw [z])
      rw [if_pos ⟨e1, e2⟩] at e
      have hap : aOk v s w p := Or.inr ⟨by omega, e1, e2⟩
      have x1 : sLs s p = bDel s p := if_neg (by omega)
      have x2 : sNm v o t s w p = sNum v o t (bPop s) w p := if_neg (by omega)
      refine ⟨101, _, by omega, mHitsAt hv hM hL (by omega) hw (a := p) (by omega) (by omega) (Nat.le_refl 101), ?_⟩
      rintro y3 I3 L3 ⟨e3, e4, h3⟩
      subst e3; subst e4
      have hM3 := h3.gG hM
      refine ⟨2, _, by omega, mWorthBy hv hM3 hW ht hs hi hap (Nat.le_refl 2), ?_⟩
      rintro I4 L4 ⟨e4, h5, h6⟩
      subst e4
      have hx : L4 60 w = sTo v o t W s w p := by rw [h6 w hw, x1, x2]; rfl
      have hL4 : ∀ x b, x ≠ 60 → L4 x b = L0 x b := fun x b q => (h5 x b q).trans (hL0 x b q)
      have hW4 : mLv v L4 (t + 1) W := hW.off fun b => h5 57 b (by decide)
      refine ⟨w, rfl, by omega, ?_⟩
      rw [hx, nI_1]
      refine ⟨fun c3 => ⟨fun _ => ?_, fun c4 => absurd c3 c4⟩, fun c3 => ⟨fun c4 => absurd c4 c3, fun _ => ?_⟩⟩
      · rw [if_neg (show ¬ m < sTo v o t W s w p from Int64.not_lt.mpr c3)] at e
        exact mSet_49 hv ht hs hi hd R hR f (p + 1) b m I3 L4 (by omega) hb hM3 (h3.gL hL) (hI.tr h3) hL4 hW4 e
      · rw [if_pos (show m < sTo v o t W s w p from Int64.not_le.mp c3)] at e
        exact mSet_49 hv ht hs hi hd R hR f (p + 1) p _ I3 L4 (by omega) hap hM3 (h3.gL hL) (hI.tr h3) hL4 hW4 e
    · rw [nI_1]
      rw [if_neg (fun z => e2 z.2)] at e
      exact mSet_49 hv ht hs hi hd R hR f (p + 1) b m I L (by omega) hb hM hL hI hL0 hW e
theorem mSettles (hv : vOk v) (hM : mG v I) (hL : rLaw o I) {t s w : Nat} {W : Nat → Nat → Nat → Int64} (hW : mLv v L (t + 1) W) (ht : t < 9) (hs : s ≤ bAll (vn v)) (h2 : 2 ≤ bPop s) (hi : bIn s w = true) (hd : 103 ≤ d) :
    zCv l G d mX9_settles [.ref 44, .int (nI t), .int (nI s), .int (nI w)] I L (qMt (vn v) ((t * 16 + s) * 4 + w) (sAW v o t W s w) (sNm v o t s w (sAW v o t W s w)) (sVW v o t W s w (sAW v o t W s w)) I L) := by
  have hn := hv.1
  have h16 := vAll16 hv
  have hw := vsub' hv hs hi
  have hok : aOk v s w (sAW v o t W s w) := sAW_ok hv hw hs
  have hY := (hv.2.2.1 w (by omega)).2.1
  refine t_X9_settles (bE 0 (mState _ _ _) (by omega) (bE 2 (mPlain hv hM hs h2 hw (Nat.le_refl 2)) (by omega) ⟨4 + w, q_4a w, by omega, ?_⟩))
  rw [hM.2.2.2.1 w (by omega)]
  refine ⟨fun c => ⟨_, rfl, by omega, ?_⟩, fun c => ?_⟩
  · have h5 : vY v w ≠ 5 := fun z => c (by rw [z]; rfl)
    have e : sPlain v w s = sAW v o t W s w := (if_neg h5).symm
    rw [e]
    exact mSet_end hv hM hL mOff.rfl' (fun _ _ _ => rfl) hW ht hs hi hok hd
  · have h5 : vY v w = 5 := nI_inj (by omega) (by omega) c
    have e9 : sPlain v w s = 9 := by rw [sPlain, if_neg (by omega), if_neg (by omega), if_neg (by omega), if_neg (by omega)]
    have x1 : sLs s 9 = s := if_pos rfl
    have g := mWorthBy (l := l) (G := G) (d := 2) (a := 9) (k := 0) hv hM hW ht hs hi (Or.inl rfl) (Nat.le_refl 2)
    rw [nI_0] at g
    refine ⟨2, _, by omega, g, ?_⟩
    rintro I4 L4 ⟨e4, h5', h6⟩
    subst e4
    refine ⟨w, rfl, by omega, ?_⟩
    have hx : L4 60 w = sMx 0 (W s (vFol v w s) w) (W s (vFol v w s) w) := by rw [h6 w hw, x1]
    rw [hx, e9]
    have := mSet_49 (l := l) (G := G) (d := d) (o := o) hv ht hs hi hd (sAW v o t W s w) hok (vn v) 0 9 (sMx 0 (W s (vFol v w s) w) (W s (vFol v w s) w)) I L4 (by omega) (Or.inl rfl) hM hL mOff.rfl' (fun x b q => h5' x b q) (hW.off fun b => h5' 57 b (by decide)) (by unfold sAW; rw [if_pos h5])
    rw [nI_0] at this
    exact this
theorem mEnds_28 (hv : vOk v) (hM : mG v I) {t s w : Nat} {L0 : zLM} {I0 : zIM} (ht : t ≤ vB v) (hs : s < 16) (hw : w < 4) (hI : ∀ x b, x ≠ 55 → (x = 44 → b < 16 ∨ 20 < b) → ¬ ((x = 58 ∨ x = 59) ∧ b = (t * 16 + s) * 4 + w) → I x b = I0 x b) (h8 : I 58 ((t * 16 + s) * 4 + w) = nI 9) (h9 : I 59 ((t * 16 + s) * 4 + w) = nI 0) (hd : 1 ≤ d) : ∀ f p L, f + p = vn v → (∀ b, b ≤ 9 → L 56 b = zPOW b) → (∀ x b, ¬ (x = 57 ∧ 4 * ((t * 16 + s) * 4 + w) ≤ b ∧ b < 4 * ((t * 16 + s) * 4 + w) + 4) → L x b = L0 x b) → (∀ p', p' < p → L 57 (4 * ((t * 16 + s) * 4 + w) + p') = sEnd v (vB v - t) s p') →
    K_X9_ends1_28 l G d (qMt (vn v) ((t * 16 + s) * 4 + w) 9 0 (sEnd v (vB v - t) s) I0 L0) I L (nI t) (nI s) (nI ((t * 16 + s) * 4 + w)) (nI p)
  | 0, p, L, h, hp, ho, hL => by
    have hn := hv.1
    exact t_X9_ends1_28 ⟨fun c => ⟨hI, fun x b _ q => ho x b q, h8, h9, fun p' hp' => hL p' (by omega)⟩, fun c => absurd (by rw [hM.1]; exact nI_le (by omega) (by omega)) c⟩
  | f + 1, p, L, h, hp, ho, hL => by
    have hn := hv.1
    have hb := hv.2.1
    have hpp := b_pop_le s hs
    have st : ∀ x : Int64, x = sEnd v (vB v - t) s p → K_X9_ends1_28 l G d (qMt (vn v) ((t * 16 + s) * 4 + w) 9 0 (sEnd v (vB v - t) s) I0 L0) I (xL L 57 (4 * ((t * 16 + s) * 4 + w) + p) x) (nI t) (nI s) (nI ((t * 16 + s) * 4 + w)) (nI p + 1) := by
      intro x hx
      rw [nI_1]
      refine mEnds_28 hv hM ht hs hw hI h8 h9 hd f (p + 1) _ (by omega) (fun b q => (xL_ne (by omega)).trans (hp b q)) (fun x b q => (xL_ne (by omega)).trans (ho x b q)) (fun p' hp' => ?_)
      by_cases e : p' = p
      · subst e
        exact xL_eq.trans hx
      · exact (xL_ne (by omega)).trans (hL p' (by omega))
    refine t_X9_ends1_28 ⟨fun c => absurd c (by rw [hM.1]; exact nI_ge (by omega) (by omega)), fun c => bB 0 (cIsIn9 hs (by omega)) (by omega) (fun e => ⟨fun c => absurd c i1_0, fun _ => bE 0 (mBits hs) (by omega) ⟨_, rfl, by omega, vB v - t, ?_, by omega, _, by rw [q_4, nI_add], by omega, st _ ?_⟩⟩) (fun e => ⟨fun _ => ⟨_, by rw [q_4, nI_add], by omega, st _ ?_⟩, fun c => absurd rfl c⟩)⟩
    · rw [hM.2.1, nI_sub ht]
    · rw [hM.2.2.2.2.2.2.2.1 _ (by omega), hp _ (by omega), sEnd, if_pos e]
    · rw [sEnd, if_neg e]
theorem mEnds (hv : vOk v) (hM : mG v I) (hp : ∀ b, b ≤ 9 → L 56 b = zPOW b) {t s w : Nat} (ht : t ≤ vB v) (hs : s < 16) (hw : w < 4) (hd : 1 ≤ d) :
    zCv l G d mX9_ends1 [.ref 44, .int (nI t), .int (nI s), .int (nI w)] I L (qMt (vn v) ((t * 16 + s) * 4 + w) 9 0 (sEnd v (vB v - t) s) I L) := by
  have hb := hv.2.1
  refine t_X9_ends1 (bE 0 (mState _ _ _) (by omega) ⟨_, rfl, by omega, ?_⟩)
  have hM1 : mG v (xI (xI I 58 ((t * 16 + s) * 4 + w) (9 : Int32)) 59 ((t * 16 + s) * 4 + w) (0 : Int32)) := hM.off rfl rfl (fun x b h => by rw [xI_ne (by omega), xI_ne (by omega)])
  have := mEnds_28 (l := l) (G := G) (d := d) hv hM1 (I0 := I) (L0 := L) ht hs hw (fun x b _ _ q => by rw [xI_ne (by omega), xI_ne (by omega)]) ((xI_ne (by omega)).trans xI_eq) xI_eq hd (vn v) 0 L (by omega) hp (fun _ _ _ => rfl) (fun p' hp' => absurd hp' (by omega))
  rw [nI_0] at this
  exact this
end MS
/-! solves -/
def mDn (v : Vw) (o : Lw) (R : Nat → Nat → Nat → Prop) (I : zIM) (L : zLM) : Prop := ∀ t s w, t ≤ vB v → s ≤ bAll (vn v) → bIn s w = true → R t s w → I 58 ((t * 16 + s) * 4 + w) = nI (sAm v o (vB v - t) s w) ∧ I 59 ((t * 16 + s) * 4 + w) = nI (sNm v o t s w (sAm v o (vB v - t) s w)) ∧ ∀ p, p < vn v → L 57 (4 * ((t * 16 + s) * 4 + w) + p) = sWt v o (vB v - t) s w p
def mSv (v : Vw) (o : Lw) (I : zIM) (L : zLM) : Prop := ∀ t s w, t ≤ vB v → s ≤ bAll (vn v) → bIn s w = true → I 58 ((t * 16 + s) * 4 + w) = nI (sAm v o (vB v - t) s w) ∧ I 59 ((t * 16 + s) * 4 + w) = nI (sNm v o t s w (sAm v o (vB v - t) s w)) ∧ ∀ p, p < vn v → L 57 (4 * ((t * 16 + s) * 4 + w) + p) = sWt v o (vB v - t) s w p
def oM (I0 I : zIM) : Prop := ∀ a b, a ≠ 55 → a ≠ 58 → a ≠ 59 → (a = 44 → b < 16 ∨ 20 < b) → I a b = I0 a b
def oML (L0 L : zLM) : Prop := ∀ a b, a ≠ 56 → a ≠ 57 → a ≠ 60 → L a b = L0 a b
def qMv (v : Vw) (o : Lw) (I0 : zIM) (L0 : zLM) : zIM → zLM → Prop := fun I' L' => mSv v o I' L' ∧ (∀ b, b ≤ 9 → L' 56 b = zPOW b) ∧ oM I0 I' ∧ oML L0 L'
theorem zPOW_s : ∀ k, k < 9 → (12 : Int64) * zPOW k = zPOW (k + 1) := by decide +kernel
section MV
variable {l : Launch} {G : zG} {d : Nat} {v : Vw} {o : Lw} {I1 : zIM} {L1 : zLM} {P : zIM → zLM → Prop}
def tInv (v : Vw) (o : Lw) (I1 : zIM) (L1 : zLM) (R : Nat → Nat → Nat → Prop) (I : zIM) (L : zLM) : Prop := oM I1 I ∧ (∀ a b, a ≠ 57 → a ≠ 60 → L a b = L1 a b) ∧ mDn v o R I L
theorem oM.gG {I0 I : zIM} (h : oM I0 I) (hM : mG v I0) : mG v I := hM.off (h 44 6 (by decide) (by decide) (by decide) (by omega)) (h 44 9 (by decide) (by decide) (by decide) (by omega)) (fun a b _ => h a b (by omega) (by omega) (by omega) (by omega))
theorem oM.gL {I0 I : zIM} (h : oM I0 I) (hL : rLaw o I0) : rLaw o I := hL.off (h 9 6 (by decide) (by decide) (by decide) (by omega)) (fun b => h 12 b (by decide) (by decide) (by decide) (by omega)) (h 44 15 (by decide) (by decide) (by decide) (by omega)) (fun b => h 54 b (by decide) (by decide) (by decide) (by omega))
theorem mSl_60 (hv : vOk v) (hM : mG v I1) (hL : rLaw o I1) (hp : ∀ b, b ≤ 9 → L1 56 b = zPOW b) (hd : 105 ≤ d) {t s : Nat} (ht : t ≤ vB v) (hs : s ≤ bAll (vn v))
    (after : ∀ I L, tInv v o I1 L1 (fun t' s' _ => t + 1 ≤ t' ∨ t' = t ∧ s' < s + 1) I L → K_X9_solves_50 l G d P I L (nI t) (nI (s + 1))) : ∀ f w I L, f + w = vn v → tInv v o I1 L1 (fun t' s' w' => t + 1 ≤ t' ∨ t' = t ∧ (s' < s ∨ s' = s ∧ w' < w)) I L → K_X9_solves_60 l G d P I L (nI t) (nI s) (nI w)
  | 0, w, I, L, h, hI => by
    have hn := hv.1
    refine t_X9_solves_60 ⟨fun c => ?_, fun c => absurd (by rw [(hI.1.gG hM).1]; exact nI_le (by omega) (by omega)) c⟩
    rw [nI_1]
    refine after I L ⟨hI.1, hI.2.1, fun t' s' w' h1 h2 h3 h4 => hI.2.2 t' s' w' h1 h2 h3 ?_⟩
    have h4 : t + 1 ≤ t' ∨ t' = t ∧ s' < s + 1 := h4
    have := vsub' hv h2 h3
    show t + 1 ≤ t' ∨ t' = t ∧ (s' < s ∨ s' = s ∧ w' < w)
    omega
  | f + 1, w, I, L, h, hI => by
    have hn := hv.1
    have hb := hv.2.1
    have h16 := vAll16 hv
    have hMI : mG v I := hI.1.gG hM
    have hLI : rLaw o I := hI.1.gL hL
    have step : ∀ (a k : Nat) (V : Nat → Int64) I' L', qMt (vn v) ((t * 16 + s) * 4 + w) a k V I L I' L' → (bIn s w = true → a = sAm v o (vB v - t) s w ∧ k = sNm v o t s w (sAm v o (vB v - t) s w) ∧ ∀ p, V p = sWt v o (vB v - t) s w p) → K_X9_solves_60 l G d P I' L' (nI t) (nI s) (nI w + 1) := by
      rintro a k V I' L' ⟨q1, q2, q3, q4, q5⟩ hV
      rw [nI_1]
      refine mSl_60 hv hM hL hp hd ht hs after f (w + 1) I' L' (by omega) ⟨fun x b h1 h2 h3 h4 => (q1 x b h1 h4 (by omega)).trans (hI.1 x b h1 h2 h3 h4), fun x b h1 h2 => (q2 x b h2 (by omega)).trans (hI.2.1 x b h1 h2), fun t' s' w' h1 h2 h3 h4 => ?_⟩
      have h4 : t + 1 ≤ t' ∨ t' = t ∧ (s' < s ∨ s' = s ∧ w' < w + 1) := h4
      have hw' := vsub' hv h2 h3
      by_cases e : t' = t ∧ s' = s ∧ w' = w
      · obtain ⟨e1, e2, e3⟩ := e
        subst e1; subst e2; subst e3
        obtain ⟨r1, r2, r3⟩ := hV h3
        exact ⟨by rw [q3, r1], by rw [q4, r2], fun p hp' => (q5 p hp').trans (r3 p)⟩
      · obtain ⟨g1, g2, g3⟩ := hI.2.2 t' s' w' h1 h2 h3 (show t + 1 ≤ t' ∨ t' = t ∧ (s' < s ∨ s' = s ∧ w' < w) by omega)
        exact ⟨(q1 _ _ (by decide) (by omega) (by omega)).trans g1, (q1 _ _ (by decide) (by omega) (by omega)).trans g2, fun p hp' => (q2 _ _ (by decide) (by omega)).trans (g3 p hp')⟩
    refine t_X9_solves_60 ⟨fun c => absurd c (by rw [hMI.1]; exact nI_ge (by omega) (by omega)), fun c => bB 1 (mIsOver hv hMI (by omega) (by omega) (Nat.le_refl 1)) (by omega) (fun ho => ⟨fun c => absurd c i1_0, fun _ => ?_⟩) (fun ho => ⟨fun _ => bB 0 (cIsIn9 (by omega) (by omega)) (by omega) (fun e => ⟨fun c => absurd c i1_0, fun _ => ?_⟩) (fun e => ⟨fun _ => ?_, fun c => absurd rfl c⟩), fun c => absurd rfl c⟩)⟩
    · refine ⟨1, _, by omega, mEnds hv hMI (fun b hb' => (hI.2.1 56 b (by decide) (by decide)).trans (hp b hb')) ht (by omega) (by omega) (Nat.le_refl 1), fun I' L' hq => step 9 0 _ I' L' hq fun hi => ?_⟩
      rw [sAm_over ho]
      exact ⟨rfl, rfl, fun p => (sWt_over ho).symm⟩
    · have h1 : t < vB v := Nat.not_le.mp fun z => ho (Or.inl z)
      have h2 : 2 ≤ bPop s := Nat.not_lt.mp fun z => ho (Or.inr z)
      have hW : mLv v L (t + 1) (sWt v o (vB v - (t + 1))) := fun s' w' p q1 q2 q3 => (hI.2.2 (t + 1) s' w' (by omega) q1 q2 (Or.inl (Nat.le_refl _))).2.2 p q3
      refine ⟨103, _, by omega, mSettles hv hMI hLI hW (by omega) hs h2 e (Nat.le_refl 103), fun I' L' hq => step _ _ _ I' L' hq fun hi => ?_⟩
      rw [sAm_go ho]
      exact ⟨rfl, rfl, fun p => by rw [sWt_go ho, sAm_go ho]⟩
    · rw [nI_1]
      refine mSl_60 hv hM hL hp hd ht hs after f (w + 1) I L (by omega) ⟨hI.1, hI.2.1, fun t' s' w' h1 h2 h3 h4 => hI.2.2 t' s' w' h1 h2 h3 ?_⟩
      have h4 : t + 1 ≤ t' ∨ t' = t ∧ (s' < s ∨ s' = s ∧ w' < w + 1) := h4
      show t + 1 ≤ t' ∨ t' = t ∧ (s' < s ∨ s' = s ∧ w' < w)
      have h5 : ¬ (s' = s ∧ w' = w) := fun z => by
        rw [z.1, z.2] at h3
        exact e h3
      omega
theorem mSl_50 (hv : vOk v) (hM : mG v I1) (hL : rLaw o I1) (hp : ∀ b, b ≤ 9 → L1 56 b = zPOW b) (hd : 105 ≤ d) {t : Nat} (ht : t ≤ vB v)
    (after : ∀ I L, tInv v o I1 L1 (fun t' _ _ => t ≤ t') I L → K_X9_solves_44 l G d P I L (nI t + (-1 : Int32))) : ∀ f s I L, f + s = bAll (vn v) + 1 → tInv v o I1 L1 (fun t' s' _ => t + 1 ≤ t' ∨ t' = t ∧ s' < s) I L → K_X9_solves_50 l G d P I L (nI t) (nI s)
  | 0, s, I, L, h, hI => by
    have h16 := vAll16 hv
    refine t_X9_solves_50 (bE 0 (cAll9 hv.1 (hI.1.gG hM).1) (by omega) ⟨fun c => ?_, fun c => absurd (nI_lt (by omega) (by omega)) c⟩)
    refine after I L ⟨hI.1, hI.2.1, fun t' s' w' h1 h2 h3 h4 => hI.2.2 t' s' w' h1 h2 h3 ?_⟩
    have h4 : t ≤ t' := h4
    show t + 1 ≤ t' ∨ t' = t ∧ s' < s
    omega
  | f + 1, s, I, L, h, hI => by
    have h16 := vAll16 hv
    refine t_X9_solves_50 (bE 0 (cAll9 hv.1 (hI.1.gG hM).1) (by omega) ⟨fun c => absurd c (nI_nlt (by omega) (by omega)), fun c => ?_⟩)
    have := mSl_60 (l := l) (G := G) (P := P) hv hM hL hp hd ht (s := s) (by omega) (fun I L hI => mSl_50 hv hM hL hp hd ht after f (s + 1) I L (by omega) hI) (vn v) 0 I L (by omega) ⟨hI.1, hI.2.1, fun t' s' w' h1 h2 h3 h4 => hI.2.2 t' s' w' h1 h2 h3 ?_⟩
    · rw [nI_0] at this
      exact this
    · have h4 : t + 1 ≤ t' ∨ t' = t ∧ (s' < s ∨ s' = s ∧ w' < 0) := h4
      show t + 1 ≤ t' ∨ t' = t ∧ s' < s
      omega
theorem mSl_44 (hv : vOk v) (hM : mG v I1) (hL : rLaw o I1) (hp : ∀ b, b ≤ 9 → L1 56 b = zPOW b) (hd : 105 ≤ d) (hP : ∀ I L, oM I1 I → (∀ a b, a ≠ 57 → a ≠ 60 → L a b = L1 a b) → mSv v o I L → P I L) : ∀ k I L, k ≤ vB v + 1 → tInv v o I1 L1 (fun t' _ _ => k ≤ t') I L → K_X9_solves_44 l G d P I L (nI k + (-1 : Int32))
  | 0, I, L, h, hI => by
    refine t_X9_solves_44 ⟨fun c => hP I L hI.1 hI.2.1 fun t s w h1 h2 h3 => hI.2.2 t s w h1 h2 h3 (Nat.zero_le _), fun c => absurd (by decide +kernel) c⟩
  | k + 1, I, L, h, hI => by
    have hb := hv.2.1
    rw [i_dec k (by omega)]
    refine t_X9_solves_44 ⟨fun c => absurd c (nI_pos (by omega)), fun c => ?_⟩
    refine mSl_50 (s := 0) (f := bAll (vn v) + 1) hv hM hL hp hd (by omega) (fun I L hI => mSl_44 hv hM hL hp hd hP k I L (by omega) hI) I L (by omega) ⟨hI.1, hI.2.1, fun t' s' w' h1 h2 h3 h4 => hI.2.2 t' s' w' h1 h2 h3 ?_⟩
    have h4 : k + 1 ≤ t' ∨ t' = k ∧ s' < 0 := h4
    show k + 1 ≤ t'
    omega
theorem mPow_9 (hgo : ∀ L, (∀ b, b ≤ 9 → L 56 b = zPOW b) → (∀ a b, a ≠ 56 → L a b = L1 a b) → K_X9_solves_44 l G d P I1 L (I1 44 9)) : ∀ f k L, f + k = 9 → (∀ b, b ≤ k → L 56 b = zPOW b) → (∀ a b, a ≠ 56 → L a b = L1 a b) → K_X9_solves_9 l G d P I1 L (nI (k + 1))
  | 0, k, L, h, h1, h2 => by
    obtain rfl : k = 9 := by omega
    exact t_X9_solves_9 ⟨fun _ => hgo L h1 h2, fun c => absurd (by decide +kernel) c⟩
  | f + 1, k, L, h, h1, h2 => by
    refine t_X9_solves_9 ⟨fun c => absurd c (nI_nlt (a := 9) (b := k + 1) (by omega) (by omega)), fun c => ⟨k, nI_pred k, by omega, k + 1, rfl, by omega, ?_⟩⟩
    rw [nI_1, h1 k (Nat.le_refl k), zPOW_s k (by omega)]
    refine mPow_9 hgo f (k + 1) _ (by omega) (fun b hb => ?_) (fun a b ha => (xL_ne (by omega)).trans (h2 a b ha))
    by_cases e : b = k + 1
    · subst e
      exact xL_eq
    · exact (xL_ne (by omega)).trans (h1 b (by omega))
theorem mSolves {I : zIM} {L : zLM} (hv : vOk v) (hM : mG v I) (hL : rLaw o I) (hd : 105 ≤ d) : zCv l G d mX9_solves [.ref 44] I L (qMv v o I L) := by
  have hb := hv.2.1
  refine t_X9_solves ?_
  refine mPow_9 (l := l) (G := G) (d := d) (I1 := I) (L1 := L) (P := qMv v o I L) (fun L2 h1 h2 => ?_) 9 0 _ (by omega) (fun b hb' => ?_) (fun a b ha => xL_ne (by omega))
  · have := mSl_44 (l := l) (G := G) (P := qMv v o I L) hv hM hL h1 hd (fun I' L' q1 q2 q3 => ⟨q3, fun b hb' => (q2 56 b (by decide) (by decide)).trans (h1 b hb'), q1, fun a b g1 g2 g3 => (q2 a b g2 g3).trans (h2 a b g1)⟩) (vB v + 1) I L2 (Nat.le_refl _) ⟨fun _ _ _ _ _ _ => rfl, fun _ _ _ _ => rfl, fun t s w g1 g2 g3 g4 => absurd (show vB v + 1 ≤ t from g4) (by omega)⟩
    rw [i_dec (vB v) (by omega), ← hM.2.1] at this
    exact this
  · obtain rfl : b = 0 := by omega
    exact xL_eq
end MV
