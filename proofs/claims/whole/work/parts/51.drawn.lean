/-! ===== public calls: drawn, step ===== -/
theorem b_le : ∀ n, n < 5 → ∀ s, s < 16 → (∀ p, p < 4 → bIn s p = true → p < n) → s ≤ bAll n := by decide +kernel
def sRn (z : Int32) : Int32 := ((z.toUInt32 >>> ((8 : Int32).toUInt32 &&& Int32.toUInt32 31)).toInt32) % (12 : Int32)
/-- one FIGHT drawn: from (t, s, w, z) on; who is in at the end, and z -/
def sDw (v : Vw) (o : Lw) : Nat → Nat → Nat → Nat → Int32 → Int32 × Nat
  | 0, _, s, _, z => (z, s)
  | f + 1, t, s, w, z => if bPop s < 2 then (z, s) else if sAm v o (vB v - t) s w = 9 then sDw v o f (t + 1) s (vFol v w s) z
    else if nI (sNm v o t s w (sAm v o (vB v - t) s w)) ≤ sRn (z * (1103515245 : Int32) + (12345 : Int32)) then sDw v o f (t + 1) s (vFol v w s) (z * (1103515245 : Int32) + (12345 : Int32))
    else sDw v o f (t + 1) (bDel s (sAm v o (vB v - t) s w)) (vFol v w (bDel s (sAm v o (vB v - t) s w))) (z * (1103515245 : Int32) + (12345 : Int32))
def sDf (v : Vw) (o : Lw) (p : Nat) : Nat → Int32 → Int32 → Int32
  | 0, _, x => x
  | f + 1, z, x => sDf v o p f (sDw v o (vB v) 0 (bAll (vn v)) (vO v 0) z).1 (x + (if bIn (sDw v o (vB v) 0 (bAll (vn v)) (vO v 0) z).2 p = true then 1 else 0))
section DW
variable {l : Launch} {G : zG} {d : Nat} {v : Vw} {o : Lw}
theorem cDr_69 {I : zIM} {L : zLM} (hv : vOk v) (hG : cG v I) (hF : cF v I) (hS : cSv v o I L) (hN : cNm v o I) {P : Int32 → zIM → zLM → Prop} {p k N : Nat} {x5 : Int32} {E : Int32 × Nat} (hp : p < vn v)
    (next : K_X8_drawn_40 l G d P I L (nI N) (nI p) E.1 (x5 + (if bIn E.2 p = true then 1 else 0)) (nI (k + 1))) (hd : 3 ≤ d) : ∀ f t s w z, f + t = vB v → s ≤ bAll (vn v) → w < vn v → (2 ≤ bPop s → bIn s w = true) → sDw v o f t s w z = E → K_X8_drawn_69 l G d P I L (nI N) (nI p) z x5 (nI k) (nI s) (nI w) (nI t)
  | 0, t, s, w, z, h, hs, hw, hi, e => by
    have hb := hv.2.1
    have hn := hv.1
    have h16 := vAll16 hv
    have e : (z, s) = E := e
    subst e
    refine t_X8_drawn_69 ⟨fun c => ?_, fun c => absurd (by rw [hG.2.1]; exact nI_le (by omega) (by omega)) c⟩
    rw [nI_1, b_inv s (by omega) p (by omega)]
    exact next
  | f + 1, t, s, w, z, h, hs, hw, hi, e => by
    have hb := hv.2.1
    have hn := hv.1
    have h16 := vAll16 hv
    unfold sDw at e
    refine t_X8_drawn_69 ⟨fun c => absurd c (by rw [hG.2.1]; exact nI_ge (by omega) (by omega)), fun c => ⟨1, _, by omega, cIsOver hv hG (by omega) (by omega) (Nat.le_refl 1), ?_⟩⟩
    rintro y _ _ ⟨hy, rfl, rfl⟩
    rcases hy with ⟨rfl, ho⟩ | ⟨rfl, ho⟩
    · have h2 : bPop s < 2 := ho.elim (fun z => by omega) id
      rw [if_pos h2] at e
      subst e
      refine ⟨fun _ => ?_, fun c => absurd c i1_0⟩
      rw [nI_1, b_inv s (by omega) p (by omega)]
      exact next
    · have h2 : ¬ bPop s < 2 := fun z => ho (Or.inr z)
      have hi := hi (by omega)
      rw [if_neg h2] at e
      have hok := sAm_ok (o := o) hv hw hs (vB v - t)
      have ha4 : sAm v o (vB v - t) s w = 9 ∨ sAm v o (vB v - t) s w < vn v := hok.elim Or.inl fun z => Or.inr z.1
      refine ⟨fun c => absurd rfl c, fun _ => bE 1 (cAimAt hv hS (by omega) hs hi (Nat.le_refl 1)) (by omega) ⟨fun c1 => ?_, fun c1 => ?_⟩⟩
      · have e9 := (aI_2 (by omega)).mp c1
        rw [if_pos e9] at e
        refine bE 0 (cAfter hF hw hv (by omega)) (by omega) ?_
        rw [nI_1]
        exact cDr_69 hv hG hF hS hN hp next hd f (t + 1) s _ z (by omega) hs (vFol_lt hv hw s) (fun _ => vFol_in hv hw hw hi) e
      · have e9 : ¬ sAm v o (vB v - t) s w = 9 := fun z => c1 ((aI_2 (by omega)).mpr z)
        have hls := sLs_le hv hs hok
        have hli := sLs_in hv hs hok hi
        rw [if_neg e9] at e
        rw [sLs, if_neg e9] at hls hli
        refine bE 1 (cNumAt hv hN (by omega) hw hs (by omega) ha4 (Nat.le_refl 1)) (by omega) ⟨fun c2 => ?_, fun c2 => ?_⟩
        · rw [if_pos (show nI (sNm v o t s w (sAm v o (vB v - t) s w)) ≤ sRn (z * (1103515245 : Int32) + (12345 : Int32)) from c2)] at e
          refine bE 0 (cAfter hF hw hv (by omega)) (by omega) ?_
          rw [nI_1]
          exact cDr_69 hv hG hF hS hN hp next hd f (t + 1) s _ _ (by omega) hs (vFol_lt hv hw s) (fun _ => vFol_in hv hw hw hi) e
        · rw [if_neg (show ¬ nI (sNm v o t s w (sAm v o (vB v - t) s w)) ≤ sRn (z * (1103515245 : Int32) + (12345 : Int32)) from c2)] at e
          rw [aI_ne e9, b_del s (by omega) _ (by omega), nI_1]
          refine bE 0 (cAfter hF hw hv (by omega)) (by omega) ?_
          exact cDr_69 hv hG hF hS hN hp next hd f (t + 1) _ _ _ (by omega) hls (vFol_lt hv hw _) (fun _ => vFol_in hv hw hw hli) e
theorem cDr_40 {I : zIM} {L : zLM} (hv : vOk v) (hG : cG v I) (hF : cF v I) (hS : cSv v o I L) (hN : cNm v o I) {P : Int32 → zIM → zLM → Prop} {p N : Nat} {R : Int32} (hp : p < vn v) (hN30 : N ≤ 30) (hP : P R I L) (hd : 3 ≤ d) : ∀ f k z x, f + k = N → sDf v o p f z x = R → K_X8_drawn_40 l G d P I L (nI N) (nI p) z x (nI k)
  | 0, k, z, x, h, e => by
    have e : x = R := e
    subst e
    exact t_X8_drawn_40 ⟨fun _ => hP, fun c => absurd (nI_le (by omega) (by omega)) c⟩
  | f + 1, k, z, x, h, e => by
    have hn := hv.1
    unfold sDf at e
    refine t_X8_drawn_40 ⟨fun c => absurd c (nI_ge (by omega) (by omega)), fun _ => bE 0 (cAll hv hG) (by omega) (bE 0 (cFirst hv hG (vAll16 hv)) (by omega) ?_)⟩
    rw [vFirst_all hv (by omega)]
    have hO := (hv.2.2.2.2.1 0 (by omega)).1
    exact cDr_69 (t := 0) (E := sDw v o (vB v) 0 (bAll (vn v)) (vO v 0) z) hv hG hF hS hN hp (cDr_40 hv hG hF hS hN hp hN30 hP hd f (k + 1) _ _ (by omega) e) hd (vB v) _ _ z (by omega) (Nat.le_refl _) hO (fun _ => vAll_in hv hO) rfl
theorem mDr_58 {I : zIM} {L : zLM} (hv : vOk v) (hM : mG v I) (hS : mSv v o I L) {P : Int32 → zIM → zLM → Prop} {p k N : Nat} {x5 : Int32} {E : Int32 × Nat} (hp : p < vn v)
    (next : K_X9_drawn_35 l G d P I L (nI N) (nI p) E.1 (x5 + (if bIn E.2 p = true then 1 else 0)) (nI (k + 1))) (hd : 3 ≤ d) : ∀ f t s w z, f + t = vB v → s ≤ bAll (vn v) → w < vn v → (2 ≤ bPop s → bIn s w = true) → sDw v o f t s w z = E → K_X9_drawn_58 l G d P I L (nI N) (nI p) z x5 (nI k) (nI s) (nI w) (nI t) := by
  have hn := hv.1
  have hb := hv.2.1
  have h16 := vAll16 hv
  have fin : ∀ s z, s ≤ bAll (vn v) → (z, s) = E → ∃ (d3 : Nat) (P3 : Int32 → zIM → zLM → Prop), d3 + 1 ≤ d ∧ zCi l G d3 mX9_isIn [.int (nI s), .int (nI p)] I L P3 ∧ ∀ (y3 : Int32) (I3 : zIM) (L3 : zLM), P3 y3 I3 L3 → (((y3 = 0 → (K_X9_drawn_35 l G d P I3 L3 (nI N) (nI p) z (x5 + (0 : Int32)) (nI k + (1 : Int32)))) ∧ (¬ y3 = 0 → (K_X9_drawn_35 l G d P I3 L3 (nI N) (nI p) z (x5 + (1 : Int32)) (nI k + (1 : Int32)))))) := by
    intro s z hs e
    subst e
    rw [nI_1]
    refine bB 0 (cIsIn9 (by omega) (by omega)) (by omega) (fun e => ⟨fun c => absurd c i1_0, fun _ => ?_⟩) (fun e => ⟨fun _ => ?_, fun c => absurd rfl c⟩)
    · rw [if_pos e] at next
      exact next
    · rw [if_neg e] at next
      exact next
  intro f
  induction f with
  | zero =>
    intro t s w z h hs hw hi e
    exact t_X9_drawn_58 (bBt 1 (mIsOver hv hM (by omega) (by omega) (Nat.le_refl 1)) (by omega) (Or.inl (by omega)) ⟨fun _ => fin s z hs e, fun c => absurd c i1_0⟩)
  | succ f ih =>
    intro t s w z h hs hw hi e
    unfold sDw at e
    refine t_X9_drawn_58 (bB 1 (mIsOver hv hM (by omega) (by omega) (Nat.le_refl 1)) (by omega) (fun ho => ⟨fun _ => ?_, fun c => absurd c i1_0⟩) (fun ho => ⟨fun c => absurd rfl c, fun _ => ?_⟩))
    · have h2 : bPop s < 2 := ho.elim (fun z => by omega) id
      rw [if_pos h2] at e
      exact fin s z hs e
    · have h2 : ¬ bPop s < 2 := fun z => ho (Or.inr z)
      have hi := hi (by omega)
      rw [if_neg h2] at e
      have hok := sAm_ok (o := o) hv hw hs (vB v - t)
      have ha4 : sAm v o (vB v - t) s w = 9 ∨ sAm v o (vB v - t) s w < vn v := hok.elim Or.inl fun z => Or.inr z.1
      refine bE 0 (mState _ _ _) (by omega) ⟨_, rfl, by omega, ?_⟩
      obtain ⟨q1, q2, -⟩ := hS t s w (by omega) hs hi
      rw [q1, q2, nI_1]
      refine ⟨fun c1 => ?_, fun c1 => ⟨fun c2 => ?_, fun c2 => ?_⟩⟩
      · rw [if_pos ((nI_9 (by omega)).mp c1)] at e
        exact bE 1 (mNext hv hM hw (by omega) (Nat.le_refl 1)) (by omega) (ih (t + 1) s _ z (by omega) hs (vFol_lt hv hw s) (fun _ => vFol_in hv hw hw hi) e)
      · rw [if_neg (fun z => c1 (by rw [z]; rfl)), if_pos (show nI (sNm v o t s w (sAm v o (vB v - t) s w)) ≤ sRn (z * (1103515245 : Int32) + (12345 : Int32)) from c2)] at e
        exact bE 1 (mNext hv hM hw (by omega) (Nat.le_refl 1)) (by omega) (ih (t + 1) s _ _ (by omega) hs (vFol_lt hv hw s) (fun _ => vFol_in hv hw hw hi) e)
      · have e9 : ¬ sAm v o (vB v - t) s w = 9 := fun z => c1 (by rw [z]; rfl)
        rw [if_neg e9, if_neg (show ¬ nI (sNm v o t s w (sAm v o (vB v - t) s w)) ≤ sRn (z * (1103515245 : Int32) + (12345 : Int32)) from c2)] at e
        have hls := sLs_le hv hs hok
        have hli := sLs_in hv hs hok hi
        rw [sLs, if_neg e9] at hls hli
        rw [b_del s (by omega) _ (by omega)]
        exact bE 1 (mNext hv hM hw (by omega) (Nat.le_refl 1)) (by omega) (ih (t + 1) _ _ _ (by omega) hls (vFol_lt hv hw _) (fun _ => vFol_in hv hw hw hli) e)
theorem mDr_35 {I : zIM} {L : zLM} (hv : vOk v) (hM : mG v I) (hS : mSv v o I L) {P : Int32 → zIM → zLM → Prop} {p N : Nat} {R : Int32} (hp : p < vn v) (hN30 : N ≤ 30) (hP : P R I L) (hd : 3 ≤ d) : ∀ f k z x, f + k = N → sDf v o p f z x = R → K_X9_drawn_35 l G d P I L (nI N) (nI p) z x (nI k)
  | 0, k, z, x, h, e => by
    have e : x = R := e
    subst e
    exact t_X9_drawn_35 ⟨fun _ => hP, fun c => absurd (nI_le (by omega) (by omega)) c⟩
  | f + 1, k, z, x, h, e => by
    have hn := hv.1
    unfold sDf at e
    refine t_X9_drawn_35 ⟨fun c => absurd c (nI_ge (by omega) (by omega)), fun _ => bE 0 (cAll9 hn hM.1) (by omega) ?_⟩
    rw [hM.2.2.2.2.2.1 0 (by omega)]
    have hO := (hv.2.2.2.2.1 0 (by omega)).1
    exact mDr_58 (t := 0) (E := sDw v o (vB v) 0 (bAll (vn v)) (vO v 0) z) hv hM hS hp (mDr_35 hv hM hS hp hN30 hP hd f (k + 1) _ _ (by omega) e) hd (vB v) _ _ z (by omega) (Nat.le_refl _) hO (fun _ => vAll_in hv hO) rfl
theorem s_drawn (x1 x2 x3 : Int32) : zStep l G mX8_drawn mX9_drawn [.int x1, .int x2, .int x3] := by
  refine zStep_of fun v o nb I L hR => ?_
  obtain ⟨hv, hG, hF, hM, hLw, hNm, -⟩ := id hR
  have hn := hv.1
  by_cases h2 : iN x2 1 30
  rotate_left
  · refine ⟨-1, t_X8_drawn ⟨fun c => qC.of rfl hNm, fun c => ⟨fun c2 => qC.of rfl hNm, fun c2 => absurd ?_ h2⟩⟩, fun I1 L1 hR1 _ _ => t_X9_drawn (bBf 0 (cWithin9 _ 1 30 (by omega) (by omega)) (by omega) h2 ⟨fun _ => qM.of rfl, fun c => absurd rfl c⟩)⟩
    rw [iN_iff (by omega)]
    rw [Int32.lt_iff_toInt_lt, show (1 : Int32).toInt = 1 from by decide] at c
    rw [Int32.lt_iff_toInt_lt, show (30 : Int32).toInt = 30 from by decide] at c2
    omega
  have c1 : ¬ x2 < (1 : Int32) ∧ ¬ (30 : Int32) < x2 := by
    rw [iN_iff (by omega)] at h2
    rw [Int32.lt_iff_toInt_lt, show (1 : Int32).toInt = 1 from by decide, Int32.lt_iff_toInt_lt, show (30 : Int32).toInt = 30 from by decide]
    omega
  by_cases h1 : iP x3 (vn v)
  rotate_left
  · exact ⟨-1, t_X8_drawn ⟨fun c => absurd c c1.1, fun _ => ⟨fun c => absurd c c1.2, fun _ => bBf 0 (cHasB _ hv hG) (by omega) h1 ⟨fun c => absurd rfl c, fun _ => qC.of rfl hNm⟩⟩⟩, fun I1 L1 hR1 _ _ => t_X9_drawn (bBt 0 (cWithin9 _ 1 30 (by omega) (by omega)) (by omega) h2 ⟨fun c => absurd c i1_0, fun _ => bBf 1 (cIsPlayer9 _ hn hR1.2.2.2.1.1 (by omega)) (by omega) h1 ⟨fun c => absurd rfl c, fun _ => qM.of rfl⟩⟩)⟩
  obtain ⟨p, hp, rfl⟩ := id h1
  obtain ⟨N, hN1, hN, rfl⟩ := id h2
  refine ⟨sDf v o p N x1 0, t_X8_drawn ⟨fun c => absurd c c1.1, fun _ => ⟨fun c => absurd c c1.2, fun _ => bBt 0 (cHasB _ hv hG) (by omega) h1 ⟨fun _ => ⟨8, _, by omega, cSolve hv hF hG hLw hNm (Nat.le_refl 8), fun I9 L9 hq => ?_⟩, fun c => absurd c i1_0⟩⟩⟩, fun I1 L1 hR1 _ _ => t_X9_drawn (bBt 0 (cWithin9 _ 1 30 (by omega) (by omega)) (by omega) h2 ⟨fun c => absurd c i1_0, fun _ => bBt 1 (cIsPlayer9 _ hn hR1.2.2.2.1.1 (by omega)) (by omega) h1 ⟨fun _ => ⟨105, _, by omega, mSolves hv hR1.2.2.2.1 hR1.2.2.2.2.1 (Nat.le_refl 105), fun I9 L9 hq => ?_⟩, fun c => absurd c i1_0⟩⟩)⟩
  · exact cDr_40 hv (hq.2.2.2.1.gG hG) (hq.2.2.2.1.gF hF) hq.1 hq.2.1 hp hN (qC.sv hq rfl) (by omega) N 0 x1 0 (by omega) rfl
  · exact mDr_35 hv (hq.2.2.1.gG hR1.2.2.2.1) hq.1 hp hN (qM.sv hq rfl) (by omega) N 0 x1 0 (by omega) rfl
/-! step -/
/-- the deed goes on: class, reference -/
def qDc (e : Int32) (v : Vw) (o : Lw) (I : zIM) (L : zLM) (s t w : Nat) : Int32 → zIM → zLM → Prop := fun y I' L' => e = y ∧ oCx (fun a b => a = 20 ∧ b < 3) I I' ∧ oCL L L' ∧ rNum v o I' ∧ I' 20 0 = nI s ∧ I' 20 1 = nI t ∧ I' 20 2 = nI w
def qDm (e : Int32) (I : zIM) (L : zLM) (s t w : Nat) : Int32 → zIM → zLM → Prop := fun y I' L' => e = y ∧ oMx (fun a b => a = 44 ∧ 33 ≤ b ∧ b ≤ 35) I I' ∧ oML L L' ∧ I' 44 33 = nI s ∧ I' 44 35 = nI t ∧ I' 44 34 = nI w
theorem cThrow {I : zIM} {L : zLM} (hv : vOk v) (hF : cF v I) {s t w a : Nat} {h : Bool} {x : Int32} (hs : s < 16) (hw : w < vn v) (ha : h = true → a < 4 ∧ x = nI a) (d0 : I 20 0 = nI s) (d1 : I 20 1 = nI t) (d2 : I 20 2 = nI w) (hd : 1 ≤ d) : zCv l G d mX1_throwAt [.ref 20, .int x, .int (if h then 1 else 0)] I L (fun I' L' => L = L' ∧ (∀ x b, ¬ (x = 20 ∧ b < 3) → I' x b = I x b) ∧ I' 20 0 = nI (if h then bDel s a else s) ∧ I' 20 1 = nI (t + 1) ∧ I' 20 2 = nI (vFol v w (if h then bDel s a else s))) := by
  have hn := hv.1
  cases h with
  | false =>
    refine t_X1_throwAt ⟨fun _ => ?_, fun c => absurd rfl c⟩
    rw [d0, d2]
    refine bE 0 (cAfter hF hw hv hs) (by omega) ⟨rfl, fun x b hx => by rw [xI_ne (by omega), xI_ne (by omega)], ?_, ?_, ?_⟩
    · rw [xI_ne (by omega), xI_ne (by omega)]; exact d0
    · rw [xI_eq, d1, nI_1]
    · rw [xI_ne (by omega)]; exact xI_eq
  | true =>
    obtain ⟨ha4, rfl⟩ := ha rfl
    refine t_X1_throwAt ⟨fun c => absurd c i1_0, fun _ => ?_⟩
    rw [d0, d2, b_del s hs a ha4]
    have hF2 : cF v (xI I 20 0 (nI (bDel s a))) := hF.off fun b => xI_ne (by omega)
    refine bE 0 (cAfter hF2 hw hv (b_del_lt s hs a ha4)) (by omega) ⟨rfl, fun x b hx => by rw [xI_ne (by omega), xI_ne (by omega), xI_ne (by omega)], ?_, ?_, ?_⟩
    · rw [xI_ne (by omega), xI_ne (by omega)]; exact xI_eq
    · rw [xI_eq, xI_ne (by omega), d1, nI_1]
    · rw [xI_ne (by omega)]; exact xI_eq
theorem RelV.deed {v : Vw} {o : Lw} {nb : Nat} {I I1 I2 : zIM} {L L1 L2 : zLM} {e y1 y2 : Int32} {s t w : Nat} (h : RelV v o nb I L) (hk : dOk v s t w) (h1 : qDc e v o I L s t w y1 I1 L1) (h2 : qDm e I1 L1 s t w y2 I2 L2) : RelV v o nb I2 L2 := by
  obtain ⟨hv, hG, hF, hM, hLw, hNm, hTp, hDd, hIm, hCh, hBd, hTr, hSh⟩ := h
  obtain ⟨-, c1, c2, c3, c4, c5, c6⟩ := h1
  obtain ⟨-, m1, m2, m4, m5, m6⟩ := h2
  have k : ∀ a b, a ≠ 13 ∧ a ≠ 17 ∧ a ≠ 19 ∧ (a = 9 → b ≠ 8) ∧ (a = 14 → b ≠ 8) ∧ ¬ (a = 20 ∧ b < 3) ∧ a ≠ 55 ∧ a ≠ 58 ∧ a ≠ 59 ∧ (a = 44 → b < 16 ∨ 20 < b) ∧ ¬ (a = 44 ∧ 33 ≤ b ∧ b ≤ 35) → I2 a b = I a b := fun a b ⟨q1, q2, q3, q4, q5, q6, q7, q8, q9, q10, q11⟩ => (m1 a b q7 q8 q9 q10 q11).trans (c1 a b q1 q2 q3 q4 q5 q6)
  have kL : ∀ a b, a ≠ 16 ∧ a ≠ 56 ∧ a ≠ 57 ∧ a ≠ 60 → L2 a b = L a b := fun a b ⟨q1, q2, q3, q4⟩ => (m2 a b q2 q3 q4).trans (c2 a b q1)
  have k1 : ∀ a b, a ≠ 55 ∧ a ≠ 58 ∧ a ≠ 59 ∧ a ≠ 44 → I2 a b = I1 a b := fun a b ⟨q1, q2, q3, q4⟩ => m1 a b q1 q2 q3 (fun z => absurd z q4) (fun z => q4 z.1)
  refine ⟨hv, hG.off (fun a b _ _ => k a b (by omega)), hF.off (fun b => k 8 b (by omega)), hM.off (k _ _ (by omega)) (k _ _ (by omega)) (fun a b h => k a b (by omega)), hLw.off (k _ _ (by omega)) (fun b => k 12 b (by omega)) (k _ _ (by omega)) (fun b => k 54 b (by omega)), c3.off (k1 _ _ (by omega)) (fun b => k1 19 b (by omega)), hTp.off (k _ _ (by omega)) (k _ _ (by omega)) (fun a b h => k a b (by omega)), ⟨s, t, w, hk, (k1 _ _ (by omega)).trans c4, (k1 _ _ (by omega)).trans c5, (k1 _ _ (by omega)).trans c6, m4, m5, m6⟩, hIm.off (fun b h1 h2 => k 20 b (by omega)) (fun b h1 h2 => k 44 b (by omega)), hCh.off (Nat.le_refl _) (k _ _ (by omega)) (k _ _ (by omega)) (k _ _ (by omega)) (k _ _ (by omega)) (fun a b h => k a b (by omega)), hBd.off (k _ _ (by omega)) (k _ _ (by omega)) (fun a b h => k a b (by omega)), hTr.off (k _ _ (by omega)) (k _ _ (by omega)) (fun a b h => k a b (by omega)), hSh.off (Nat.le_refl _) (fun a b h => k a b (by omega)) (fun a b h => kL a b (by omega))⟩
theorem s_step (x1 : Int32) : zStep l G mX8_step mX9_step [.int x1] := by
  rintro I L ⟨v, o, nb, hR⟩
  have hR : RelV v o nb I L := hR
  obtain ⟨hv, hG, hF, hM, hLw, hNm, hTp, hDd, hIm, -⟩ := id hR
  obtain ⟨s, t, w, hk, d1, d2, d3, d4, d5, d6⟩ := id hDd
  obtain ⟨k1, k2, k3, k4, k5, k6⟩ := id hk
  have hn := hv.1
  have hb := hv.2.1
  have h16 := vAll16 hv
  have hs : s ≤ bAll (vn v) := b_le _ (by omega) s k1 fun p _ h => k2 p h
  by_cases hx : iN x1 0 11
  rotate_left
  · refine ⟨zE (-1) I L, t_X8_step (bBf 0 (cWithin8 _ 11 (by omega)) (by omega) hx ⟨fun c => absurd rfl c, fun _ => zE.of rfl⟩), ?_⟩
    rintro _ _ _ ⟨rfl, rfl, rfl⟩
    exact t_X9_step (bBf 0 (cWithin9 _ 0 11 (by omega) (by omega)) (by omega) hx ⟨fun c => absurd rfl c, fun _ => ⟨rfl, v, o, nb, hR⟩⟩)
  by_cases ho : sOver v s t
  · refine ⟨zE (-5) I L, t_X8_step (bBt 0 (cWithin8 _ 11 (by omega)) (by omega) hx ⟨fun _ => ?_, fun c => absurd c i1_0⟩), ?_⟩
    · rw [d1, d2]
      refine ⟨1, _, by omega, cIsOver hv hG k1 (by omega) (Nat.le_refl 1), ?_⟩
      rintro y _ _ ⟨hy, rfl, rfl⟩
      rcases hy with ⟨rfl, _⟩ | ⟨rfl, h⟩
      · exact ⟨fun c => absurd c i1_0, fun _ => zE.of rfl⟩
      · exact absurd ho h
    · rintro _ _ _ ⟨rfl, rfl, rfl⟩
      refine t_X9_step (bBt 0 (cWithin9 _ 0 11 (by omega) (by omega)) (by omega) hx ⟨fun _ => ?_, fun c => absurd c i1_0⟩)
      rw [d4, d5]
      exact bBt 1 (mIsOver hv hM k1 (by omega) (Nat.le_refl 1)) (by omega) ho ⟨fun c => absurd c i1_0, fun _ => ⟨rfl, v, o, nb, hR⟩⟩
  obtain ⟨x, -, hx11, rfl⟩ := id hx
  have ht : t < vB v := Nat.not_le.mp fun z => ho (Or.inl z)
  have h2 : 2 ≤ bPop s := Nat.not_lt.mp fun z => ho (Or.inr z)
  have hi := k6 h2
  have hw := vsub' hv hs hi
  have hok := sAm_ok (o := o) hv hw hs (vB v - t)
  have ha4 : sAm v o (vB v - t) s w = 9 ∨ sAm v o (vB v - t) s w < vn v := hok.elim Or.inl fun z => Or.inr z.1
  have hls := sLs_le hv hs hok
  have hli := sLs_in hv hs hok hi
  obtain ⟨a, ea⟩ : ∃ a, a = sAm v o (vB v - t) s w := ⟨_, rfl⟩
  rw [← ea] at hok ha4 hls hli
  obtain ⟨hit, ehit⟩ : ∃ hit : Bool, hit = decide (a ≠ 9 ∧ ¬ nI (sNm v o t s w a) ≤ nI x) := ⟨_, rfl⟩
  -- the position behind the throw
  have hs2 : (if hit then bDel s a else s) ≤ bAll (vn v) ∧ bIn (if hit then bDel s a else s) w = true := by
    cases hit with
    | false => exact ⟨hs, hi⟩
    | true =>
      have h9 : a ≠ 9 := by
        have := ehit.symm
        simp only [decide_eq_true_eq] at this
        exact this.1
      rw [sLs, if_neg h9] at hls hli
      exact ⟨hls, hli⟩
  have hk2 : dOk v (if hit then bDel s a else s) (t + 1) (vFol v w (if hit then bDel s a else s)) := ⟨by omega, fun p hp => vsub' hv hs2.1 hp, by omega, Nat.lt_of_lt_of_le (vFol_lt hv hw _) hn, fun _ => vFol_lt hv hw _, fun _ => vFol_in hv hw hw hs2.2⟩
  have hcw : ∀ {I0 : zIM} {L0 : zLM}, qSv v o I L I0 L0 → I0 20 0 = nI s ∧ I0 20 1 = nI t ∧ I0 20 2 = nI w := fun hq => ⟨(hq.2.2.2.1 _ _ (by omega) (by omega) (by omega) (by omega) (by omega)).trans d1, (hq.2.2.2.1 _ _ (by omega) (by omega) (by omega) (by omega) (by omega)).trans d2, (hq.2.2.2.1 _ _ (by omega) (by omega) (by omega) (by omega) (by omega)).trans d3⟩
  refine ⟨qDc ((100 : Int32) * nI w + (10 : Int32) * nI a + (if hit then 1 else 0)) v o I L (if hit then bDel s a else s) (t + 1) (vFol v w (if hit then bDel s a else s)), t_X8_step (bBt 0 (cWithin8 _ 11 (by omega)) (by omega) hx ⟨fun _ => ?_, fun c => absurd c i1_0⟩), ?_⟩
  · rw [d1, d2]
    refine ⟨1, _, by omega, cIsOver hv hG k1 (by omega) (Nat.le_refl 1), ?_⟩
    rintro y _ _ ⟨hy, rfl, rfl⟩
    rcases hy with ⟨rfl, h⟩ | ⟨rfl, -⟩
    · exact absurd h ho
    refine ⟨fun _ => ⟨8, _, by omega, cSolve hv hF hG hLw hNm (Nat.le_refl 8), fun I5 L5 hq => ?_⟩, fun c => absurd rfl c⟩
    obtain ⟨e1, e2, e3⟩ := hcw hq
    have hF5 := hq.2.2.2.1.gF hF
    have fin : ∀ I' L', (L5 = L' ∧ (∀ x b, ¬ (x = 20 ∧ b < 3) → I' x b = I5 x b) ∧ I' 20 0 = nI (if hit then bDel s a else s) ∧ I' 20 1 = nI (t + 1) ∧ I' 20 2 = nI (vFol v w (if hit then bDel s a else s))) → qDc ((100 : Int32) * nI w + (10 : Int32) * nI a + (if hit then 1 else 0)) v o I L (if hit then bDel s a else s) (t + 1) (vFol v w (if hit then bDel s a else s)) ((100 : Int32) * nI w + (10 : Int32) * nI a + (if hit then 1 else 0)) I' L' := by
      rintro I' L' ⟨rfl, g1, g2, g3, g4⟩
      exact ⟨rfl, fun x b h1 h2 h3 h6 h7 h8 => (g1 x b h8).trans (hq.2.2.2.1 x b h1 h2 h3 h6 h7), hq.2.2.2.2, hq.num.off (g1 _ _ (by omega)) (fun b => g1 19 b (by omega)), g2, g3, g4⟩
    rw [e1, e2, e3]
    refine bE 1 (cAimAt hv hq.1 (by omega) hs hi (Nat.le_refl 1)) (by omega) ?_
    rw [← ea]
    refine ⟨fun c => ?_, fun c => ?_⟩
    · have h9 : a = 9 := (aI_2 (by omega)).mp c
      have hf : hit = false := by rw [ehit]; simp [h9]
      rw [h9, hf] at fin
      refine ⟨1, _, by omega, cThrow (h := false) (a := a) hv hF5 k1 hw (fun z => by cases z) e1 e2 e3 (Nat.le_refl 1), fun I' L' g => ⟨fun z => absurd c z, fun _ => ?_⟩⟩
      rw [hf, h9]
      exact fin I' L' g
    · have h9 : ¬ a = 9 := fun z => c ((aI_2 (by omega)).mpr z)
      rw [e2, e1]
      refine bE 1 (cNumAt hv hq.2.1 (by omega) hw hs h2 ha4 (Nat.le_refl 1)) (by omega) ⟨fun c2 => ?_, fun c2 => ?_⟩
      · have hf : hit = false := by rw [ehit]; simp [c2]
        rw [hf] at fin
        refine ⟨1, _, by omega, cThrow (h := false) (a := a) hv hF5 k1 hw (fun z => by cases z) e1 e2 e3 (Nat.le_refl 1), fun I' L' g => ⟨fun _ => ?_, fun z => absurd z c⟩⟩
        rw [hf, aI_ne h9]
        exact fin I' L' g
      · have hf : hit = true := by rw [ehit]; simp [c2, h9]
        rw [hf] at fin
        refine ⟨1, _, by omega, cThrow (h := true) (a := a) hv hF5 k1 hw (fun _ => ⟨by omega, aI_ne h9⟩) e1 e2 e3 (Nat.le_refl 1), fun I' L' g => ⟨fun _ => ?_, fun z => absurd z c⟩⟩
        rw [hf, aI_ne h9]
        exact fin I' L' g
  · rintro y I1 L1 hc
    have hM1 : mG v I1 := hM.off (hc.2.1 _ _ (by omega) (by omega) (by omega) (by omega) (by omega) (by omega)) (hc.2.1 _ _ (by omega) (by omega) (by omega) (by omega) (by omega) (by omega)) (fun a b h => hc.2.1 a b (by omega) (by omega) (by omega) (by omega) (by omega) (by omega))
    have kk : ∀ a b, a ≠ 13 ∧ a ≠ 17 ∧ a ≠ 19 ∧ (a = 9 → b ≠ 8) ∧ (a = 14 → b ≠ 8) ∧ ¬ (a = 20 ∧ b < 3) → I1 a b = I a b := fun a b ⟨q1, q2, q3, q4, q5, q6⟩ => hc.2.1 a b q1 q2 q3 q4 q5 q6
    have hL1 : rLaw o I1 := hLw.off (kk _ _ (by omega)) (fun b => kk 12 b (by omega)) (kk _ _ (by omega)) (fun b => kk 54 b (by omega))
    have f4 : I1 44 33 = nI s := (kk _ _ (by omega)).trans d4
    have f5 : I1 44 35 = nI t := (kk _ _ (by omega)).trans d5
    have f6 : I1 44 34 = nI w := (kk _ _ (by omega)).trans d6
    have fin : ∀ y2 I2 L2, qDm ((100 : Int32) * nI w + (10 : Int32) * nI a + (if hit then 1 else 0)) I1 L1 (if hit then bDel s a else s) (t + 1) (vFol v w (if hit then bDel s a else s)) y2 I2 L2 → y = y2 ∧ Rel I2 L2 := fun y2 I2 L2 hm => ⟨hc.1.symm.trans hm.1, v, o, nb, hR.deed hk2 hc hm⟩
    refine zCi_mono ?_ fin
    refine t_X9_step (bBt 0 (cWithin9 _ 0 11 (by omega) (by omega)) (by omega) hx ⟨fun _ => ?_, fun c => absurd c i1_0⟩)
    rw [f4, f5]
    refine bBf 1 (mIsOver hv hM1 k1 (by omega) (Nat.le_refl 1)) (by omega) ho ⟨fun _ => ⟨105, _, by omega, mSolves hv hM1 hL1 (Nat.le_refl 105), fun I5 L5 hq => ?_⟩, fun c => absurd rfl c⟩
    have e4 : I5 44 33 = nI s := (hq.2.2.1 _ _ (by omega) (by omega) (by omega) (by omega)).trans f4
    have e5 : I5 44 35 = nI t := (hq.2.2.1 _ _ (by omega) (by omega) (by omega) (by omega)).trans f5
    have e6 : I5 44 34 = nI w := (hq.2.2.1 _ _ (by omega) (by omega) (by omega) (by omega)).trans f6
    have hM5 := hq.2.2.1.gG hM1
    obtain ⟨q1, q2, -⟩ := hq.1 t s w (by omega) hs hi
    rw [← ea] at q1 q2
    rw [e4, e5, e6]
    refine bE 0 (mState _ _ _) (by omega) ⟨_, rfl, by omega, ?_⟩
    rw [q1, q2, e4, e6]
    have end1 : ∀ s2, s2 = (if hit then bDel s a else s) → qDm ((100 : Int32) * nI w + (10 : Int32) * nI a + (if hit then 1 else 0)) I1 L1 (if hit then bDel s a else s) (t + 1) (vFol v w (if hit then bDel s a else s)) ((100 : Int32) * nI w + (10 : Int32) * nI a + (if hit then 1 else 0)) (xI (xI (xI I5 44 33 (nI s2)) 44 34 (nI (vFol v w s2))) 44 35 (xI I5 44 33 (nI s2) 44 35 + (1 : Int32))) L5 := by
      rintro s2 rfl
      refine ⟨rfl, fun x b h1 h2 h3 h4 h5 => ?_, hq.2.2.2, ?_, ?_, ?_⟩
      · rw [xI_ne (by omega), xI_ne (by omega), xI_ne (by omega)]
        exact hq.2.2.1 x b h1 h2 h3 h4
      · rw [xI_ne (by omega), xI_ne (by omega)]; exact xI_eq
      · rw [xI_eq, xI_ne (by omega), e5, nI_1]
      · rw [xI_ne (by omega)]; exact xI_eq
    have hMx : ∀ x, mG v (xI I5 44 33 x) := fun x => hM5.off (xI_ne (by omega)) (xI_ne (by omega)) (fun a b h => xI_ne (by omega))
    refine ⟨fun c => ?_, fun c => ⟨fun c2 => ?_, fun c2 => ?_⟩⟩
    · have h9 : a = 9 := (nI_9 (by omega)).mp c
      have hf : hit = false := by rw [ehit]; simp [h9]
      refine bE 1 (mNext hv (hMx _) hw k1 (Nat.le_refl 1)) (by omega) ?_
      have := end1 s (by rw [hf]; rfl)
      rw [hf] at this ⊢
      rw [show (100 : Int32) * nI w + (10 : Int32) * nI a + (if (false : Bool) = true then 1 else 0) = (100 : Int32) * nI w + (10 : Int32) * nI a from Int32.add_zero _] at this ⊢
      exact this
    · have hf : hit = false := by rw [ehit]; simp [c2]
      refine bE 1 (mNext hv (hMx _) hw k1 (Nat.le_refl 1)) (by omega) ?_
      have := end1 s (by rw [hf]; rfl)
      rw [hf] at this ⊢
      rw [show (100 : Int32) * nI w + (10 : Int32) * nI a + (if (false : Bool) = true then 1 else 0) = (100 : Int32) * nI w + (10 : Int32) * nI a from Int32.add_zero _] at this ⊢
      exact this
    · have h9 : ¬ a = 9 := fun z => c (by rw [z]; rfl)
      have hf : hit = true := by rw [ehit]; simp [c2, h9]
      rw [b_del s k1 a (by omega)]
      refine bE 1 (mNext hv (hMx _) hw (b_del_lt s k1 a (by omega)) (Nat.le_refl 1)) (by omega) ?_
      have := end1 (bDel s a) (by rw [hf]; rfl)
      rw [hf] at this ⊢
      exact this
end DW
