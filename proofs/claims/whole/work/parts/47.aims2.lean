/-! ===== public calls: aims, begin, fair, league, points ===== -/
section AC
variable {l : Launch} {G : zG} {d : Nat} {I : zIM} {L : zLM} {v : Vw} {o : Lw}
theorem cWithinM8 (x : Int32) {n : Nat} (hn : n < 1000) : zCi l G d mX8_isWithin [.int x, .int (nI n - (1 : Int32))] I L (zB (iP x n) I L) := by
  have e0 : x < 0 ↔ x.toInt < 0 := by rw [Int32.lt_iff_toInt_lt, Int32.toInt_zero]
  have e1 : nI n - (1 : Int32) < x ↔ (n : Int) - 1 < x.toInt := by rw [Int32.lt_iff_toInt_lt, nI_m n (by omega)]
  refine t_X8_isWithin ⟨fun c => zB.n ?_, fun c => ⟨fun c2 => zB.n ?_, fun c2 => zB.y ?_⟩⟩
  · rw [iP_iff (by omega)]; rw [e0] at c; omega
  · rw [iP_iff (by omega)]; rw [e1] at c2; omega
  · rw [iP_iff (by omega)]; rw [e0] at c; rw [e1] at c2; omega
theorem cWithinM9 (x : Int32) {n : Nat} (hn : n < 1000) : zCi l G d mX9_within [.long (x.toInt64), .long (0 : Int64), .long ((nI n - (1 : Int32)).toInt64)] I L (zB (iP x n) I L) := by
  have e0 : (x.toInt64 < 0 ↔ x.toInt < 0) := by rw [Int64.lt_iff_toInt_lt, Int32.toInt_toInt64, Int64.toInt_zero]
  have e1 : ((nI n - (1 : Int32)).toInt64 < x.toInt64 ↔ (n : Int) - 1 < x.toInt) := by rw [Int64.lt_iff_toInt_lt, Int32.toInt_toInt64, Int32.toInt_toInt64, nI_m n (by omega)]
  refine t_X9_within ⟨fun c => zB.n ?_, fun c => ⟨fun c2 => zB.n ?_, fun c2 => zB.y ?_⟩⟩
  · rw [iP_iff (by omega)]; rw [e0] at c; omega
  · rw [iP_iff (by omega)]; rw [e1] at c2; omega
  · rw [iP_iff (by omega)]; rw [e0] at c; rw [e1] at c2; omega
theorem cWithinI9 (x : Int32) {n : Nat} (hn : n < 1000) : zCi l G d mX9_within [.long (x.toInt64), .long (0 : Int64), .long ((nI n).toInt64)] I L (zB (iN x 0 n) I L) := by
  rw [nI_l (by omega)]
  exact cWithin9 x 0 n (by omega) (by omega)
theorem cAimAt (hv : vOk v) (hS : cSv v o I L) {t s w : Nat} (ht : t ≤ vB v) (hs : s ≤ bAll (vn v)) (hi : bIn s w = true) (hd : 1 ≤ d) : zCi l G d mX4_aimAt [.ref 14, .int (nI t), .int (nI w), .int (nI s)] I L (zE (aI (sAm v o (vB v - t) s w)) I L) := by
  have hn := hv.1
  have hb := hv.2.1
  have h16 := vAll16 hv
  have hw := vsub' hv hs hi
  exact t_X4_aimAt (bE 0 (cSit _ _ _) (by omega) ⟨_, rfl, by omega, zE.of (hS t s w ht hs hi).1⟩)
theorem s_aims (x1 x2 x3 : Int32) : zStep l G mX8_aims mX9_aims [.int x1, .int x2, .int x3] := by
  refine zStep_of fun v o nb I L hR => ?_
  obtain ⟨hv, hG, hF, hM, hLw, hNm, -⟩ := id hR
  have hn := hv.1
  have hb := hv.2.1
  have h16 := vAll16 hv
  by_cases h1 : iP x1 (vn v)
  rotate_left
  · exact ⟨-1, t_X8_aims (bBf 0 (cHasB _ hv hG) (by omega) h1 ⟨fun _ => qC.of rfl hNm, fun c => absurd rfl c⟩), fun I1 L1 hR1 _ _ => t_X9_aims (bBf 1 (cIsPlayer9 _ hn hR1.2.2.2.1.1 (by omega)) (by omega) h1 ⟨fun _ => qM.of rfl, fun c => absurd rfl c⟩)⟩
  by_cases h2 : iN x2 0 (bAll (vn v))
  rotate_left
  · exact ⟨-1, t_X8_aims (bBt 0 (cHasB _ hv hG) (by omega) h1 ⟨fun c => absurd c i1_0, fun _ => bE 0 (cAll hv hG) (by omega) (bBf 0 (cWithin8 _ _ (by omega)) (by omega) h2 ⟨fun _ => qC.of rfl hNm, fun c => absurd rfl c⟩)⟩),
      fun I1 L1 hR1 _ _ => t_X9_aims (bBt 1 (cIsPlayer9 _ hn hR1.2.2.2.1.1 (by omega)) (by omega) h1 ⟨fun c => absurd c i1_0, fun _ => bE 0 (cAll9 hn hR1.2.2.2.1.1) (by omega) (bBf 0 (cWithinI9 _ (by omega)) (by omega) h2 ⟨fun _ => qM.of rfl, fun c => absurd rfl c⟩)⟩)⟩
  obtain ⟨p, hp, rfl⟩ := id h1
  obtain ⟨s, -, hs, rfl⟩ := id h2
  by_cases h4 : bIn s p = true
  rotate_left
  · have e4 : bIn s p = false := by
      cases hb : bIn s p with
      | true => exact absurd hb h4
      | false => rfl
    refine ⟨-1, t_X8_aims (bBt 0 (cHasB _ hv hG) (by omega) h1 ⟨fun c => absurd c i1_0, fun _ => bE 0 (cAll hv hG) (by omega) (bBt 0 (cWithin8 _ _ (by omega)) (by omega) h2 ⟨fun c => absurd c i1_0, fun _ => ?_⟩)⟩),
      fun I1 L1 hR1 _ _ => t_X9_aims (bBt 1 (cIsPlayer9 _ hn hR1.2.2.2.1.1 (by omega)) (by omega) h1 ⟨fun c => absurd c i1_0, fun _ => bE 0 (cAll9 hn hR1.2.2.2.1.1) (by omega) (bBt 0 (cWithinI9 _ (by omega)) (by omega) h2 ⟨fun c => absurd c i1_0, fun _ => bBf 0 (cIsIn9 (by omega) (by omega)) (by omega) h4 ⟨fun _ => qM.of rfl, fun c => absurd rfl c⟩⟩)⟩)⟩
    rw [hG.2.1]
    exact bB 0 (cWithinM8 x3 (by omega)) (by omega) (fun _ => ⟨fun _ => ⟨fun c => absurd ((b_in s (by omega) p (by omega)).mpr e4) c, fun _ => qC.of rfl hNm⟩, fun c => absurd c i1_0⟩) (fun _ => ⟨fun c => absurd rfl c, fun _ => qC.of rfl hNm⟩)
  have b4 : ¬ ((nI s >>> (nI p &&& 31)) &&& (1 : Int32)) = 0 := fun z => by
    have := (b_in s (by omega) p (by omega)).mp z
    rw [h4] at this
    cases this
  by_cases h3 : iP x3 (vB v)
  rotate_left
  · refine ⟨-1, t_X8_aims (bBt 0 (cHasB _ hv hG) (by omega) h1 ⟨fun c => absurd c i1_0, fun _ => bE 0 (cAll hv hG) (by omega) (bBt 0 (cWithin8 _ _ (by omega)) (by omega) h2 ⟨fun c => absurd c i1_0, fun _ => ?_⟩)⟩),
      fun I1 L1 hR1 _ _ => t_X9_aims (bBt 1 (cIsPlayer9 _ hn hR1.2.2.2.1.1 (by omega)) (by omega) h1 ⟨fun c => absurd c i1_0, fun _ => bE 0 (cAll9 hn hR1.2.2.2.1.1) (by omega) (bBt 0 (cWithinI9 _ (by omega)) (by omega) h2 ⟨fun c => absurd c i1_0, fun _ => bBt 0 (cIsIn9 (by omega) (by omega)) (by omega) h4 ⟨fun c => absurd c i1_0, fun _ => ?_⟩⟩)⟩)⟩
    · rw [hG.2.1]
      exact bBf 0 (cWithinM8 x3 (by omega)) (by omega) h3 ⟨fun c => absurd rfl c, fun _ => qC.of rfl hNm⟩
    · rw [hR1.2.2.2.1.2.1]
      exact bBf 0 (cWithinM9 x3 (by omega)) (by omega) h3 ⟨fun c => absurd rfl c, fun _ => qM.of rfl⟩
  obtain ⟨t, ht, rfl⟩ := id h3
  have hok := sAm_ok (o := o) hv hp hs (vB v - t)
  refine ⟨aI (sAm v o (vB v - t) s p), t_X8_aims (bBt 0 (cHasB _ hv hG) (by omega) h1 ⟨fun c => absurd c i1_0, fun _ => bE 0 (cAll hv hG) (by omega) (bBt 0 (cWithin8 _ _ (by omega)) (by omega) h2 ⟨fun c => absurd c i1_0, fun _ => ?_⟩)⟩),
    fun I1 L1 hR1 _ _ => t_X9_aims (bBt 1 (cIsPlayer9 _ hn hR1.2.2.2.1.1 (by omega)) (by omega) h1 ⟨fun c => absurd c i1_0, fun _ => bE 0 (cAll9 hn hR1.2.2.2.1.1) (by omega) (bBt 0 (cWithinI9 _ (by omega)) (by omega) h2 ⟨fun c => absurd c i1_0, fun _ => bBt 0 (cIsIn9 (by omega) (by omega)) (by omega) h4 ⟨fun c => absurd c i1_0, fun _ => ?_⟩⟩)⟩)⟩
  · rw [hG.2.1]
    refine bBt 0 (cWithinM8 (nI t) (by omega)) (by omega) h3 ⟨fun _ => ⟨fun _ => ⟨8, _, by omega, cSolve hv hF hG hLw hNm (Nat.le_refl 8), fun I9 L9 hq => ?_⟩, fun c => absurd c b4⟩, fun c => absurd c i1_0⟩
    exact bE 1 (cAimAt hv hq.1 (by omega) hs h4 (Nat.le_refl 1)) (by omega) (qC.sv hq rfl)
  · rw [hR1.2.2.2.1.2.1]
    refine bBt 0 (cWithinM9 (nI t) (by omega)) (by omega) h3 ⟨fun _ => ⟨105, _, by omega, mSolves hv hR1.2.2.2.1 hR1.2.2.2.2.1 (Nat.le_refl 105), fun I9 L9 hq => ?_⟩, fun c => absurd c i1_0⟩
    refine bE 0 (mState _ _ _) (by omega) ⟨_, rfl, by omega, ?_⟩
    rw [(hq.1 t s p (by omega) hs h4).1]
    refine ⟨fun c => qM.sv hq (aI_ne fun z => c (by rw [z]; rfl)), fun c => qM.sv hq (if_pos ((nI_9 ?_).mp c))⟩
    rcases hok with z | z
    · rw [z]; decide
    · omega
/-! begin -/
def sBg (v : Vw) (o : Lw) (p : Nat) : Nat → Nat → Nat → Nat
  | 0, _, b => b
  | f + 1, k, b => if sBeg v o b p < sBeg v o k p then sBg v o p f (k + 1) k else sBg v o p f (k + 1) b
theorem cBegin_24 (hv : vOk v) (hG : cG v I) (hS : cSv v o I L) {P : Int32 → zIM → zLM → Prop} {p R : Nat} (hp : p < vn v) (hP : P (nI R) I L) (hd : 3 ≤ d) : ∀ f k b, f + k = vn v → b < vn v → sBg v o p f k b = R → K_X8_begin_24 l G d P I L (nI p) (nI b) (nI k)
  | 0, k, b, h, hb, e => by
    have hn := hv.1
    have e : b = R := e
    subst e
    exact t_X8_begin_24 ⟨fun c => hP, fun c => absurd (by rw [hG.1]; exact nI_le (by omega) (by omega)) c⟩
  | f + 1, k, b, h, hb, e => by
    have hn := hv.1
    unfold sBg at e
    refine t_X8_begin_24 ⟨fun c => absurd c (by rw [hG.1]; exact nI_ge (by omega) (by omega)), fun c => bL 2 (cBeg hv hG hS (by omega) hp (Nat.le_refl 2)) (by omega) (bL 2 (cBeg hv hG hS hb hp (Nat.le_refl 2)) (by omega) ⟨fun c1 => ?_, fun c1 => ?_⟩)⟩
    · rw [if_neg (Int64.not_lt.mpr c1)] at e
      rw [nI_1]
      exact cBegin_24 hv hG hS hp hP hd f (k + 1) b (by omega) hb e
    · rw [if_pos (Int64.not_le.mp c1)] at e
      rw [nI_1]
      exact cBegin_24 hv hG hS hp hP hd f (k + 1) k (by omega) (by omega) e
theorem mBegin_18 (hv : vOk v) (hM : mG v I) (hS : mSv v o I L) {P : Int32 → zIM → zLM → Prop} {p R : Nat} (hp : p < vn v) (hP : P (nI R) I L) (hd : 3 ≤ d) : ∀ f k b, f + k = vn v → b < vn v → sBg v o p f k b = R → K_X9_begin_18 l G d P I L (nI p) (nI b) (nI k)
  | 0, k, b, h, hb, e => by
    have hn := hv.1
    have e : b = R := e
    subst e
    exact t_X9_begin_18 ⟨fun c => hP, fun c => absurd (by rw [hM.1]; exact nI_le (by omega) (by omega)) c⟩
  | f + 1, k, b, h, hb, e => by
    have hn := hv.1
    unfold sBg at e
    refine t_X9_begin_18 ⟨fun c => absurd c (by rw [hM.1]; exact nI_ge (by omega) (by omega)), fun c => bE 0 (cAll9 hn hM.1) (by omega) (bL 2 (mBeg hv hM hS (by omega) hp (Nat.le_refl 2)) (by omega) (bE 0 (cAll9 hn hM.1) (by omega) (bL 2 (mBeg hv hM hS hb hp (Nat.le_refl 2)) (by omega) ⟨fun c1 => ?_, fun c1 => ?_⟩)))⟩
    · rw [if_neg (Int64.not_lt.mpr c1)] at e
      rw [nI_1]
      exact mBegin_18 hv hM hS hp hP hd f (k + 1) b (by omega) hb e
    · rw [if_pos (Int64.not_le.mp c1)] at e
      rw [nI_1]
      exact mBegin_18 hv hM hS hp hP hd f (k + 1) k (by omega) (by omega) e
theorem s_begin (x1 : Int32) : zStep l G mX8_begin mX9_begin [.int x1] := by
  refine zStep_of fun v o nb I L hR => ?_
  obtain ⟨hv, hG, hF, hM, hLw, hNm, -⟩ := id hR
  have hn := hv.1
  by_cases h1 : iP x1 (vn v)
  rotate_left
  · exact ⟨-1, t_X8_begin (bBf 0 (cHasB _ hv hG) (by omega) h1 ⟨fun c => absurd rfl c, fun _ => qC.of rfl hNm⟩), fun I1 L1 hR1 _ _ => t_X9_begin (bBf 1 (cIsPlayer9 _ hn hR1.2.2.2.1.1 (by omega)) (by omega) h1 ⟨fun c => absurd rfl c, fun _ => qM.of rfl⟩)⟩
  obtain ⟨p, hp, rfl⟩ := id h1
  refine ⟨nI (sBg v o p (vn v - 1) 1 0), t_X8_begin (bBt 0 (cHasB _ hv hG) (by omega) h1 ⟨fun _ => ⟨8, _, by omega, cSolve hv hF hG hLw hNm (Nat.le_refl 8), fun I9 L9 hq => ?_⟩, fun c => absurd c i1_0⟩), fun I1 L1 hR1 _ _ => t_X9_begin (bBt 1 (cIsPlayer9 _ hn hR1.2.2.2.1.1 (by omega)) (by omega) h1 ⟨fun _ => ⟨105, _, by omega, mSolves hv hR1.2.2.2.1 hR1.2.2.2.2.1 (Nat.le_refl 105), fun I9 L9 hq => ?_⟩, fun c => absurd c i1_0⟩)⟩
  · exact cBegin_24 hv (hq.2.2.2.1.up.gG hG) hq.1 hp (qC.sv hq rfl) (by omega) (vn v - 1) 1 0 (by omega) (by omega) rfl
  · exact mBegin_18 hv (hq.2.2.1.gG hR1.2.2.2.1) hq.1 hp (qM.sv hq rfl) (by omega) (vn v - 1) 1 0 (by omega) (by omega) rfl
/-! fair -/
def sSp (v : Vw) (o : Lw) (k : Nat) : Nat → Nat → Int64 → Int64 → Int64
  | 0, _, hi, lo => hi - lo
  | f + 1, p, hi, lo => sSp v o k f (p + 1) (if sBeg v o k p < hi then hi else sBeg v o k p) (if sBeg v o k p < lo then sBeg v o k p else lo)
def sSpan (v : Vw) (o : Lw) (k : Nat) : Int64 := sSp v o k (vn v - 1) 1 (sBeg v o k 0) (sBeg v o k 0)
theorem cSpan_13 (hv : vOk v) (hG : cG v I) (hS : cSv v o I L) {k : Nat} (hk : k < vn v) (hd : 3 ≤ d) : ∀ f p hi lo, f + p = vn v → K_X8_spanIfBegins_13 l G d (zE (sSp v o k f p hi lo) I L) I L (nI k) hi lo (nI p)
  | 0, p, hi, lo, h => by
    have hn := hv.1
    exact t_X8_spanIfBegins_13 (by omega) ⟨fun c => zE.of rfl, fun c => absurd (by rw [hG.1]; exact nI_le (by omega) (by omega)) c⟩
  | f + 1, p, hi, lo, h => by
    have hn := hv.1
    refine t_X8_spanIfBegins_13 (by omega) ⟨fun c => absurd c (by rw [hG.1]; exact nI_ge (by omega) (by omega)), fun c => bL 2 (cBeg hv hG hS hk (by omega) (Nat.le_refl 2)) (by omega) ?_⟩
    rw [nI_1]
    exact cSpan_13 hv hG hS hk hd f (p + 1) _ _ (by omega)
theorem cSpan (hv : vOk v) (hG : cG v I) (hS : cSv v o I L) {k : Nat} (hk : k < vn v) (hd : 3 ≤ d) : zCl l G d mX8_spanIfBegins [.ref 0, .int (nI k)] I L (zE (sSpan v o k) I L) := by
  have hn := hv.1
  exact t_X8_spanIfBegins (bL 2 (cBeg (p := 0) hv hG hS hk (by omega) (Nat.le_refl 2)) (by omega) (cSpan_13 hv hG hS hk hd (vn v - 1) 1 _ _ (by omega)))
def sFr (v : Vw) (o : Lw) : Nat → Nat → Nat → Nat
  | 0, _, b => b
  | f + 1, k, b => if sSpan v o k < sSpan v o b then sFr v o f (k + 1) k else sFr v o f (k + 1) b
theorem cFair_24 (hv : vOk v) (hG : cG v I) (hS : cSv v o I L) {P : Int32 → zIM → zLM → Prop} {R : Nat} (hP : P (nI R) I L) (hd : 4 ≤ d) : ∀ f k b, f + k = vn v → b < vn v → sFr v o f k b = R → K_X8_fair_24 l G d P I L (nI b) (nI k)
  | 0, k, b, h, hb, e => by
    have hn := hv.1
    have e : b = R := e
    subst e
    exact t_X8_fair_24 ⟨fun c => hP, fun c => absurd (by rw [hG.1]; exact nI_le (by omega) (by omega)) c⟩
  | f + 1, k, b, h, hb, e => by
    have hn := hv.1
    unfold sFr at e
    refine t_X8_fair_24 ⟨fun c => absurd c (by rw [hG.1]; exact nI_ge (by omega) (by omega)), fun c => bL 3 (cSpan hv hG hS (by omega) (Nat.le_refl 3)) (by omega) (bL 3 (cSpan hv hG hS hb (Nat.le_refl 3)) (by omega) ⟨fun c1 => ?_, fun c1 => ?_⟩)⟩
    · rw [if_neg (Int64.not_lt.mpr c1)] at e
      rw [nI_1]
      exact cFair_24 hv hG hS hP hd f (k + 1) b (by omega) hb e
    · rw [if_pos (Int64.not_le.mp c1)] at e
      rw [nI_1]
      exact cFair_24 hv hG hS hP hd f (k + 1) k (by omega) (by omega) e
theorem l_max (a b : Int64) : (if a < b then b else a) = (if b < a then a else b) := by
  by_cases h1 : a < b
  · have h2 : ¬ b < a := by rw [Int64.lt_iff_toInt_lt] at h1 ⊢; omega
    rw [if_pos h1, if_neg h2]
  · by_cases h2 : b < a
    · rw [if_neg h1, if_pos h2]
    · rw [if_neg h1, if_neg h2]
      apply Int64.toInt_inj.mp
      rw [Int64.lt_iff_toInt_lt] at h1 h2
      omega
theorem mFair_50 (hv : vOk v) (hM : mG v I) (hS : mSv v o I L) {P : Int32 → zIM → zLM → Prop} {k : Nat} {x1 : Int32} {x2 : Int64} (hk : k < vn v)
    (next : ∀ x, x = sSpan v o k → ((x1 < 0 → K_X9_fair_21 l G d P I L (nI k) x (nI k + (1 : Int32))) ∧ (¬ x1 < 0 → (x2 ≤ x → K_X9_fair_21 l G d P I L x1 x2 (nI k + (1 : Int32))) ∧ (¬ x2 ≤ x → K_X9_fair_21 l G d P I L (nI k) x (nI k + (1 : Int32)))))) (hd : 4 ≤ d) : ∀ f p hi lo, f + p = vn v → sSp v o k f p hi lo = sSpan v o k → K_X9_fair_50 l G d P I L x1 x2 (nI k) lo hi (nI p)
  | 0, p, hi, lo, h, e => by
    have hn := hv.1
    exact t_X9_fair_50 ⟨fun c => next _ e, fun c => absurd (by rw [hM.1]; exact nI_le (by omega) (by omega)) c⟩
  | f + 1, p, hi, lo, h, e => by
    have hn := hv.1
    have ih := fun hi lo => mFair_50 hv hM hS hk next hd f (p + 1) hi lo (by omega)
    unfold sSp at e
    rw [l_max] at e
    refine t_X9_fair_50 ⟨fun c => absurd c (by rw [hM.1]; exact nI_ge (by omega) (by omega)), fun c => bE 0 (cAll9 hn hM.1) (by omega) (bL 2 (mBeg hv hM hS hk (by omega) (Nat.le_refl 2)) (by omega) ?_)⟩
    rw [nI_1]
    refine ⟨fun c1 => ⟨fun c2 => ih _ _ ?_, fun c2 => ih _ _ ?_⟩, fun c1 => ⟨fun c2 => ih _ _ ?_, fun c2 => ih _ _ ?_⟩⟩
    · rw [if_neg (Int64.not_lt.mpr c1), if_neg (Int64.not_lt.mpr c2)] at e
      exact e
    · rw [if_neg (Int64.not_lt.mpr c1), if_pos (Int64.not_le.mp c2)] at e
      exact e
    · rw [if_pos (Int64.not_le.mp c1), if_neg (Int64.not_lt.mpr c2)] at e
      exact e
    · rw [if_pos (Int64.not_le.mp c1), if_pos (Int64.not_le.mp c2)] at e
      exact e
theorem mFair_21 (hv : vOk v) (hM : mG v I) (hS : mSv v o I L) {P : Int32 → zIM → zLM → Prop} {R : Nat} (hP : P (nI R) I L) (hd : 4 ≤ d) : ∀ f k b, f + k = vn v → b < vn v → sFr v o f k b = R → K_X9_fair_21 l G d P I L (nI b) (sSpan v o b) (nI k)
  | 0, k, b, h, hb, e => by
    have hn := hv.1
    have e : b = R := e
    subst e
    exact t_X9_fair_21 ⟨fun c => hP, fun c => absurd (by rw [hM.1]; exact nI_le (by omega) (by omega)) c⟩
  | f + 1, k, b, h, hb, e => by
    have hn := hv.1
    unfold sFr at e
    refine t_X9_fair_21 ⟨fun c => absurd c (by rw [hM.1]; exact nI_ge (by omega) (by omega)), fun c => bE 0 (cAll9 hn hM.1) (by omega) (bL 2 (mBeg (p := 0) hv hM hS (by omega) (by omega) (Nat.le_refl 2)) (by omega) ?_)⟩
    refine mFair_50 hv hM hS (by omega) ?_ hd (vn v - 1) 1 _ _ (by omega) rfl
    rintro x rfl
    rw [nI_1]
    refine ⟨fun c => absurd c (nI_pos (by omega)), fun _ => ⟨fun c1 => ?_, fun c1 => ?_⟩⟩
    · rw [if_neg (Int64.not_lt.mpr c1)] at e
      exact mFair_21 hv hM hS hP hd f (k + 1) b (by omega) hb e
    · rw [if_pos (Int64.not_le.mp c1)] at e
      exact mFair_21 hv hM hS hP hd f (k + 1) k (by omega) (by omega) e
theorem s_fair : zStep l G mX8_fair mX9_fair [] := by
  refine zStep_of fun v o nb I L hR => ?_
  obtain ⟨hv, hG, hF, hM, hLw, hNm, -⟩ := id hR
  have hn := hv.1
  by_cases h1 : vn v = 0
  · refine ⟨-5, t_X8_fair ⟨fun c => absurd (by rw [hG.1, h1]; rfl) c, fun _ => qC.of rfl hNm⟩, fun I1 L1 hR1 _ _ => t_X9_fair ⟨fun c => absurd (by rw [hR1.2.2.2.1.1, h1]; rfl) c, fun _ => qM.of rfl⟩⟩
  · refine ⟨nI (sFr v o (vn v - 1) 1 0), t_X8_fair ⟨fun _ => ⟨8, _, by omega, cSolve hv hF hG hLw hNm (Nat.le_refl 8), fun I9 L9 hq => ?_⟩, fun c => absurd c (by rw [hG.1]; exact nI_ne0 (by omega) (by omega))⟩, fun I1 L1 hR1 _ _ => t_X9_fair ⟨fun _ => ⟨105, _, by omega, mSolves hv hR1.2.2.2.1 hR1.2.2.2.2.1 (Nat.le_refl 105), fun I9 L9 hq => ?_⟩, fun c => absurd c (by rw [hR1.2.2.2.1.1]; exact nI_ne0 (by omega) (by omega))⟩⟩
    · exact cFair_24 hv (hq.2.2.2.1.up.gG hG) hq.1 (qC.sv hq rfl) (by omega) (vn v - 1) 1 0 (by omega) (by omega) rfl
    · have hM9 := hq.2.2.1.gG hR1.2.2.2.1
      refine t_X9_fair_21 ⟨fun c => absurd c (by rw [hM9.1]; exact nI_ge (a := 0) (by omega) (by omega)), fun c => bE 0 (cAll9 hn hM9.1) (by omega) (bL 2 (mBeg0 hv hM9 hq.1 (p := 0) (by omega) (Nat.le_refl 2)) (by omega) ?_)⟩
      refine mFair_50 (k := 0) hv hM9 hq.1 (by omega) ?_ (by omega) (vn v - 1) 1 _ _ (by omega) rfl
      rintro x rfl
      rw [nI_1]
      exact ⟨fun _ => mFair_21 hv hM9 hq.1 (qM.sv hq rfl) (by omega) (vn v - 1) 1 0 (by omega) (by omega) rfl, fun c => absurd (by decide +kernel) c⟩
/-! league, points -/
theorem b_or : ∀ a, a < 4 → ∀ b, b < 4 → ((1 : Int32) <<< (nI a &&& 31)) ||| ((1 : Int32) <<< (nI b &&& 31)) = nI (2 ^ a ||| 2 ^ b) := by decide +kernel
theorem b_orin : ∀ n, n < 5 → ∀ a, a < n → ∀ b, b < n → (2 ^ a ||| 2 ^ b) ≤ bAll n ∧ bIn (2 ^ a ||| 2 ^ b) a = true ∧ bIn (2 ^ a ||| 2 ^ b) b = true := by decide +kernel
def sTw (v : Vw) (o : Lw) (a b p : Nat) : Int64 := sWt v o (vB v) (2 ^ a ||| 2 ^ b) (vFirst v (2 ^ a ||| 2 ^ b)) p
def sWin (v : Vw) (o : Lw) (a b : Nat) : Int32 := if sTw v o a b b < sTw v o a b a then 1 else if sTw v o a b a < sTw v o a b b then 2 else 0
theorem cWinner (hv : vOk v) (hG : cG v I) (hS : cSv v o I L) {a b : Nat} (ha : a < vn v) (hb : b < vn v) (hd : 2 ≤ d) : zCi l G d mX8_winner [.ref 0, .int (nI a), .int (nI b)] I L (zE (sWin v o a b) I L) := by
  have hn := hv.1
  have h16 := vAll16 hv
  obtain ⟨q1, q2, q3⟩ := b_orin (vn v) (by omega) a ha b hb
  refine t_X8_winner ?_
  rw [b_or a (by omega) b (by omega)]
  refine bE 0 (cFirst hv hG (by omega)) (by omega) (bL 1 (cW0 hv hS q1 (vFirst_in hv ha q2) ha (Nat.le_refl 1)) (by omega) (bL 1 (cW0 hv hS q1 (vFirst_in hv ha q2) hb (Nat.le_refl 1)) (by omega) ⟨fun c1 => ⟨fun c2 => zE.of ?_, fun c2 => zE.of ?_⟩, fun c1 => zE.of ?_⟩))
  · exact ((if_neg (Int64.not_lt.mpr c1)).trans (if_neg (Int64.not_lt.mpr c2))).symm
  · exact ((if_neg (Int64.not_lt.mpr c1)).trans (if_pos (Int64.not_le.mp c2))).symm
  · exact (if_pos (Int64.not_le.mp c1)).symm
theorem mLeagueOf (hv : vOk v) (hM : mG v I) (hL : rLaw o I) {a b : Nat} (ha : a < vn v) (hb : b < vn v) (hd : 106 ≤ d) : zCi l G d mX9_leagueOf [.ref 44, .int (nI a), .int (nI b)] I L (qM (sWin v o a b) I L) := by
  have hn := hv.1
  have h16 := vAll16 hv
  obtain ⟨q1, q2, q3⟩ := b_orin (vn v) (by omega) a ha b hb
  refine t_X9_leagueOf ⟨105, _, by omega, mSolves hv hM hL (Nat.le_refl 105), fun I9 L9 hq => ?_⟩
  have hM9 := hq.2.2.1.gG hM
  rw [b_or a (by omega) b (by omega)]
  refine bL 2 (mW0 hv hq.1 q1 (vFirst_in hv ha q2) ha (Nat.le_refl 2) (fun l G => mStart hv hM9 (by omega) (Nat.le_refl 1))) (by omega) (bL 2 (mW0 hv hq.1 q1 (vFirst_in hv ha q2) hb (Nat.le_refl 2) (fun l G => mStart hv hM9 (by omega) (Nat.le_refl 1))) (by omega) ⟨fun c1 => ⟨fun c2 => qM.sv hq ?_, fun c2 => qM.sv hq ?_⟩, fun c1 => qM.sv hq ?_⟩)
  · exact (if_neg (Int64.not_lt.mpr c1)).trans (if_neg (Int64.not_lt.mpr c2))
  · exact (if_neg (Int64.not_lt.mpr c1)).trans (if_pos (Int64.not_le.mp c2))
  · exact if_pos (Int64.not_le.mp c1)
theorem s_league (x1 : Int32) : zStep l G mX8_league mX9_league [.int x1] := by
  refine zStep_of fun v o nb I L hR => ?_
  obtain ⟨hv, hG, hF, hM, hLw, hNm, -⟩ := id hR
  have hn := hv.1
  by_cases h0 : x1 < 0
  · have h0' : ¬ 0 ≤ x1 := Int32.not_le.mpr h0
    exact ⟨-1, t_X8_league ⟨fun c => absurd c h0', fun _ => qC.of rfl hNm⟩, fun I1 L1 hR1 _ _ => t_X9_league ⟨fun _ => qM.of rfl, fun c => absurd h0 c⟩⟩
  have h0' : 0 ≤ x1 := Int32.not_lt.mp h0
  generalize e1 : x1 / (10 : Int32) = a
  generalize e2 : x1 % (10 : Int32) = b
  by_cases h1 : iP a (vn v)
  rotate_left
  · refine ⟨-1, t_X8_league ⟨fun _ => ?_, fun c => absurd h0' c⟩, fun I1 L1 hR1 _ _ => t_X9_league ⟨fun c => absurd c h0, fun _ => ?_⟩⟩ <;> rw [e1, e2]
    · exact ⟨fun _ => qC.of rfl hNm, fun _ => bBf 0 (cHasB _ hv hG) (by omega) h1 ⟨fun _ => qC.of rfl hNm, fun c => absurd rfl c⟩⟩
    · exact bBf 1 (cIsPlayer9 _ hn hR1.2.2.2.1.1 (by omega)) (by omega) h1 ⟨fun _ => qM.of rfl, fun c => absurd rfl c⟩
  by_cases h2 : iP b (vn v)
  rotate_left
  · refine ⟨-1, t_X8_league ⟨fun _ => ?_, fun c => absurd h0' c⟩, fun I1 L1 hR1 _ _ => t_X9_league ⟨fun c => absurd c h0, fun _ => ?_⟩⟩ <;> rw [e1, e2]
    · exact ⟨fun _ => qC.of rfl hNm, fun _ => bBt 0 (cHasB _ hv hG) (by omega) h1 ⟨fun c => absurd c i1_0, fun _ => bBf 0 (cHasB _ hv hG) (by omega) h2 ⟨fun c => absurd rfl c, fun _ => qC.of rfl hNm⟩⟩⟩
    · exact bBt 1 (cIsPlayer9 _ hn hR1.2.2.2.1.1 (by omega)) (by omega) h1 ⟨fun c => absurd c i1_0, fun _ => bBf 1 (cIsPlayer9 _ hn hR1.2.2.2.1.1 (by omega)) (by omega) h2 ⟨fun _ => qM.of rfl, fun c => absurd rfl c⟩⟩
  by_cases h3 : a = b
  · refine ⟨-1, t_X8_league ⟨fun _ => ?_, fun c => absurd h0' c⟩, fun I1 L1 hR1 _ _ => t_X9_league ⟨fun c => absurd c h0, fun _ => ?_⟩⟩ <;> rw [e1, e2]
    · exact ⟨fun _ => qC.of rfl hNm, fun c => absurd h3 c⟩
    · exact bBt 1 (cIsPlayer9 _ hn hR1.2.2.2.1.1 (by omega)) (by omega) h1 ⟨fun c => absurd c i1_0, fun _ => bBt 1 (cIsPlayer9 _ hn hR1.2.2.2.1.1 (by omega)) (by omega) h2 ⟨fun c => absurd c i1_0, fun _ => ⟨fun c => absurd h3 c, fun _ => qM.of rfl⟩⟩⟩
  obtain ⟨i, hi, rfl⟩ := id h1
  obtain ⟨j, hj, rfl⟩ := id h2
  refine ⟨sWin v o i j, t_X8_league ⟨fun _ => ?_, fun c => absurd h0' c⟩, fun I1 L1 hR1 _ _ => t_X9_league ⟨fun c => absurd c h0, fun _ => ?_⟩⟩ <;> rw [e1, e2]
  · refine ⟨fun c => absurd c h3, fun _ => bBt 0 (cHasB _ hv hG) (by omega) h1 ⟨fun c => absurd c i1_0, fun _ => bBt 0 (cHasB _ hv hG) (by omega) h2 ⟨fun _ => ⟨8, _, by omega, cSolve hv hF hG hLw hNm (Nat.le_refl 8), fun I9 L9 hq => ?_⟩, fun c => absurd c i1_0⟩⟩⟩
    exact bE 2 (cWinner hv (hq.2.2.2.1.up.gG hG) hq.1 hi hj (Nat.le_refl 2)) (by omega) (qC.sv hq rfl)
  · refine bBt 1 (cIsPlayer9 _ hn hR1.2.2.2.1.1 (by omega)) (by omega) h1 ⟨fun c => absurd c i1_0, fun _ => bBt 1 (cIsPlayer9 _ hn hR1.2.2.2.1.1 (by omega)) (by omega) h2 ⟨fun c => absurd c i1_0, fun _ => ⟨fun _ => ⟨106, _, by omega, mLeagueOf hv hR1.2.2.2.1 hR1.2.2.2.2.1 hi hj (Nat.le_refl 106), fun y I9 L9 hq => hq⟩, fun c => absurd c h3⟩⟩⟩
def sPt (v : Vw) (o : Lw) (p : Nat) : Nat → Nat → Int32 → Int32
  | 0, _, x => x
  | f + 1, q, x => sPt v o p f (q + 1) (if q = p then x else if sWin v o p q = 1 then x + 2 else if sWin v o p q = 0 then x + 1 else x)
theorem cPoints_24 (hv : vOk v) (hG : cG v I) (hS : cSv v o I L) {P : Int32 → zIM → zLM → Prop} {p : Nat} {R : Int32} (hp : p < vn v) (hP : P R I L) (hd : 3 ≤ d) : ∀ f q x, f + q = vn v → sPt v o p f q x = R → K_X8_points_24 l G d P I L (nI p) x (nI q)
  | 0, q, x, h, e => by
    have hn := hv.1
    have e : x = R := e
    subst e
    exact t_X8_points_24 ⟨fun c => hP, fun c => absurd (by rw [hG.1]; exact nI_le (by omega) (by omega)) c⟩
  | f + 1, q, x, h, e => by
    have hn := hv.1
    unfold sPt at e
    refine t_X8_points_24 ⟨fun c => absurd c (by rw [hG.1]; exact nI_ge (by omega) (by omega)), fun c => ⟨fun c1 => ?_, fun c1 => bE 2 (cWinner hv hG hS hp (b := q) (by omega) (Nat.le_refl 2)) (by omega) ⟨fun c2 => ⟨fun c3 => ?_, fun c3 => ?_⟩, fun c2 => ?_⟩⟩⟩
    · rw [if_pos (nI_inj (by omega) (by omega) c1)] at e
      rw [nI_1]
      exact cPoints_24 hv hG hS hp hP hd f (q + 1) x (by omega) e
    · rw [if_neg (fun z => c1 (by rw [z])), if_neg c2, if_neg c3] at e
      rw [nI_1, Int32.add_zero]
      exact cPoints_24 hv hG hS hp hP hd f (q + 1) x (by omega) e
    · rw [if_neg (fun z => c1 (by rw [z])), if_neg c2, if_pos c3] at e
      rw [nI_1]
      exact cPoints_24 hv hG hS hp hP hd f (q + 1) _ (by omega) e
    · rw [if_neg (fun z => c1 (by rw [z])), if_pos c2] at e
      rw [nI_1]
      exact cPoints_24 hv hG hS hp hP hd f (q + 1) _ (by omega) e
theorem mPoints_14 (hv : vOk v) {I0 : zIM} {L0 : zLM} (hM0 : mG v I0) (hL0 : rLaw o I0) {p : Nat} {R : Int32} (hp : p < vn v) (hd : 110 ≤ d) : ∀ f q x I L, f + q = vn v → oM2 I0 I → oML2 L0 L → sPt v o p f q x = R → K_X9_points_14 l G d (qM R I0 L0) I L (nI p) x (nI q)
  | 0, q, x, I, L, h, h1, h2, e => by
    have hn := hv.1
    exact t_X9_points_14 ⟨fun c => ⟨e.symm, h1, h2⟩, fun c => absurd (by rw [(h1.gG hM0).1]; exact nI_le (by omega) (by omega)) c⟩
  | f + 1, q, x, I, L, h, h1, h2, e => by
    have hn := hv.1
    have hM := h1.gG hM0
    unfold sPt at e
    refine t_X9_points_14 ⟨fun c => absurd c (by rw [hM.1]; exact nI_ge (by omega) (by omega)), fun c => ⟨fun c1 => ⟨106, _, by omega, mLeagueOf hv hM (h1.gL hL0) hp (b := q) (by omega) (Nat.le_refl 106), ?_⟩, fun c1 => ?_⟩⟩
    · rintro y I2 L2 ⟨rfl, g1, g2⟩
      rw [if_neg (fun z => c1 (by rw [z]))] at e
      rw [nI_1]
      refine ⟨fun c2 => ⟨fun c3 => ?_, fun c3 => ?_⟩, fun c2 => ?_⟩
      · rw [if_neg c2, if_neg c3] at e
        rw [Int32.add_zero]
        exact mPoints_14 hv hM0 hL0 hp hd f (q + 1) x I2 L2 (by omega) (h1.tr g1) (h2.tr g2) e
      · rw [if_neg c2, if_pos c3] at e
        exact mPoints_14 hv hM0 hL0 hp hd f (q + 1) _ I2 L2 (by omega) (h1.tr g1) (h2.tr g2) e
      · rw [if_pos c2] at e
        exact mPoints_14 hv hM0 hL0 hp hd f (q + 1) _ I2 L2 (by omega) (h1.tr g1) (h2.tr g2) e
    · rw [if_pos (nI_inj (by omega) (by omega) c1)] at e
      rw [nI_1, Int32.add_zero]
      exact mPoints_14 hv hM0 hL0 hp hd f (q + 1) x I L (by omega) h1 h2 e
theorem s_points (x1 : Int32) : zStep l G mX8_points mX9_points [.int x1] := by
  refine zStep_of fun v o nb I L hR => ?_
  obtain ⟨hv, hG, hF, hM, hLw, hNm, -⟩ := id hR
  have hn := hv.1
  by_cases h1 : iP x1 (vn v)
  rotate_left
  · exact ⟨-1, t_X8_points (bBf 0 (cHasB _ hv hG) (by omega) h1 ⟨fun c => absurd rfl c, fun _ => qC.of rfl hNm⟩), fun I1 L1 hR1 _ _ => t_X9_points (bBf 1 (cIsPlayer9 _ hn hR1.2.2.2.1.1 (by omega)) (by omega) h1 ⟨fun c => absurd rfl c, fun _ => qM.of rfl⟩)⟩
  obtain ⟨p, hp, rfl⟩ := id h1
  refine ⟨sPt v o p (vn v) 0 0, t_X8_points (bBt 0 (cHasB _ hv hG) (by omega) h1 ⟨fun _ => ⟨8, _, by omega, cSolve hv hF hG hLw hNm (Nat.le_refl 8), fun I9 L9 hq => ?_⟩, fun c => absurd c i1_0⟩), fun I1 L1 hR1 _ _ => t_X9_points (bBt 1 (cIsPlayer9 _ hn hR1.2.2.2.1.1 (by omega)) (by omega) h1 ⟨fun _ => ?_, fun c => absurd c i1_0⟩)⟩
  · exact cPoints_24 hv (hq.2.2.2.1.up.gG hG) hq.1 hp (qC.sv hq rfl) (by omega) (vn v) 0 0 (by omega) rfl
  · exact mPoints_14 hv hR1.2.2.2.1 hR1.2.2.2.2.1 hp (by omega) (vn v) 0 0 I1 L1 (by omega) oM2.rf oML2.rf rfl
end AC
