/-! ===== public call: even ===== -/
def vHs (v : Vw) (p h : Nat) : Vw := (vn v, wU (vH v) p h, vY v, vT v, vO v, vP v, vB v, vZ v)
theorem vHs_ok {v : Vw} (hv : vOk v) {p h : Nat} (hh : h ≤ 12) : vOk (vHs v p h) :=
  ⟨hv.1, hv.2.1, fun q hq => ⟨by
    show wU (vH v) p h q ≤ 12
    unfold wU
    split
    · exact hh
    · exact (hv.2.2.1 q hq).1, (hv.2.2.1 q hq).2⟩, hv.2.2.2⟩
def sSum (v : Vw) (o : Lw) : Nat → Nat → Int64 → Int64
  | 0, _, a => a
  | f + 1, q, a => sSum v o f (q + 1) (a + sBeg v o 0 q)
def sDist (v : Vw) (o : Lw) (p : Nat) : Int64 := if 0 < (nI (vn v)).toInt64 * sBeg v o 0 p - sSum v o (vn v) 0 0 then (nI (vn v)).toInt64 * sBeg v o 0 p - sSum v o (vn v) 0 0 else -((nI (vn v)).toInt64 * sBeg v o 0 p - sSum v o (vn v) 0 0)
def sEv (v : Vw) (o : Lw) (p : Nat) : Nat → Nat → Nat → Int64 → Nat
  | 0, _, b, _ => b
  | f + 1, h, b, m => if sDist (vHs v p h) o p < m then sEv v o p f (h + 1) h (sDist (vHs v p h) o p) else sEv v o p f (h + 1) b m
theorem l_abs (z : Int64) : (if 0 ≤ z then z else -z) = (if 0 < z then z else -z) := by
  by_cases h : 0 < z
  · have h2 : (0 : Int64) ≤ z := by rw [Int64.lt_iff_toInt_lt] at h; rw [Int64.le_iff_toInt_le]; omega
    rw [if_pos h, if_pos h2]
  · by_cases h2 : 0 ≤ z
    · have e : z = 0 := by
        apply Int64.toInt_inj.mp
        rw [Int64.lt_iff_toInt_lt] at h
        rw [Int64.le_iff_toInt_le] at h2
        omega
      rw [e]
      decide
    · rw [if_neg h, if_neg h2]
theorem cG_h {v : Vw} {I0 I : zIM} {p h : Nat} (hG : cG v I0) (hI : oCx (fun a b => a = 2 ∧ b = p) I0 I) (hp : I 2 p = nI h) : cG (vHs v p h) I := by
  obtain ⟨a, b, c, d, e, f, i, g⟩ := hG
  have k : ∀ x z, 1 ≤ x → x ≤ 7 → ¬ (x = 2 ∧ z = p) → I x z = I0 x z := fun x z h1 h2 h3 => hI x z (by omega) (by omega) (by omega) (by omega) (by omega) h3
  refine ⟨(k 1 6 (by omega) (by omega) (by omega)).trans a, (k 1 7 (by omega) (by omega) (by omega)).trans b, fun q hq => ?_, fun q hq => (k 3 q (by omega) (by omega) (by omega)).trans (d q hq), fun p hp => (k 4 p (by omega) (by omega) (by omega)).trans (e p hp), fun p hp => (k 5 p (by omega) (by omega) (by omega)).trans (f p hp), fun p hp => (k 6 p (by omega) (by omega) (by omega)).trans (i p hp), fun p hp => (k 7 p (by omega) (by omega) (by omega)).trans (g p hp)⟩
  show I 2 q = nI (wU (vH v) p h q)
  by_cases e : q = p
  · subst e
    rw [wU_eq]
    exact hp
  · rw [wU_ne e, k 2 q (by omega) (by omega) (by omega)]
    exact c q hq
theorem mG_h {v : Vw} {I0 I : zIM} {p h : Nat} (hp4 : p < 4) (hM : mG v I0) (hI : oMx (fun a b => a = 45 ∧ b = p) I0 I) (hp : I 45 p = nI h) : mG (vHs v p h) I := by
  obtain ⟨a, b, c, d, e, f, i, g, j⟩ := hM
  have k : ∀ x z, x ≠ 55 ∧ x ≠ 58 ∧ x ≠ 59 ∧ (x = 44 → z < 16) ∧ ¬ (x = 45 ∧ z = p) → I x z = I0 x z := fun x z ⟨h1, h2, h3, h5, h6⟩ => hI x z h1 h2 h3 (fun q => Or.inl (h5 q)) h6
  refine ⟨(k 44 6 (by omega)).trans a, (k 44 9 (by omega)).trans b, fun q hq => ?_, fun p hp => (k 45 (4 + p) (by omega)).trans (d p hp), fun p hp => (k 45 (8 + p) (by omega)).trans (e p hp), fun p hp => (k 49 p (by omega)).trans (f p hp), fun p hp => (k 50 p (by omega)).trans (i p hp), fun p hp => (k 51 p (by omega)).trans (g p hp), fun hn => (k 49 0 (by omega)).trans (j hn)⟩
  show I 45 q = nI (wU (vH v) p h q)
  by_cases e : q = p
  · subst e
    rw [wU_eq]
    exact hp
  · rw [wU_ne e, k 45 q (by omega)]
    exact c q hq
section EV
variable {l : Launch} {G : zG} {d : Nat} {v : Vw} {o : Lw}
theorem cDist_5 {I : zIM} {L : zLM} (hv : vOk v) (hG : cG v I) (hS : cSv v o I L) {p : Nat} (hp : p < vn v) (hd : 3 ≤ d) : ∀ f q a, f + q = vn v → sSum v o f q a = sSum v o (vn v) 0 0 → K_X8_distanceFromMean_5 l G d (zE (sDist v o p) I L) I L (nI p) a (nI q)
  | 0, q, a, h, e => by
    have hn := hv.1
    have e : a = sSum v o (vn v) 0 0 := e
    refine t_X8_distanceFromMean_5 (by omega) ⟨fun c => bL 2 (cNow hv hG hS hp (Nat.le_refl 2)) (by omega) (zE.of ?_), fun c => absurd (by rw [hG.1]; exact nI_le (by omega) (by omega)) c⟩
    rw [hG.1, e]
    rfl
  | f + 1, q, a, h, e => by
    have hn := hv.1
    refine t_X8_distanceFromMean_5 (by omega) ⟨fun c => absurd c (by rw [hG.1]; exact nI_ge (by omega) (by omega)), fun c => bL 2 (cNow hv hG hS (by omega) (Nat.le_refl 2)) (by omega) ?_⟩
    rw [nI_1]
    exact cDist_5 hv hG hS hp hd f (q + 1) _ (by omega) e
theorem cDist {I : zIM} {L : zLM} (hv : vOk v) (hG : cG v I) (hS : cSv v o I L) {p : Nat} (hp : p < vn v) (hd : 3 ≤ d) : zCl l G d mX8_distanceFromMean [.ref 0, .int (nI p)] I L (zE (sDist v o p) I L) :=
  t_X8_distanceFromMean (cDist_5 hv hG hS hp hd (vn v) 0 0 (by omega) rfl)
theorem cTell0 {I : zIM} {L : zLM} {p : Nat} {x : Int32} (hp : p < 4) (hd : 1 ≤ d) : zCv l G d mX8_tell [.ref 0, .int (nI p), .int (0 : Int32), .int x] I L (zU (xI (xI I 2 p x) 14 8 0) L) :=
  t_X8_tell ⟨fun c => absurd rfl c, fun _ => ⟨p, rfl, hp, 0, zU (xI (xI I 2 p x) 14 8 0) L, by omega, t_X4_forgetNumbers ⟨rfl, rfl⟩, fun _ _ h => h⟩⟩
theorem cEven_33 (hv : vOk v) {I0 : zIM} {L0 : zLM} (hG : cG v I0) (hF : cF v I0) (hL : rLaw o I0) {p R : Nat} (hp : p < vn v) (hd : 10 ≤ d) : ∀ f h b m I L, f + h = 13 → oCx (fun a b => a = 2 ∧ b = p) I0 I → oCL L0 L → sEv v o p f h b m = R → K_X8_even_33 l G d (qC (nI R) v o I0 L0) I L (nI p) (nI (vH v p)) (nI b) m (nI h)
  | 0, h, b, m, I, L, hf, hI, hL2, e => by
    have hn := hv.1
    have e : b = R := e
    subst e
    refine t_X8_even_33 ⟨fun c => ⟨1, _, by omega, cTell0 (p := p) (by omega) (Nat.le_refl 1), ?_⟩, fun c => absurd (nI_lt (a := 12) (by omega) (by omega)) c⟩
    rintro _ _ ⟨rfl, rfl⟩
    refine ⟨rfl, fun x z h1 h2 h3 h4 h5 h6 h7 => ?_, hL2.up, Or.inl xI_eq⟩
    rw [xI_ne (by omega)]
    by_cases e : x = 2 ∧ z = p
    · obtain ⟨e1, e2⟩ := e
      subst e1; subst e2
      exact xI_eq.trans (hG.2.2.1 z (by omega)).symm
    · exact (xI_ne e).trans (hI x z h1 h2 h3 h6 h7 e)
  | f + 1, h, b, m, I, L, hf, hI, hL2, e => by
    have hn := hv.1
    have hv2 : vOk (vHs v p h) := vHs_ok hv (by omega)
    have hI2 : oCx (fun a b => a = 2 ∧ b = p) I0 (xI (xI I 2 p (nI h)) 14 8 0) := fun x z h1 h2 h3 h6 h7 h8 => (xI_ne (by omega)).trans ((xI_ne h8).trans (hI x z h1 h2 h3 h6 h7 h8))
    have hG2 : cG (vHs v p h) (xI (xI I 2 p (nI h)) 14 8 0) := cG_h hG hI2 ((xI_ne (by omega)).trans xI_eq)
    have k8 : ∀ a b, a = 8 ∨ a = 12 ∨ (a = 9 ∧ b = 6) ∨ (a = 44 ∧ b = 15) ∨ a = 54 → xI (xI I 2 p (nI h)) 14 8 0 a b = I0 a b := fun a b q => hI2 a b (by omega) (by omega) (by omega) (by omega) (by omega) (by omega)
    have hF2 : cF (vHs v p h) (xI (xI I 2 p (nI h)) 14 8 0) := cF_congr (v := v) (v' := vHs v p h) rfl rfl rfl (hF.off fun b => k8 8 b (by omega))
    have hLw2 : rLaw o (xI (xI I 2 p (nI h)) 14 8 0) := hL.off (k8 _ _ (by omega)) (fun b => k8 12 b (by omega)) (k8 _ _ (by omega)) (fun b => k8 54 b (by omega))
    unfold sEv at e
    refine t_X8_even_33 ⟨fun c => absurd c (nI_nlt (a := 12) (b := h) (by omega) (by omega)), fun c => ⟨1, _, by omega, cTell0 (p := p) (by omega) (Nat.le_refl 1), ?_⟩⟩
    rintro _ _ ⟨rfl, rfl⟩
    refine ⟨8, _, by omega, cSolve hv2 hF2 hG2 hLw2 (Or.inl xI_eq) (Nat.le_refl 8), fun I4 L4 hq => ?_⟩
    have hI4 : oCx (fun a b => a = 2 ∧ b = p) I0 I4 := hI2.tr hq.2.2.2.1
    refine bL 3 (cDist hv2 (hq.2.2.2.1.gG hG2) hq.1 (p := p) hp (Nat.le_refl 3)) (by omega) ⟨fun c1 => ?_, fun c1 => ?_⟩
    · rw [if_neg (Int64.not_lt.mpr c1)] at e
      rw [nI_1]
      exact cEven_33 hv hG hF hL hp hd f (h + 1) b m I4 L4 (by omega) hI4 (hL2.tr hq.2.2.2.2) e
    · rw [if_pos (Int64.not_le.mp c1)] at e
      rw [nI_1]
      exact cEven_33 hv hG hF hL hp hd f (h + 1) h _ I4 L4 (by omega) hI4 (hL2.tr hq.2.2.2.2) e
def sSub (v : Vw) (o : Lw) : Nat → Nat → Int64 → Int64
  | 0, _, a => a
  | f + 1, q, a => sSub v o f (q + 1) (a - sBeg v o 0 q)
theorem sSub_sum : ∀ f q z a, sSub v o f q (z - a) = z - sSum v o f q a
  | 0, q, z, a => rfl
  | f + 1, q, z, a => by
    unfold sSub sSum
    rw [Int64.sub_sub]
    exact sSub_sum f (q + 1) z _
theorem sSub_dist (p : Nat) : (if 0 ≤ sSub v o (vn v) 0 ((nI (vn v)).toInt64 * sBeg v o 0 p) then sSub v o (vn v) 0 ((nI (vn v)).toInt64 * sBeg v o 0 p) else -sSub v o (vn v) 0 ((nI (vn v)).toInt64 * sBeg v o 0 p)) = sDist v o p := by
  have e := sSub_sum (v := v) (o := o) (vn v) 0 ((nI (vn v)).toInt64 * sBeg v o 0 p) 0
  rw [Int64.sub_zero] at e
  rw [e, l_abs]
  rfl
/-- one hits' number is looked at: the distance is known -/
theorem mEven_65 {I : zIM} {L : zLM} {v2 : Vw} (hv : vOk v2) (hM : mG v2 I) (hS : mSv v2 o I L) {P : Int32 → zIM → zLM → Prop} {x1 x2 x3 x6 : Int32} {x4 : Int64} {D : Int64}
    (next : ((x3 < 0 → K_X9_even_25 l G d P I L x1 x2 x6 D (x6 + (1 : Int32))) ∧ (¬ x3 < 0 → (x4 ≤ D → K_X9_even_25 l G d P I L x1 x2 x3 x4 (x6 + (1 : Int32))) ∧ (¬ x4 ≤ D → K_X9_even_25 l G d P I L x1 x2 x6 D (x6 + (1 : Int32)))))) (hd : 3 ≤ d) : ∀ f q z, f + q = vn v2 → (if 0 ≤ sSub v2 o f q z then sSub v2 o f q z else -sSub v2 o f q z) = D → K_X9_even_65 l G d P I L x1 x2 x3 x4 x6 z (nI q)
  | 0, q, z, h, e => by
    have hn := hv.1
    have e : (if 0 ≤ z then z else -z) = D := e
    refine t_X9_even_65 ⟨fun c => ⟨fun c1 => ?_, fun c1 => ?_⟩, fun c => absurd (by rw [hM.1]; exact nI_le (by omega) (by omega)) c⟩
    · rw [if_pos c1] at e
      subst e
      exact next
    · rw [if_neg c1] at e
      subst e
      exact next
  | f + 1, q, z, h, e => by
    have hn := hv.1
    refine t_X9_even_65 ⟨fun c => absurd c (by rw [hM.1]; exact nI_ge (by omega) (by omega)), fun c => bE 0 (cAll9 hn hM.1) (by omega) (bL 2 (mBeg0 hv hM hS (p := q) (by omega) (Nat.le_refl 2)) (by omega) ?_)⟩
    rw [nI_1]
    exact mEven_65 hv hM hS next hd f (q + 1) _ (by omega) e
theorem mEven_25 (hv : vOk v) {I0 : zIM} {L0 : zLM} (hM : mG v I0) (hL : rLaw o I0) {p R : Nat} (hp : p < vn v) (hd : 108 ≤ d) : ∀ f h x3 m I L, f + h = 13 → oMx (fun a b => a = 45 ∧ b = p) I0 I → oML L0 L → ((∃ b, x3 = nI b ∧ b < 13 ∧ sEv v o p f h b m = R) ∨ (x3 = -1 ∧ f = 13 ∧ sEv v o p 12 1 0 (sDist (vHs v p 0) o p) = R)) → K_X9_even_25 l G d (qM (nI R) I0 L0) I L (nI p) (nI (vH v p)) x3 m (nI h)
  | 0, h, x3, m, I, L, hf, hI, hL2, e => by
    have hn := hv.1
    rcases e with ⟨b, rfl, hb, e⟩ | ⟨_, e, _⟩
    · have e : b = R := e
      subst e
      refine t_X9_even_25 ⟨fun c => ⟨p, rfl, by omega, rfl, fun x z h1 h2 h3 h4 h5 => ?_, hL2.up⟩, fun c => absurd (nI_lt (a := 12) (by omega) (by omega)) c⟩
      by_cases e : x = 45 ∧ z = p
      · obtain ⟨e1, e2⟩ := e
        subst e1; subst e2
        exact xI_eq.trans (hM.2.2.1 z (by omega)).symm
      · exact (xI_ne e).trans (hI x z h1 h2 h3 (fun q => by have := h5 q; omega) e)
    · cases e
  | f + 1, h, x3, m, I, L, hf, hI, hL2, e => by
    have hn := hv.1
    have hv2 : vOk (vHs v p h) := vHs_ok hv (by omega)
    have hI2 : oMx (fun a b => a = 45 ∧ b = p) I0 (xI I 45 p (nI h)) := fun x z h1 h2 h3 h5 h8 => (xI_ne h8).trans (hI x z h1 h2 h3 h5 h8)
    have hM2 : mG (vHs v p h) (xI I 45 p (nI h)) := mG_h (by omega) hM hI2 xI_eq
    have k8 : ∀ a b, a = 12 ∨ (a = 9 ∧ b = 6) ∨ (a = 44 ∧ b = 15) ∨ a = 54 → xI I 45 p (nI h) a b = I0 a b := fun a b q => hI2 a b (by omega) (by omega) (by omega) (by omega) (by omega)
    have hLw2 : rLaw o (xI I 45 p (nI h)) := hL.off (k8 _ _ (by omega)) (fun b => k8 12 b (by omega)) (k8 _ _ (by omega)) (fun b => k8 54 b (by omega))
    refine t_X9_even_25 ⟨fun c => absurd c (nI_nlt (a := 12) (b := h) (by omega) (by omega)), fun c => ⟨p, rfl, by omega, 105, _, by omega, mSolves hv2 hM2 hLw2 (Nat.le_refl 105), fun I4 L4 hq => ?_⟩⟩
    have hM4 := hq.2.2.1.gG hM2
    have hI4 : oMx (fun a b => a = 45 ∧ b = p) I0 I4 := hI2.tr hq.2.2.1
    refine bE 0 (cAll9 hn hM4.1) (by omega) (bL 2 (mBeg0 hv2 hM4 hq.1 (p := p) hp (Nat.le_refl 2)) (by omega) ?_)
    have ih := fun x3 m => mEven_25 (R := R) hv hM hL hp hd f (h + 1) x3 m I4 L4 (by omega) hI4 (hL2.tr hq.2.2.2)
    rw [hM4.1]
    refine mEven_65 (v2 := vHs v p h) (D := sDist (vHs v p h) o p) hv2 hM4 hq.1 ?_ (by omega) (vn v) 0 _ (by rfl) (sSub_dist (v := vHs v p h) p)
    rw [nI_1]
    rcases e with ⟨b, rfl, hb, e⟩ | ⟨rfl, e1, e⟩
    · unfold sEv at e
      refine ⟨fun c1 => absurd c1 (nI_pos (by omega)), fun _ => ⟨fun c1 => ?_, fun c1 => ?_⟩⟩
      · rw [if_neg (Int64.not_lt.mpr c1)] at e
        exact ih _ _ (Or.inl ⟨b, rfl, hb, e⟩)
      · rw [if_pos (Int64.not_le.mp c1)] at e
        exact ih _ _ (Or.inl ⟨h, rfl, by omega, e⟩)
    · obtain rfl : f = 12 := by omega
      obtain rfl : h = 0 := by omega
      exact ⟨fun _ => ih _ _ (Or.inl ⟨0, rfl, by omega, e⟩), fun c1 => absurd (by decide) c1⟩
theorem sEv_start (p : Nat) : sEv v o p 13 0 0 9223372036854775807 = sEv v o p 12 1 0 (sDist (vHs v p 0) o p) := by
  rw [sEv]
  by_cases h : sDist (vHs v p 0) o p < 9223372036854775807
  · rw [if_pos h]
  · rw [if_neg h]
    have e : (9223372036854775807 : Int64) = sDist (vHs v p 0) o p := by
      apply Int64.toInt_inj.mp
      rw [Int64.lt_iff_toInt_lt] at h
      have := Int64.toInt_lt (sDist (vHs v p 0) o p)
      have h2 : (9223372036854775807 : Int64).toInt = 9223372036854775807 := by decide +kernel
      rw [h2] at h ⊢
      omega
    rw [← e]
theorem s_even (x1 : Int32) : zStep l G mX8_even mX9_even [.int x1] := by
  refine zStep_of fun v o nb I L hR => ?_
  obtain ⟨hv, hG, hF, hM, hLw, hNm, -⟩ := id hR
  have hn := hv.1
  by_cases h1 : iP x1 (vn v)
  rotate_left
  · exact ⟨-1, t_X8_even (bBf 0 (cHasB _ hv hG) (by omega) h1 ⟨fun c => absurd rfl c, fun _ => qC.of rfl hNm⟩), fun I1 L1 hR1 _ _ => t_X9_even (bBf 1 (cIsPlayer9 _ hn hR1.2.2.2.1.1 (by omega)) (by omega) h1 ⟨fun c => absurd rfl c, fun _ => qM.of rfl⟩)⟩
  obtain ⟨p, hp, rfl⟩ := id h1
  refine ⟨nI (sEv v o p 12 1 0 (sDist (vHs v p 0) o p)), t_X8_even (bBt 0 (cHasB _ hv hG) (by omega) h1 ⟨fun _ => ⟨p, rfl, by omega, ?_⟩, fun c => absurd c i1_0⟩), fun I1 L1 hR1 _ _ => t_X9_even (bBt 1 (cIsPlayer9 _ hn hR1.2.2.2.1.1 (by omega)) (by omega) h1 ⟨fun _ => ⟨p, rfl, by omega, ?_⟩, fun c => absurd c i1_0⟩)⟩
  · rw [hG.2.2.1 p (by omega)]
    exact cEven_33 hv hG hF hLw hp (by omega) 13 0 0 _ I L rfl (fun _ _ _ _ _ _ _ _ => rfl) oCL.rf (sEv_start p)
  · rw [hR1.2.2.2.1.2.2.1 p (by omega)]
    exact mEven_25 hv hR1.2.2.2.1 hR1.2.2.2.2.1 hp (by omega) 13 0 (-1) 0 I1 L1 rfl (fun _ _ _ _ _ _ _ => rfl) oML.rf (Or.inr ⟨rfl, rfl, rfl⟩)
end EV
