/-! ===== the class: THE LAW's numbers; WORTHS and AIMS of all situations ===== -/
theorem q_sit (t w s : Nat) : ((nI t * (4 : Int32)) + nI w) * (16 : Int32) + nI s = nI ((t * 4 + w) * 16 + s) := by
  rw [show (4 : Int32) = nI 4 from rfl, show (16 : Int32) = nI 16 from rfl, nI_mul, nI_add, nI_mul, nI_add]
theorem q_num (t m a b : Nat) : ((((nI t * (5 : Int32)) + nI m) * (4 : Int32) + nI a) * (4 : Int32)) + nI b = nI (((t * 5 + m) * 4 + a) * 4 + b) := by
  rw [show (4 : Int32) = nI 4 from rfl, show (5 : Int32) = nI 5 from rfl, nI_mul, nI_add, nI_mul, nI_add, nI_mul, nI_add]
theorem q_4p (h p : Nat) : nI h * (4 : Int32) + nI p = nI (h * 4 + p) := by
  rw [show (4 : Int32) = nI 4 from rfl, nI_mul, nI_add]
/-- the table of numbers stands -/
def cNm (v : Vw) (o : Lw) (I : zIM) : Prop := ∀ t, t < 9 → ∀ m, 2 ≤ m → m ≤ vn v → ∀ a, a < vn v → ∀ b, b < vn v → I 19 (((t * 5 + m) * 4 + a) * 4 + b) = nI (sNum v o t m a b)
theorem cNm.off {v : Vw} {o : Lw} {I I' : zIM} (h : cNm v o I) (h2 : ∀ b, I' 19 b = I 19 b) : cNm v o I' := fun t ht m h2m hm a ha b hb => (h2 _).trans (h t ht m h2m hm a ha b hb)
theorem aI_ne {a : Nat} (h : a ≠ 9) : aI a = nI a := if_neg h
theorem aI_2 {a : Nat} (h : a = 9 ∨ a < 4) : aI a = -2 ↔ a = 9 := by
  constructor
  · intro e
    rcases h with h | h
    · exact h
    · rw [aI_ne (by omega)] at e
      exact absurd e (nI_ne2 (by omega))
  · intro e
    rw [e]
    rfl
section CN
variable {l : Launch} {G : zG} {d : Nat} {I : zIM} {L : zLM} {v : Vw} {o : Lw}
theorem cSit (t w s : Nat) : zCi l G d mX4_situation [.int (nI t), .int (nI w), .int (nI s)] I L (zE (nI ((t * 4 + w) * 16 + s)) I L) :=
  t_X4_situation (zE.of (q_sit t w s))
theorem cSitNext (hv : vOk v) (hF : cF v I) {t w s : Nat} (hw : w < vn v) (hs : s < 16) (hd : 1 ≤ d) : zCi l G d mX4_situationNext [.ref 14, .int (nI t), .int (nI w), .int (nI s)] I L (zE (nI (((t + 1) * 4 + vFol v w s) * 16 + s)) I L) := by
  refine t_X4_situationNext (bE 0 (cAfter hF hw hv hs) (by omega) ?_)
  rw [nI_1]
  exact bE 0 (cSit _ _ _) (by omega) (zE.of rfl)
theorem cWithout {s a : Nat} (hs : s < 16) (ha : a = 9 ∨ a < 4) : zCi l G d mX4_without [.int (nI s), .int (aI a)] I L (zE (nI (sLs s a)) I L) := by
  refine t_X4_without ⟨fun c => zE.of ?_, fun c => zE.of ?_⟩
  · have h9 : a ≠ 9 := fun z => c ((aI_2 ha).mpr z)
    rw [aI_ne h9, b_del s hs a (by omega), sLs, if_neg h9]
  · rw [sLs, if_pos ((aI_2 ha).mp c)]
theorem cNumAt (hv : vOk v) (hN : cNm v o I) {t w s a : Nat} (ht : t < 9) (hw : w < vn v) (hs : s ≤ bAll (vn v)) (h2 : 2 ≤ bPop s) (ha : a = 9 ∨ a < vn v) (hd : 1 ≤ d) : zCi l G d mX4_numberAt [.ref 14, .int (nI t), .int (nI w), .int (aI a), .int (nI s)] I L (zE (nI (sNm v o t s w a)) I L) := by
  have hn := hv.1
  have h16 := vAll16 hv
  refine t_X4_numberAt ⟨fun c => ?_, fun c => zE.of ?_⟩
  · have h9 : a ≠ 9 := fun z => c ((aI_2 (by omega)).mpr z)
    have hp := b_pop_n (vn v) (by omega) s (by omega) hs
    rw [aI_ne h9]
    refine bE 0 (cBit s (by omega)) (by omega) (bE 0 (t_X4_numberPlace (zE.of (q_num t (bPop s) w a))) (by omega) ⟨_, rfl, by omega, zE.of ?_⟩)
    rw [hN t ht (bPop s) h2 hp w hw a (by omega), sNm, if_neg h9]
  · rw [sNm, if_pos ((aI_2 (by omega)).mp c), nI_0]
theorem cMixed {k h m p : Nat} (hh : h < 640) (hm : m < 640) (hp : p < 4) : zCl l G d mX4_mixed [.ref 14, .int (nI k), .int (nI h), .int (nI m), .int (nI p)] I L (zE (sMx k (L 16 (h * 4 + p)) (L 16 (m * 4 + p))) I L) :=
  t_X4_mixed ⟨_, q_4p h p, by omega, _, q_4p m p, by omega, zE.of rfl⟩
/-! findNumbers -/
def nOff (I0 I : zIM) : Prop := ∀ a b, a ≠ 13 → a ≠ 19 → (a = 9 → b ≠ 8) → I a b = I0 a b
def nDn (v : Vw) (o : Lw) (t0 m0 a0 b0 : Nat) (I : zIM) : Prop := ∀ t, t < 9 → ∀ m, 2 ≤ m → m ≤ vn v → ∀ a, a < vn v → ∀ b, b < vn v → (t < t0 ∨ t = t0 ∧ (m < m0 ∨ m = m0 ∧ (a < a0 ∨ a = a0 ∧ b < b0))) → I 19 (((t * 5 + m) * 4 + a) * 4 + b) = nI (sNum v o t m a b)
def qFN (v : Vw) (o : Lw) (I0 : zIM) (L0 : zLM) : zIM → zLM → Prop := fun I' L' => L0 = L' ∧ cNm v o I' ∧ I' 14 8 = 1 ∧ ∀ a b, a ≠ 13 → a ≠ 19 → (a = 9 → b ≠ 8) → (a = 14 → b ≠ 8) → I' a b = I0 a b
variable {I0 : zIM}
theorem nOff.gG (hG : cG v I0) (h : nOff I0 I) : cG v I := hG.off fun a b h1 h8 => h a b (by omega) (by omega) (by omega)
theorem nOff.gL (hL : rLaw o I0) (h : nOff I0 I) : rLaw o I := hL.off (h 9 6 (by omega) (by omega) (by omega)) (fun b => h 12 b (by omega) (by omega) (by omega)) (h 44 15 (by omega) (by omega) (by omega)) (fun b => h 54 b (by omega) (by omega) (by omega))
theorem nDn_put {t m a b : Nat} {x : Int32} (h : nDn v o t m a b I) (hn : vn v ≤ 4) (hm : m ≤ 4) (ha : a < 4) (hb : b < 4) (hx : x = nI (sNum v o t m a b)) : nDn v o t m a (b + 1) (xI I 19 (((t * 5 + m) * 4 + a) * 4 + b) x) := by
  intro t' ht m' h2 hm' a' ha' b' hb' hc
  by_cases e : t' = t ∧ m' = m ∧ a' = a ∧ b' = b
  · obtain ⟨e1, e2, e3, e4⟩ := e
    subst e1; subst e2; subst e3; subst e4
    rw [xI_eq]
    exact hx
  · rw [xI_ne (by omega)]
    exact h t' ht m' h2 hm' a' ha' b' hb' (by omega)
theorem cFN_48 (hv : vOk v) (hG : cG v I0) (hL : rLaw o I0) (hd : 5 ≤ d) {t m a : Nat} (ht : t < 9) (hm2 : 2 ≤ m) (hm : m ≤ vn v) (ha : a < vn v)
    (after : ∀ I, nOff I0 I → nDn v o t m (a + 1) 0 I → K_X4_findNumbers_23 l G d (qFN v o I0 L) I L (nI t) (nI m) (nI (a + 1))) : ∀ f b I, f + b = vn v → nOff I0 I → nDn v o t m a b I → K_X4_findNumbers_48 l G d (qFN v o I0 L) I L (nI t) (nI m) (nI a) (nI (vH v a)) (nI b)
  | 0, b, I, h, ho, hN => by
    have hn := hv.1
    refine t_X4_findNumbers_48 ⟨fun c => ?_, fun c => absurd (by rw [(ho.gG hG).1]; exact nI_le (by omega) (by omega)) c⟩
    rw [nI_1]
    exact after I ho fun t' ht m' h2 hm' a' ha' b' hb' hc => hN t' ht m' h2 hm' a' ha' b' hb' (by omega)
  | f + 1, b, I, h, ho, hN => by
    have hn := hv.1
    have hGI := ho.gG hG
    have hLI := ho.gL hL
    refine t_X4_findNumbers_48 ⟨fun c => absurd c (by rw [hGI.1]; exact nI_ge (by omega) (by omega)), fun c => bE 0 (t_X4_numberPlace (zE.of (q_num t m a b))) (by omega) ?_⟩
    rw [nI_1]
    have ih := fun I => cFN_48 hv hG hL hd ht hm2 hm ha after f (b + 1) I (by omega)
    cases o with
    | none =>
      refine bE 0 (e := 0) (t_X3_isThere ⟨fun _ => zE.of rfl, fun c => absurd (by rw [hLI.1]; decide) c⟩) (by omega) ⟨fun _ => ⟨_, rfl, by omega, ?_⟩, fun c => absurd rfl c⟩
      exact ih _ (fun x y h1 h2 h3 => (xI_ne (by omega)).trans (ho x y h1 h2 h3)) (nDn_put hN hn (by omega) (by omega) (by omega) rfl)
    | some g =>
      obtain ⟨k, k0, k1, ek⟩ := hLI.1
      refine bE 0 (e := 1) (t_X3_isThere ⟨fun c => absurd c (by rw [ek]; exact nI_nle k0 (by omega)), fun _ => zE.of rfl⟩) (by omega) ⟨fun c => absurd c i1_0, fun _ => ⟨3, _, by omega, hLI.2.2.2.1 l G 3 I L (Nat.le_refl 3) rfl (fun _ => rfl) (vH v a) a b m t (hv.2.2.1 a (by omega)).1 (by omega) (by omega) (by omega) (by omega), ?_⟩⟩
      rintro y I1 L1 ⟨rfl, rfl, h1⟩
      refine ⟨_, rfl, by omega, ?_⟩
      refine ih _ (fun x y h3 h4 h5 => (xI_ne (by omega)).trans ((h1 x y h3 h5).trans (ho x y h3 h4 h5))) (nDn_put ?_ hn (by omega) (by omega) (by omega) rfl)
      exact fun t' ht m' h2 hm' a' ha' b' hb' hc => (h1 19 _ (by decide) (by omega)).trans (hN t' ht m' h2 hm' a' ha' b' hb' hc)
theorem cFN_23 (hv : vOk v) (hG : cG v I0) (hL : rLaw o I0) (hd : 5 ≤ d) {t m : Nat} (ht : t < 9) (hm2 : 2 ≤ m) (hm : m ≤ vn v)
    (after : ∀ I, nOff I0 I → nDn v o t (m + 1) 0 0 I → K_X4_findNumbers_10 l G d (qFN v o I0 L) I L (nI t) (nI (m + 1))) : ∀ f a I, f + a = vn v → nOff I0 I → nDn v o t m a 0 I → K_X4_findNumbers_23 l G d (qFN v o I0 L) I L (nI t) (nI m) (nI a)
  | 0, a, I, h, ho, hN => by
    have hn := hv.1
    refine t_X4_findNumbers_23 ⟨fun c => ?_, fun c => absurd (by rw [(ho.gG hG).1]; exact nI_le (by omega) (by omega)) c⟩
    rw [nI_1]
    exact after I ho fun t' ht m' h2 hm' a' ha' b' hb' hc => hN t' ht m' h2 hm' a' ha' b' hb' (by omega)
  | f + 1, a, I, h, ho, hN => by
    have hn := hv.1
    have hGI := ho.gG hG
    refine t_X4_findNumbers_23 ⟨fun c => absurd c (by rw [hGI.1]; exact nI_ge (by omega) (by omega)), fun c => ⟨a, rfl, by omega, ?_⟩⟩
    rw [hGI.2.2.1 a (by omega)]
    exact cFN_48 hv hG hL hd ht hm2 hm (by omega) (fun I ho hN => cFN_23 hv hG hL hd ht hm2 hm after f (a + 1) I (by omega) ho hN) (vn v) 0 I (by omega) ho hN
theorem cFN_10 (hv : vOk v) (hG : cG v I0) (hL : rLaw o I0) (hd : 5 ≤ d) {t : Nat} (ht : t < 9)
    (after : ∀ I, nOff I0 I → nDn v o (t + 1) 2 0 0 I → K_X4_findNumbers_2 l G d (qFN v o I0 L) I L (nI (t + 1))) : ∀ f m I, f + m = vn v + 1 + 2 → 2 ≤ m → nOff I0 I → nDn v o t m 0 0 I → K_X4_findNumbers_10 l G d (qFN v o I0 L) I L (nI t) (nI m)
  | 0, m, I, h, h2, ho, hN => by
    have hn := hv.1
    refine t_X4_findNumbers_10 ⟨fun c => ?_, fun c => absurd (by rw [(ho.gG hG).1]; exact nI_lt (by omega) (by omega)) c⟩
    rw [nI_1]
    exact after I ho fun t' ht m' h2 hm' a' ha' b' hb' hc => hN t' ht m' h2 hm' a' ha' b' hb' (by omega)
  | f + 1, m, I, h, h2, ho, hN => by
    have hn := hv.1
    have hGI := ho.gG hG
    refine t_X4_findNumbers_10 ⟨fun c => ?_, fun c => ?_⟩
    · rw [hGI.1] at c
      have c := (nI_lt_iff (by omega) (by omega)).mp c
      rw [nI_1]
      exact after I ho fun t' ht m' h2 hm' a' ha' b' hb' hc => hN t' ht m' h2 hm' a' ha' b' hb' (by omega)
    · rw [hGI.1] at c
      have c : ¬ vn v < m := fun z => c (nI_lt z (by omega))
      exact cFN_23 hv hG hL hd ht h2 (by omega) (fun I ho hN => cFN_10 hv hG hL hd ht after f (m + 1) I (by omega) (by omega) ho hN) (vn v) 0 I (by omega) ho hN
theorem cFN_2 (hv : vOk v) (hG : cG v I0) (hL : rLaw o I0) (hd : 5 ≤ d) : ∀ f t I, f + t = 9 → nOff I0 I → nDn v o t 2 0 0 I → K_X4_findNumbers_2 l G d (qFN v o I0 L) I L (nI t)
  | 0, t, I, h, ho, hN => by
    refine t_X4_findNumbers_2 ⟨fun c => ⟨rfl, fun t' ht m' h2 hm' a' ha' b' hb' => (xI_ne (by omega)).trans (hN t' ht m' h2 hm' a' ha' b' hb' (by omega)), rfl, fun a b h1 h2 h3 h4 => (xI_ne (by omega)).trans (ho a b h1 h2 h3)⟩, fun c => absurd (nI_le (a := 9) (by omega) (by omega)) c⟩
  | f + 1, t, I, h, ho, hN => by
    refine t_X4_findNumbers_2 ⟨fun c => absurd c (nI_ge (b := 9) (by omega) (by omega)), fun c => ?_⟩
    exact cFN_10 hv hG hL hd (by omega) (fun I ho hN => cFN_2 hv hG hL hd f (t + 1) I (by omega) ho hN) (vn v + 1) 2 I (by omega) (by omega) ho hN
theorem cFindNumbers (hv : vOk v) (hG : cG v I0) (hL : rLaw o I0) (hd : 5 ≤ d) : zCv l G d mX4_findNumbers [.ref 14] I0 L (qFN v o I0 L) :=
  t_X4_findNumbers (cFN_2 hv hG hL hd 9 0 I0 (by omega) (fun _ _ _ _ _ => rfl) (fun t _ m _ _ a _ b _ hc => absurd hc (by omega)))
end CN
