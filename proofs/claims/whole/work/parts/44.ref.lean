/-! ===== the reference: bits, who follows, aims, numbers ===== -/
def bLow (s : Nat) : Nat := s &&& (s - 1)
theorem b_low : ∀ s, s < 16 → s ≠ 0 → nI s &&& (nI s - (1 : Int32)) = nI (bLow s) ∧ bLow s < 16 ∧ bPop (bLow s) + 1 = bPop s := by decide +kernel
theorem q_mod : ∀ a, a < 12 → ∀ b, b < 5 → nI a % nI b = nI (a % b) := by decide +kernel
theorem q_st (t s w : Nat) : (((nI t * (16 : Int32)) + nI s) * (4 : Int32)) + nI w = nI ((t * 16 + s) * 4 + w) := by
  rw [show (4 : Int32) = nI 4 from rfl, show (16 : Int32) = nI 16 from rfl, nI_mul, nI_add, nI_mul, nI_add]
theorem q_4 (q : Nat) : (4 : Int32) * nI q = nI (4 * q) := by rw [show (4 : Int32) = nI 4 from rfl, nI_mul]
theorem q_4a (p : Nat) : (4 : Int32) + nI p = nI (4 + p) := by rw [show (4 : Int32) = nI 4 from rfl, nI_add]
theorem q_8a (p : Nat) : (8 : Int32) + nI p = nI (8 + p) := by rw [show (8 : Int32) = nI 8 from rfl, nI_add]
def mOff (I0 I : zIM) : Prop := ∀ x b, x ≠ 55 → (x = 44 → b < 16 ∨ 20 < b) → I x b = I0 x b
theorem mOff.rfl' {I : zIM} : mOff I I := fun _ _ _ _ => rfl
theorem mOff.tr {I0 I1 I2 : zIM} (h1 : mOff I0 I1) (h2 : mOff I1 I2) : mOff I0 I2 := fun x b a c => (h2 x b a c).trans (h1 x b a c)
theorem mOff.gG {v : Vw} {I0 I : zIM} (h : mOff I0 I) (hM : mG v I0) : mG v I := hM.off (h 44 6 (by decide) (by omega)) (h 44 9 (by decide) (by omega)) (fun a b _ => h a b (by omega) (by omega))
theorem mOff.gL {o : Lw} {I0 I : zIM} (h : mOff I0 I) (hL : rLaw o I0) : rLaw o I := hL.off (h 9 6 (by decide) (by omega)) (fun b => h 12 b (by decide) (by omega)) (h 44 15 (by decide) (by omega)) (fun b => h 54 b (by decide) (by omega))
section MB
variable {l : Launch} {G : zG} {d : Nat} {I : zIM} {L : zLM} {v : Vw} {o : Lw}
theorem mBits_4 : ∀ f s k, s < 16 → bPop s ≤ f → K_X9_bitsOf_4 l G d (zE (nI (k + bPop s)) I L) I L (nI k) (nI s)
  | 0, s, k, hs, hf => by
    have e : s = 0 := by
      by_cases e : s = 0
      · exact e
      · have := (b_low s hs e).2.2
        omega
    subst e
    exact t_X9_bitsOf_4 ⟨fun _ => zE.of rfl, fun c => absurd rfl c⟩
  | f + 1, s, k, hs, hf => by
    refine t_X9_bitsOf_4 ⟨fun c => ?_, fun c => ?_⟩
    · have e : s = 0 := nI_inj (by omega) (by omega) c
      subst e
      exact zE.of rfl
    · obtain ⟨e1, e2, e3⟩ := b_low s hs (fun z => c (by rw [z]; rfl))
      rw [e1, nI_1, show k + bPop s = k + 1 + bPop (bLow s) by omega]
      exact mBits_4 f (bLow s) (k + 1) e2 (by omega)
theorem mBits {s : Nat} (hs : s < 16) : zCi l G d mX9_bitsOf [.int (nI s)] I L (zE (nI (bPop s)) I L) := by
  refine t_X9_bitsOf ?_
  have := mBits_4 (l := l) (G := G) (d := d) (I := I) (L := L) 4 s 0 hs (b_pop_le s hs)
  rw [Nat.zero_add] at this
  exact this
theorem mIsOver (hv : vOk v) (hM : mG v I) {s t : Nat} (hs : s < 16) (ht : t < 1000) (hd : 1 ≤ d) : zCi l G d mX9_isOver [.ref 44, .int (nI t), .int (nI s)] I L (zB (sOver v s t) I L) := by
  have hb := hv.2.1
  have hp := b_pop_le s hs
  refine t_X9_isOver ⟨fun c => zB.y (Or.inl ?_), fun c => bE 0 (mBits hs) (by omega) ⟨fun c2 => zB.n fun h => ?_, fun c2 => zB.y (Or.inr ?_)⟩⟩
  · rw [hM.2.1] at c
    exact (nI_le_iff (by omega) (by omega)).mp c
  · rw [hM.2.1] at c
    have h2 : 2 ≤ bPop s := (nI_le_iff (a := 2) (by omega) (by omega)).mp c2
    rcases h with h | h
    · exact c (nI_le h (by omega))
    · omega
  · exact Nat.not_le.mp fun h => c2 (nI_le (a := 2) h (by omega))
theorem mNext_2 (hv : vOk v) (hM : mG v I) {w s : Nat} (hw : w < vn v) (hs : s < 16) (hd : 1 ≤ d) : ∀ f k, f + k = vn v + 1 → 1 ≤ k → K_X9_nextOf_2 l G d (zE (nI (sFol v w s f k)) I L) I L (nI w) (nI s) (nI k)
  | 0, k, h, h1 => by
    have hn := hv.1
    exact t_X9_nextOf_2 ⟨fun c => zE.of rfl, fun c => absurd (by rw [hM.1]; exact nI_lt (by omega) (by omega)) c⟩
  | f + 1, k, h, h1 => by
    have hn := hv.1
    have hP := (hv.2.2.2.2.2.1 w hw).1
    have hm := Nat.mod_lt (vP v w + k) (show 0 < vn v by omega)
    have hO := (hv.2.2.2.1 ((vP v w + k) % vn v) (by omega)).1
    refine t_X9_nextOf_2 ⟨fun c => absurd c (by rw [hM.1]; exact nI_nlt (by omega) (by omega)), fun c => ⟨w, rfl, by omega, by rw [hM.1]; exact nI_ne0 (by omega) (by omega), (vP v w + k) % vn v, ?_, by omega, ?_⟩⟩
    · rw [hM.2.2.2.2.2.2.1 w hw, hM.1, nI_add, q_mod _ (by omega) _ (by omega)]
    · rw [hM.2.2.2.2.2.1 _ hm]
      refine bB 0 (cIsIn9 hs hO) (by omega) (fun e => ⟨fun c => absurd c i1_0, fun _ => zE.of ?_⟩) (fun e => ⟨fun _ => ?_, fun c => absurd rfl c⟩)
      · rw [sFol, if_pos e]
      · rw [nI_1, sFol, if_neg e]
        exact mNext_2 hv hM hw hs hd f (k + 1) (by omega) (by omega)
theorem mNext (hv : vOk v) (hM : mG v I) {w s : Nat} (hw : w < vn v) (hs : s < 16) (hd : 1 ≤ d) : zCi l G d mX9_nextOf [.ref 44, .int (nI w), .int (nI s)] I L (zE (nI (vFol v w s)) I L) :=
  t_X9_nextOf (mNext_2 hv hM hw hs hd (vn v) 1 (by omega) (Nat.le_refl 1))
theorem nI_9 {b : Nat} (hb : b < 1000) : nI b = (9 : Int32) ↔ b = 9 := ⟨fun h => nI_inj (by omega) (by omega) h, fun h => by rw [h]; rfl⟩
theorem mByHits_7 (hv : vOk v) (hM : mG v I) {s w : Nat} (hs : s < 16) (hw : w < vn v) (m : Bool) (hd : 1 ≤ d) : ∀ f p b, f + p = vn v → (b = 9 ∨ b < vn v) → K_X9_byHits_7 l G d (zE (nI (sBest v (bDel s w) m f p b)) I L) I L (nI w) (nI s) (if m then 1 else 0) (nI b) (nI p)
  | 0, p, b, h, hb => by
    have hn := hv.1
    exact t_X9_byHits_7 ⟨fun c => zE.of rfl, fun c => absurd (by rw [hM.1]; exact nI_le (by omega) (by omega)) c⟩
  | f + 1, p, b, h, hb => by
    have hn := hv.1
    have hdl := b_del_in s hs w (by omega) p (by omega)
    have ih1 := mByHits_7 hv hM hs hw m hd f (p + 1) b (by omega) hb
    have ih2 := mByHits_7 hv hM hs hw m hd f (p + 1) p (by omega) (Or.inr (by omega))
    have no : bIn (bDel s w) p = false → K_X9_byHits_7 l G d (zE (nI (sBest v (bDel s w) m (f + 1) p b)) I L) I L (nI w) (nI s) (if m then 1 else 0) (nI b) (nI p + 1) := fun e => by
      rw [nI_1, sBest, if_neg (by rw [e]; exact fun z => by cases z.1)]
      exact ih1
    have yes : bIn (bDel s w) p = true → (b = 9 ∨ (if m then vH v b < vH v p else vH v p < vH v b)) → K_X9_byHits_7 l G d (zE (nI (sBest v (bDel s w) m (f + 1) p b)) I L) I L (nI w) (nI s) (if m then 1 else 0) (nI p) (nI p + 1) := fun e e2 => by
      rw [nI_1, sBest, if_pos ⟨e, e2⟩]
      exact ih2
    have keep : ¬ (b = 9 ∨ (if m then vH v b < vH v p else vH v p < vH v b)) → K_X9_byHits_7 l G d (zE (nI (sBest v (bDel s w) m (f + 1) p b)) I L) I L (nI w) (nI s) (if m then 1 else 0) (nI b) (nI p + 1) := fun e => by
      rw [nI_1, sBest, if_neg (fun z => e z.2)]
      exact ih1
    have hp := (hv.2.2.1 p (by omega)).1
    refine t_X9_byHits_7 ⟨fun c => absurd c (by rw [hM.1]; exact nI_ge (by omega) (by omega)), fun c => bB 0 (cIsIn9 hs (by omega)) (by omega) (fun e => ⟨fun c => absurd c i1_0, fun _ => ⟨fun c3 => ?_, fun c3 => ?_⟩⟩) (fun e => ⟨fun _ => ?_, fun c => absurd rfl c⟩)⟩
    · have e3 : p = w := nI_inj (by omega) (by omega) c3
      have e4 : bIn (bDel s w) p = false := by rw [hdl]; simp [e3]
      exact ⟨fun _ => no e4, fun _ => no e4⟩
    · have e3 : p ≠ w := fun z => c3 (by rw [z])
      have e4 : bIn (bDel s w) p = true := by rw [hdl, e]; simp [e3]
      refine ⟨fun c4 => yes e4 (Or.inl ((nI_9 (by omega)).mp c4)), fun c4 => ?_⟩
      have h9 : b ≠ 9 := fun z => c4 (by rw [z]; rfl)
      have hb4 : b < vn v := by omega
      have hbh := (hv.2.2.1 b (by omega)).1
      cases m with
      | true =>
        refine ⟨fun c => absurd c i1_0, fun _ => ⟨p, rfl, by omega, b, rfl, by omega, ?_⟩⟩
        rw [hM.2.2.1 p (by omega), hM.2.2.1 b (by omega), nI_le_iff (by omega) (by omega)]
        exact ⟨fun c5 => keep fun z => z.elim h9 fun z => by have z : vH v b < vH v p := z; omega, fun c5 => yes e4 (Or.inr (show vH v b < vH v p by omega))⟩
      | false =>
        refine ⟨fun _ => ⟨p, rfl, by omega, b, rfl, by omega, ?_⟩, fun c => absurd rfl c⟩
        rw [hM.2.2.1 p (by omega), hM.2.2.1 b (by omega), nI_le_iff (by omega) (by omega)]
        exact ⟨fun c5 => keep fun z => z.elim h9 fun z => by have z : vH v p < vH v b := z; omega, fun c5 => yes e4 (Or.inr (show vH v p < vH v b by omega))⟩
    · have e4 : bIn (bDel s w) p = false := by
        rw [hdl]
        cases hb : bIn s p with
        | true => exact absurd hb e
        | false => rfl
      exact ⟨fun _ => no e4, fun _ => no e4⟩
theorem mByHits (hv : vOk v) (hM : mG v I) {s w : Nat} (hs : s < 16) (hw : w < vn v) (m : Bool) (hd : 1 ≤ d) : zCi l G d mX9_byHits [.ref 44, .int (nI w), .int (nI s), .int (if m then 1 else 0)] I L (zE (nI (sBest v (bDel s w) m (vn v) 0 9)) I L) :=
  t_X9_byHits (mByHits_7 hv hM hs hw m hd (vn v) 0 9 (by omega) (Or.inl rfl))
theorem mPlain (hv : vOk v) (hM : mG v I) {s w : Nat} (hs : s ≤ bAll (vn v)) (h2 : 2 ≤ bPop s) (hw : w < vn v) (hd : 2 ≤ d) : zCi l G d mX9_plainAim [.ref 44, .int (nI w), .int (nI s)] I L (zE (nI (sPlain v w s)) I L) := by
  have hn := hv.1
  have h16 := vAll16 hv
  have hs16 : s < 16 := by omega
  obtain ⟨-, hY, hT⟩ := hv.2.2.1 w (by omega)
  have e0 : ∀ k : Nat, k < 10 → (nI (vY v w) = nI k ↔ vY v w = k) := fun k hk => nI_eq_iff (by omega) (by omega)
  refine t_X9_plainAim ⟨4 + w, q_4a w, by omega, ?_⟩
  rw [hM.2.2.2.1 w (by omega)]
  refine ⟨fun c => bE 1 (mByHits hv hM hs16 hw true (Nat.le_refl 1)) (by omega) (zE.of ?_), fun c => bE 1 (mByHits hv hM hs16 hw false (Nat.le_refl 1)) (by omega) (zE.of ?_), fun c => zE.of ?_, fun c => bE 1 (mNext hv hM hw hs16 (Nat.le_refl 1)) (by omega) (zE.of ?_), fun c => ⟨8 + w, q_8a w, by omega, ?_⟩, fun c1 c2 c3 c4 c5 => zE.of ?_⟩
  · have c := (e0 0 (by omega)).mp c
    rw [sPlain, if_pos c]
  · have c := (e0 1 (by omega)).mp c
    rw [sPlain, if_neg (by omega), if_pos c]
  · have c := (e0 2 (by omega)).mp c
    rw [sPlain, if_neg (by omega), if_neg (by omega), if_neg (by omega), if_neg (by omega)]
    rfl
  · have c := (e0 3 (by omega)).mp c
    rw [sPlain, if_neg (by omega), if_neg (by omega), if_pos c, if_neg (b_pop2 s hs16 w (by omega) h2), ← vFol_del hv hw hs16]
  · have c := (e0 4 (by omega)).mp c
    have hdl := b_del_in s hs16 w (by omega) (vT v w) (by omega)
    have sp : sPlain v w s = if bIn (bDel s w) (vT v w) = true then vT v w else 9 := by
      rw [sPlain, if_neg (by omega), if_neg (by omega), if_neg (by omega), if_pos c]
    have f9 : bIn (bDel s w) (vT v w) = false → (9 : Int32) = nI (sPlain v w s) := fun e => by
      rw [sp, e]
      rfl
    rw [hM.2.2.2.2.1 w (by omega), hM.1]
    refine ⟨fun c2 => zE.of (f9 ?_), fun c2 => ⟨fun c3 => zE.of (f9 ?_), fun c3 => bB 0 (cIsIn9 hs16 (by omega)) (by omega) (fun e => ⟨fun c => absurd c i1_0, fun _ => zE.of ?_⟩) (fun e => ⟨fun _ => zE.of (f9 ?_), fun c => absurd rfl c⟩)⟩⟩
    · have c2 := (nI_le_iff (by omega) (by omega)).mp c2
      rw [hdl]
      cases hb : bIn s (vT v w) with
      | true => exact absurd (vsub' hv hs hb) (by omega)
      | false => rfl
    · have c3 : vT v w = w := nI_inj (by omega) (by omega) c3
      rw [hdl]
      simp [c3]
    · have c3 : vT v w ≠ w := fun z => c3 (by rw [z])
      rw [sp, if_pos (by rw [hdl, e]; simp [c3])]
    · rw [hdl]
      cases hb : bIn s (vT v w) with
      | true => exact absurd hb e
      | false => rfl
  · have c1 := fun z => c1 ((e0 0 (by omega)).mpr z)
    have c2 := fun z => c2 ((e0 1 (by omega)).mpr z)
    have c4 := fun z => c4 ((e0 3 (by omega)).mpr z)
    have c5 := fun z => c5 ((e0 4 (by omega)).mpr z)
    rw [sPlain, if_neg c1, if_neg c2, if_neg c4, if_neg c5]
    rfl
theorem mState (t s w : Nat) : zCi l G d mX9_stateOf [.int (nI t), .int (nI s), .int (nI w)] I L (zE (nI ((t * 16 + s) * 4 + w)) I L) :=
  t_X9_stateOf (zE.of (q_st t s w))
theorem mHitsOf (hv : vOk v) (hM : mG v I) (hL : rLaw o I) {a b m t : Nat} (ha : a < vn v) (hb : b < 4) (hm : m ≤ 4) (ht : t ≤ 9) (hd : 100 ≤ d) : zCi l G d mX9_hitsOf [.ref 44, .int (nI a), .int (nI b), .int (nI m), .int (nI t)] I L (fun y I' L' => nI (sNum v o t m a b) = y ∧ L = L' ∧ mOff I I') := by
  have hn := hv.1
  cases o with
  | none =>
    refine t_X9_hitsOf ⟨fun c => absurd c (by rw [hL.2]; decide), fun _ => ⟨a, rfl, by omega, ?_⟩⟩
    exact ⟨(hM.2.2.1 a (by omega)).symm, rfl, mOff.rfl'⟩
  | some f => exact hL.2.2.2.2 l G d I L hd rfl (fun _ => rfl) (vH v a) a b m t (hv.2.2.1 a (by omega)).1 (hM.2.2.1 a (by omega)) (by omega) hb hm ht
theorem mHitsAt (hv : vOk v) (hM : mG v I) (hL : rLaw o I) {s w a t : Nat} (hs : s < 16) (hw : w < vn v) (ha : a = 9 ∨ a < vn v) (ht : t ≤ 9) (hd : 101 ≤ d) : zCi l G d mX9_hitsAt [.ref 44, .int (nI t), .int (nI s), .int (nI w), .int (nI a)] I L (fun y I' L' => nI (sNm v o t s w a) = y ∧ L = L' ∧ mOff I I') := by
  have hn := hv.1
  refine t_X9_hitsAt ⟨fun c => bE 0 (mBits hs) (by omega) ⟨100, _, hd, mHitsOf hv hM hL hw (b := a) ?_ (b_pop_le s hs) ht (Nat.le_refl 100), ?_⟩, fun c => ⟨?_, rfl, mOff.rfl'⟩⟩
  · have h9 : a ≠ 9 := fun z => c (by rw [z]; rfl)
    omega
  · have h9 : a ≠ 9 := fun z => c (by rw [z]; rfl)
    rintro y I' L' ⟨h1, h2, h3⟩
    refine ⟨?_, h2, h3⟩
    rw [sNm, if_neg h9]
    exact h1
  · rw [sNm, if_pos ((nI_9 (by omega)).mp c)]
    rfl
end MB
