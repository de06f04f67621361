/-! ===== weakening; calls one behind the other; the odds by f throws left ===== -/
theorem zCn_mono {l : Launch} {G : zG} {d : Nat} {M : zM} {mc ms : Nat} {args : List Value} {w : zWd} {Q Q' : Option Value → zWd → Prop} (h : zCn l G d M mc ms args w Q) (hq : ∀ r w', Q r w' → Q' r w') : zCn l G d M mc ms args w Q' := by
  intro p e ha hc hk s m args below hf happ hP hK
  obtain ⟨n, o, h1, h2, h3, ⟨⟨r, w', e1, h4, h5⟩, h6⟩, h7⟩ := h p e ha hc hk s m args below hf happ hP hK
  exact ⟨n, o, h1, h2, h3, ⟨⟨r, w', e1, hq r w' h4, h5⟩, h6⟩, h7⟩
section MN
variable {l : Launch} {G : zG} {d d1 : Nat} {M : zM} {args : List Value} {I : zIM} {L : zLM}
theorem zCi_mono {P P' : Int32 → zIM → zLM → Prop} (h : zCi l G d M args I L P) (hq : ∀ y I' L', P y I' L' → P' y I' L') : zCi l G d M args I L P' :=
  zCn_mono h fun _ _ ⟨y, I', L', e1, e2, h⟩ => ⟨y, I', L', e1, e2, hq y I' L' h⟩
theorem zCl_mono {P P' : Int64 → zIM → zLM → Prop} (h : zCl l G d M args I L P) (hq : ∀ y I' L', P y I' L' → P' y I' L') : zCl l G d M args I L P' :=
  zCn_mono h fun _ _ ⟨y, I', L', e1, e2, h⟩ => ⟨y, I', L', e1, e2, hq y I' L' h⟩
theorem zCv_mono {P P' : zIM → zLM → Prop} (h : zCv l G d M args I L P) (hq : ∀ I' L', P I' L' → P' I' L') : zCv l G d M args I L P' :=
  zCn_mono h fun _ _ ⟨I', L', e1, e2, h⟩ => ⟨I', L', e1, e2, hq I' L' h⟩
/-- a call that answers e and changes nothing, d1 frames deep -/
theorem bE (d1 : Nat) {e : Int32} {K : Int32 → zIM → zLM → Prop} (h : zCi l G d1 M args I L (zE e I L)) (hd : d1 + 1 ≤ d) (k : K e I L) : ∃ (d2 : Nat) (P2 : Int32 → zIM → zLM → Prop), d2 + 1 ≤ d ∧ zCi l G d2 M args I L P2 ∧ ∀ (y : Int32) (I1 : zIM) (L1 : zLM), P2 y I1 L1 → K y I1 L1 :=
  ⟨d1, _, hd, h, fun _ _ _ ⟨a, b, c⟩ => by subst a; subst b; subst c; exact k⟩
theorem bL (d1 : Nat) {e : Int64} {K : Int64 → zIM → zLM → Prop} (h : zCl l G d1 M args I L (zE e I L)) (hd : d1 + 1 ≤ d) (k : K e I L) : ∃ (d2 : Nat) (P2 : Int64 → zIM → zLM → Prop), d2 + 1 ≤ d ∧ zCl l G d2 M args I L P2 ∧ ∀ (y : Int64) (I1 : zIM) (L1 : zLM), P2 y I1 L1 → K y I1 L1 :=
  ⟨d1, _, hd, h, fun _ _ _ ⟨a, b, c⟩ => by subst a; subst b; subst c; exact k⟩
/-- one that answers whether p -/
theorem bB (d1 : Nat) {p : Prop} {K : Int32 → zIM → zLM → Prop} (h : zCi l G d1 M args I L (zB p I L)) (hd : d1 + 1 ≤ d) (k1 : p → K 1 I L) (k0 : ¬ p → K 0 I L) : ∃ (d2 : Nat) (P2 : Int32 → zIM → zLM → Prop), d2 + 1 ≤ d ∧ zCi l G d2 M args I L P2 ∧ ∀ (y : Int32) (I1 : zIM) (L1 : zLM), P2 y I1 L1 → K y I1 L1 :=
  ⟨d1, _, hd, h, fun _ _ _ ⟨a, b, c⟩ => by
    subst b; subst c
    rcases a with ⟨a, q⟩ | ⟨a, q⟩
    · subst a; exact k1 q
    · subst a; exact k0 q⟩
theorem bBt (d1 : Nat) {p : Prop} {K : Int32 → zIM → zLM → Prop} (h : zCi l G d1 M args I L (zB p I L)) (hd : d1 + 1 ≤ d) (hp : p) (k1 : K 1 I L) : ∃ (d2 : Nat) (P2 : Int32 → zIM → zLM → Prop), d2 + 1 ≤ d ∧ zCi l G d2 M args I L P2 ∧ ∀ (y : Int32) (I1 : zIM) (L1 : zLM), P2 y I1 L1 → K y I1 L1 :=
  bB d1 h hd (fun _ => k1) (fun n => absurd hp n)
theorem bBf (d1 : Nat) {p : Prop} {K : Int32 → zIM → zLM → Prop} (h : zCi l G d1 M args I L (zB p I L)) (hd : d1 + 1 ≤ d) (hp : ¬ p) (k0 : K 0 I L) : ∃ (d2 : Nat) (P2 : Int32 → zIM → zLM → Prop), d2 + 1 ≤ d ∧ zCi l G d2 M args I L P2 ∧ ∀ (y : Int32) (I1 : zIM) (L1 : zLM), P2 y I1 L1 → K y I1 L1 :=
  bB d1 h hd (fun n => absurd n hp) (fun _ => k0)
end MN
theorem i1_0 : ¬ (1 : Int32) = 0 := by decide
/-! sets of players who are there -/
theorem b_pop_n : ∀ n, n < 5 → ∀ s, s < 16 → s ≤ bAll n → bPop s ≤ n := by decide +kernel
theorem b_sub : ∀ n, n < 5 → ∀ s, s < 16 → s ≤ bAll n → ∀ p, p < 4 → bIn s p = true → p < n := by decide +kernel
theorem b_del_le : ∀ n, n < 5 → ∀ s, s < 16 → s ≤ bAll n → ∀ p, p < 4 → bDel s p ≤ bAll n := by decide +kernel
theorem b_del_id : ∀ s, s < 16 → ∀ p, p < 4 → bIn s p = false → bDel s p = s := by decide +kernel
theorem b_pop2 : ∀ s, s < 16 → ∀ p, p < 4 → 2 ≤ bPop s → bDel s p ≠ 0 := by decide +kernel
theorem b_some : ∀ s, s < 16 → s ≠ 0 → ∃ q, q < 4 ∧ bIn s q = true := by
  intro s hs h0
  rcases b_ne_at s hs h0 with h | h | h | h
  · exact ⟨0, by omega, h⟩
  · exact ⟨1, by omega, h⟩
  · exact ⟨2, by omega, h⟩
  · exact ⟨3, by omega, h⟩
theorem b_nz : ∀ s, s < 16 → ∀ p, p < 4 → bIn s p = true → 1 ≤ s := by decide +kernel
section SP
variable {v : Vw}
theorem vAll16 (hv : vOk v) : bAll (vn v) < 16 := b_all_lt _ (by have := hv.1; omega)
theorem vsub (hv : vOk v) {s p : Nat} (hs : s ≤ bAll (vn v)) (hp : p < 4) (h : bIn s p = true) : p < vn v :=
  b_sub _ (by have := hv.1; omega) s (by have := vAll16 hv; omega) hs p hp h
theorem vsub' (hv : vOk v) {s p : Nat} (hs : s ≤ bAll (vn v)) (h : bIn s p = true) : p < vn v := by
  by_cases hp : p < 4
  · exact vsub hv hs hp h
  · have := vAll16 hv
    rw [b_hi (s := s) (by omega) (by omega)] at h
    cases h
theorem vdel (hv : vOk v) {s p : Nat} (hs : s ≤ bAll (vn v)) (hp : p < 4) : bDel s p ≤ bAll (vn v) :=
  b_del_le _ (by have := hv.1; omega) s (by have := vAll16 hv; omega) hs p hp
/-- where q stands behind p in turn -/
theorem vPlace (hv : vOk v) {p q : Nat} (hp : p < vn v) (hq : q < vn v) : ∃ k, 1 ≤ k ∧ k ≤ vn v ∧ vO v ((vP v p + k) % vn v) = q := by
  obtain ⟨a1, a2⟩ := hv.2.2.2.2.2.1 p hp
  obtain ⟨b1, b2⟩ := hv.2.2.2.2.2.1 q hq
  by_cases c : vP v p < vP v q
  · refine ⟨vP v q - vP v p, by omega, by omega, ?_⟩
    rw [show vP v p + (vP v q - vP v p) = vP v q by omega, Nat.mod_eq_of_lt b1, b2]
  · refine ⟨vP v q + vn v - vP v p, by omega, by omega, ?_⟩
    rw [show vP v p + (vP v q + vn v - vP v p) = vP v q + vn v by omega, Nat.add_mod_right, Nat.mod_eq_of_lt b1, b2]
theorem sFol_in (hv : vOk v) {p s k0 : Nat} (h1 : k0 ≤ vn v) (hq : bIn s (vO v ((vP v p + k0) % vn v)) = true) : ∀ f k, f + k = vn v + 1 → k ≤ k0 → bIn s (sFol v p s f k) = true
  | 0, k, h, hk => absurd h (by omega)
  | f + 1, k, h, hk => by
    unfold sFol
    split
    · assumption
    · rename_i hn
      refine sFol_in hv h1 hq f (k + 1) (by omega) ?_
      by_cases e : k = k0
      · subst e
        exact absurd hq hn
      · omega
theorem vFol_in (hv : vOk v) {p s q : Nat} (hp : p < vn v) (hq : q < vn v) (h : bIn s q = true) : bIn s (vFol v p s) = true := by
  obtain ⟨k, h1, h2, h3⟩ := vPlace hv hp hq
  exact sFol_in hv h2 (by rw [h3]; exact h) (vn v) 1 (by omega) h1
theorem vFol_lt (hv : vOk v) {p : Nat} (hp : p < vn v) (s : Nat) : vFol v p s < vn v := sFol_lt hv hp s (vn v) 1
/-! at whom -/
theorem sBest_in {s : Nat} {m : Bool} : ∀ f p b, (b = 9 ∨ bIn s b = true) → (sBest v s m f p b = 9 ∨ bIn s (sBest v s m f p b) = true)
  | 0, p, b, hb => hb
  | f + 1, p, b, hb => by
    unfold sBest
    refine sBest_in f (p + 1) _ ?_
    by_cases hc : bIn s p = true ∧ (b = 9 ∨ (if m then vH v b < vH v p else vH v p < vH v b))
    · rw [if_pos hc]
      exact Or.inr hc.1
    · rw [if_neg hc]
      exact hb
/-- an aim that may be: into the air, or at another one who is in -/
def aOk (v : Vw) (s w a : Nat) : Prop := a = 9 ∨ (a < vn v ∧ a ≠ w ∧ bIn s a = true)
theorem aOk_del (hv : vOk v) {s w a : Nat} (hw : w < vn v) (hs : s ≤ bAll (vn v)) (h : a = 9 ∨ bIn (bDel s w) a = true) : aOk v s w a := by
  have hn := hv.1
  have h16 := vAll16 hv
  rcases h with h | h
  · exact Or.inl h
  · have ha := vsub' hv (vdel hv hs (by omega)) h
    have e := b_del_in s (by omega) w (by omega) a (by omega)
    rw [h] at e
    have e := e.symm
    simp only [Bool.and_eq_true, decide_eq_true_eq] at e
    exact Or.inr ⟨ha, e.2, e.1⟩
theorem sPlain_ok (hv : vOk v) {s w : Nat} (hw : w < vn v) (hs : s ≤ bAll (vn v)) : aOk v s w (sPlain v w s) := by
  have hn := hv.1
  have h16 := vAll16 hv
  refine aOk_del hv hw hs ?_
  unfold sPlain
  split
  · exact sBest_in _ _ _ (Or.inl rfl)
  split
  · exact sBest_in _ _ _ (Or.inl rfl)
  split
  · split
    · exact Or.inl rfl
    · rename_i h0
      obtain ⟨q, hq, hi⟩ := b_some (bDel s w) (b_del_lt s (by omega) w (by omega)) h0
      exact Or.inr (vFol_in hv hw (vsub hv (vdel hv hs (by omega)) hq hi) hi)
  split
  · split
    · exact Or.inr (by assumption)
    · exact Or.inl rfl
  exact Or.inl rfl
end SP
/-- a WORTH, if k of twelve give a, else b -/
def sMx (k : Nat) (a b : Int64) : Int64 := (nI k).toInt64 * a + ((12 : Int32) - nI k).toInt64 * b
def sLs (s a : Nat) : Nat := if a = 9 then s else bDel s a
def sNm (v : Vw) (o : Lw) (t s w a : Nat) : Nat := if a = 9 then 0 else sNum v o t (bPop s) w a
/-- WORTH for w, if it throws at p -/
def sTo (v : Vw) (o : Lw) (t : Nat) (W : Nat → Nat → Nat → Int64) (s w p : Nat) : Int64 := sMx (sNum v o t (bPop s) w p) (W (bDel s p) (vFol v w (bDel s p)) w) (W s (vFol v w s) w)
def sBA (v : Vw) (o : Lw) (t : Nat) (W : Nat → Nat → Nat → Int64) (s w : Nat) : Nat → Nat → Nat → Int64 → Nat
  | 0, _, b, _ => b
  | f + 1, p, b, m => if p ≠ w ∧ bIn s p = true then (if m < sTo v o t W s w p then sBA v o t W s w f (p + 1) p (sTo v o t W s w p) else sBA v o t W s w f (p + 1) b m) else sBA v o t W s w f (p + 1) b m
/-- at whom w throws, the WORTHS behind the throw being W -/
def sAW (v : Vw) (o : Lw) (t : Nat) (W : Nat → Nat → Nat → Int64) (s w : Nat) : Nat :=
  if vY v w = 5 then sBA v o t W s w (vn v) 0 9 (sMx 0 (W s (vFol v w s) w) (W s (vFol v w s) w)) else sPlain v w s
def sVW (v : Vw) (o : Lw) (t : Nat) (W : Nat → Nat → Nat → Int64) (s w a p : Nat) : Int64 := sMx (sNm v o t s w a) (W (sLs s a) (vFol v w (sLs s a)) p) (W s (vFol v w s) p)
def sEnd (v : Vw) (f s p : Nat) : Int64 := if bIn s p = true then (nI (vZ v (bPop s))).toInt64 * zPOW f else 0
def sWt (v : Vw) (o : Lw) : Nat → Nat → Nat → Nat → Int64
  | 0, s, _, p => sEnd v 0 s p
  | f + 1, s, w, p => if bPop s < 2 then sEnd v (f + 1) s p else sVW v o (vB v - (f + 1)) (sWt v o f) s w (sAW v o (vB v - (f + 1)) (sWt v o f) s w) p
def sAm (v : Vw) (o : Lw) : Nat → Nat → Nat → Nat
  | 0, _, _ => 9
  | f + 1, s, w => if bPop s < 2 then 9 else sAW v o (vB v - (f + 1)) (sWt v o f) s w
section SQ
variable {v : Vw} {o : Lw}
theorem sBA_ok {t s w : Nat} {W : Nat → Nat → Nat → Int64} : ∀ f p b m, f + p = vn v → aOk v s w b → aOk v s w (sBA v o t W s w f p b m)
  | 0, p, b, m, h, hb => hb
  | f + 1, p, b, m, h, hb => by
    unfold sBA
    split
    · rename_i hc
      split
      · exact sBA_ok f (p + 1) p _ (by omega) (Or.inr ⟨by omega, hc.1, hc.2⟩)
      · exact sBA_ok f (p + 1) b m (by omega) hb
    · exact sBA_ok f (p + 1) b m (by omega) hb
theorem sAW_ok (hv : vOk v) {t s w : Nat} {W : Nat → Nat → Nat → Int64} (hw : w < vn v) (hs : s ≤ bAll (vn v)) : aOk v s w (sAW v o t W s w) := by
  unfold sAW
  split
  · exact sBA_ok _ _ _ _ (by omega) (Or.inl rfl)
  · exact sPlain_ok hv hw hs
theorem sAm_ok (hv : vOk v) {s w : Nat} (hw : w < vn v) (hs : s ≤ bAll (vn v)) (f : Nat) : aOk v s w (sAm v o f s w) := by
  cases f with
  | zero => exact Or.inl rfl
  | succ f =>
    by_cases h : bPop s < 2
    · rw [sAm, if_pos h]
      exact Or.inl rfl
    · rw [sAm, if_neg h]
      exact sAW_ok hv hw hs
/-- the set behind a hit -/
theorem sLs_le (hv : vOk v) {s w a : Nat} (hs : s ≤ bAll (vn v)) (ha : aOk v s w a) : sLs s a ≤ bAll (vn v) := by
  have hn := hv.1
  unfold sLs
  split
  · exact hs
  · rcases ha with h | h
    · contradiction
    · exact vdel hv hs (by omega)
theorem sLs_in (hv : vOk v) {s w a : Nat} (hs : s ≤ bAll (vn v)) (ha : aOk v s w a) (hi : bIn s w = true) : bIn (sLs s a) w = true := by
  have hn := hv.1
  have h16 := vAll16 hv
  have hw := vsub' hv hs hi
  unfold sLs
  split
  · exact hi
  · rcases ha with h | h
    · contradiction
    · rw [b_del_in s (by omega) a (by omega) w (by omega), hi]
      simpa using fun e => h.2.1 e.symm
theorem sAm_pos {f s w : Nat} (h : ¬ bPop s < 2) : sAm v o (f + 1) s w = sAW v o (vB v - (f + 1)) (sWt v o f) s w := by
  rw [sAm, if_neg h]
theorem sAm_over {s w t : Nat} (h : sOver v s t) : sAm v o (vB v - t) s w = 9 := by
  rcases h with h | h
  · rw [show vB v - t = 0 by omega]; rfl
  · cases vB v - t with
    | zero => rfl
    | succ k => exact if_pos h
theorem sWt_over {s w t p : Nat} (h : sOver v s t) : sWt v o (vB v - t) s w p = sEnd v (vB v - t) s p := by
  rcases h with h | h
  · rw [show vB v - t = 0 by omega]; rfl
  · cases vB v - t with
    | zero => rfl
    | succ k => exact if_pos h
theorem sAm_go {s w t : Nat} (h : ¬ sOver v s t) : sAm v o (vB v - t) s w = sAW v o t (sWt v o (vB v - (t + 1))) s w := by
  have h1 : t < vB v := Nat.not_le.mp fun z => h (Or.inl z)
  have h2 : ¬ bPop s < 2 := fun z => h (Or.inr z)
  rw [show vB v - t = vB v - (t + 1) + 1 by omega, sAm, if_neg h2, show vB v - (vB v - (t + 1) + 1) = t by omega]
theorem sWt_go {s w t p : Nat} (h : ¬ sOver v s t) : sWt v o (vB v - t) s w p = sVW v o t (sWt v o (vB v - (t + 1))) s w (sAm v o (vB v - t) s w) p := by
  have h1 : t < vB v := Nat.not_le.mp fun z => h (Or.inl z)
  have h2 : ¬ bPop s < 2 := fun z => h (Or.inr z)
  rw [sAm_go h, show vB v - t = vB v - (t + 1) + 1 by omega, sWt, if_neg h2, show vB v - (vB v - (t + 1) + 1) = t by omega]
end SQ
