/-! ===== the reference: valueOf; public calls: worth, just ===== -/
def sVn (v : Vw) (o : Lw) (g : Nat → Nat → Nat) : Nat → Nat → Nat → Nat
  | 0, s, _ => g (vB v) s * 12 ^ 0
  | f + 1, s, w => if bPop s < 2 then g (vB v - (f + 1)) s * 12 ^ (f + 1) else (12 - sNm v o (vB v - (f + 1)) s w (sAm v o (f + 1) s w)) * sVn v o g f s (vFol v w s) + sNm v o (vB v - (f + 1)) s w (sAm v o (f + 1) s w) * sVn v o g f (sLs s (sAm v o (f + 1) s w)) (vFol v w (sLs s (sAm v o (f + 1) s w)))
def sVj (v : Vw) (o : Lw) (g : Nat → Nat → Nat) (j : Nat) : Nat := sVn v o g (vB v - j / 64) (j % 16) (j / 16 % 4)
section VL
variable {v : Vw} {o : Lw} {g : Nat → Nat → Nat}
theorem sVn_over {s w t : Nat} (ht : t ≤ vB v) (h : sOver v s t) : sVn v o g (vB v - t) s w = g t s * 12 ^ (vB v - t) := by
  rcases h with h | h
  · have : t = vB v := by omega
    subst this
    rw [Nat.sub_self]
    rfl
  · by_cases e : t = vB v
    · subst e
      rw [Nat.sub_self]
      rfl
    · rw [show vB v - t = vB v - (t + 1) + 1 by omega, sVn, if_pos h, show vB v - (vB v - (t + 1) + 1) = t by omega]
theorem sVn_go {s w t : Nat} (h : ¬ sOver v s t) : sVn v o g (vB v - t) s w = (12 - sNm v o t s w (sAm v o (vB v - t) s w)) * sVn v o g (vB v - (t + 1)) s (vFol v w s) + sNm v o t s w (sAm v o (vB v - t) s w) * sVn v o g (vB v - (t + 1)) (sLs s (sAm v o (vB v - t) s w)) (vFol v w (sLs s (sAm v o (vB v - t) s w))) := by
  have h1 : t < vB v := Nat.not_le.mp fun z => h (Or.inl z)
  have h2 : ¬ bPop s < 2 := fun z => h (Or.inr z)
  rw [show vB v - t = vB v - (t + 1) + 1 by omega, sVn, if_neg h2, show vB v - (vB v - (t + 1) + 1) = t by omega]
theorem sVj_ix {t w s : Nat} (hw : w < 4) (hs : s < 16) : sVj v o g (ix t w s) = sVn v o g (vB v - t) s w := by
  unfold sVj
  rw [ix_div hw hs, show ix t w s % 16 = s by unfold ix; omega, show ix t w s / 16 % 4 = w by unfold ix; omega]
theorem Hm_V (hv : vOk v) : Hm v o g (sVj v o g) := by
  intro t s w ht hk
  have h16 := vAll16 hv
  have hs : s < 16 := by have := hk.1; omega
  refine ⟨fun ho => ?_, fun ho => ?_⟩
  · rw [sVj_ix hk.2.1 hs]
    exact sVn_over ht ho
  · have h2 : 2 ≤ bPop s := Nat.not_lt.mp fun z => ho (Or.inr z)
    have k1 := tOk_miss hv hk h2
    have k2 := tOk_hit (o := o) (f := vB v - t) hv hk h2
    rw [sVj_ix hk.2.1 hs, sVj_ix k1.2.1 hs, sVj_ix k2.2.1 (by have := k2.1; omega)]
    exact sVn_go ho
theorem mul12 {k a b c F : Nat} (hk : k ≤ 12) (ha : a ≤ c * F) (hb : b ≤ c * F) : (12 - k) * a + k * b ≤ c * (F * 12) := by
  have h1 : (12 - k) * a ≤ (12 - k) * (c * F) := Nat.mul_le_mul_left _ ha
  have h2 : k * b ≤ k * (c * F) := Nat.mul_le_mul_left _ hb
  have h3 : (12 - k) * (c * F) + k * (c * F) = c * (F * 12) := by
    rw [← Nat.add_mul, Nat.sub_add_cancel hk, Nat.mul_comm 12, Nat.mul_assoc]
  omega
theorem sVn_bd (hv : vOk v) (h12 : ∀ t m a b, a < 4 → sNum v o t m a b ≤ 12) {c : Nat} (hg : ∀ t s, t ≤ 9 → g t s ≤ c) : ∀ f t s w, f + t = vB v → tOk v s w → sVn v o g (vB v - t) s w ≤ c * 12 ^ f
  | 0, t, s, w, hf, hk => by
    have hb := hv.2.1
    rw [sVn_over (by omega) (Or.inl (by omega)), show vB v - t = 0 by omega]
    exact Nat.mul_le_mul_right _ (hg t s (by omega))
  | f + 1, t, s, w, hf, hk => by
    have hb := hv.2.1
    by_cases h2 : bPop s < 2
    · rw [sVn_over (by omega) (Or.inr h2), show vB v - t = f + 1 by omega]
      exact Nat.mul_le_mul_right _ (hg t s (by omega))
    · have ho : ¬ sOver v s t := fun z => z.elim (fun z => by omega) h2
      rw [sVn_go ho, Nat.pow_succ]
      exact mul12 (sNm_le h12 hk.2.1) (sVn_bd hv h12 hg f (t + 1) s _ (by omega) (tOk_miss hv hk (by omega))) (sVn_bd hv h12 hg f (t + 1) _ _ (by omega) (tOk_hit hv hk (by omega)))
theorem sVj_bd (hv : vOk v) (h12 : ∀ t m a b, a < 4 → sNum v o t m a b ≤ 12) (hg : ∀ t s, t ≤ 9 → g t s ≤ 9) : sVj v o g (spSt v) < 2 ^ 48 := by
  have hb := hv.2.1
  have h16 := vAll16 hv
  have hk := (spStart_lt hv).2
  have h1 := sVn_bd hv h12 hg (vB v) 0 _ _ (by omega) hk
  have h2 : 12 ^ vB v ≤ 12 ^ 9 := Nat.pow_le_pow_right (by omega) hb
  have h3 : sVj v o g (spSt v) = sVn v o g (vB v - 0) (bAll (vn v)) (vFirst v (bAll (vn v))) := sVj_ix hk.2.1 h16
  have h4 : (12 : Nat) ^ 9 = 5159780352 := by decide
  rw [h3]
  omega
theorem sWt_nat (hv : vOk v) (h12 : ∀ t m a b, a < 4 → sNum v o t m a b ≤ 12) (p : Nat) : ∀ f t s w, f + t = vB v → tOk v s w → ∃ A, sWt v o (vB v - t) s w p = lN A ∧ A ≤ 9 * 12 ^ f := by
  have hb := hv.2.1
  have h16 := vAll16 hv
  have ends : ∀ f t s w, f + t = vB v → s < 16 → sOver v s t → ∃ A, sWt v o (vB v - t) s w p = lN A ∧ A ≤ 9 * 12 ^ f := by
    intro f t s w hf hs ho
    rw [sWt_over ho, sEnd]
    by_cases e : bIn s p = true
    · have hz := hv.2.2.2.2.2.2.1 (bPop s) (by have := b_pop_le s hs; omega)
      refine ⟨vZ v (bPop s) * 12 ^ f, ?_, Nat.mul_le_mul_right _ hz⟩
      rw [if_pos e, nI_l (by omega), (pow12 (vB v - t) (by omega)).2.2, lN_mul, show vB v - t = f by omega]
    · exact ⟨0, by rw [if_neg e]; rfl, Nat.zero_le _⟩
  intro f
  induction f with
  | zero =>
    intro t s w hf hk
    exact ends 0 t s w hf (by have := hk.1; omega) (Or.inl (by omega))
  | succ f ih =>
    intro t s w hf hk
    by_cases h2 : bPop s < 2
    · exact ends (f + 1) t s w hf (by have := hk.1; omega) (Or.inr h2)
    · have ho : ¬ sOver v s t := fun z => z.elim (fun z => by omega) h2
      obtain ⟨A, a1, a2⟩ := ih (t + 1) _ _ (by omega) (tOk_hit (o := o) (f := vB v - t) hv hk (by omega))
      obtain ⟨B, b1, b2⟩ := ih (t + 1) _ _ (by omega) (tOk_miss hv hk (by omega))
      have hq := sNm_le (v := v) (o := o) h12 (t := t) (s := s) (a := sAm v o (vB v - t) s w) hk.2.1
      refine ⟨(12 - sNm v o t s w (sAm v o (vB v - t) s w)) * B + sNm v o t s w (sAm v o (vB v - t) s w) * A, ?_, by rw [Nat.pow_succ]; exact mul12 hq b2 a2⟩
      rw [sWt_go ho, sVW, a1, b1, sMx, show (12 : Int32) - nI (sNm v o t s w (sAm v o (vB v - t) s w)) = nI (12 - sNm v o t s w (sAm v o (vB v - t) s w)) from nI_sub (a := 12) hq, nI_l (by omega), nI_l (by omega), lN_mul, lN_mul, lN_add, Nat.add_comm]
theorem sBeg_nat (hv : vOk v) (h12 : ∀ t m a b, a < 4 → sNum v o t m a b ≤ 12) {p : Nat} (h0 : 0 < vn v) : ∃ A, sBeg v o 0 p = lN A ∧ A < 2 ^ 48 := by
  have hb := hv.2.1
  have hk := (spStart_lt hv).2
  rw [vFirst_all hv h0] at hk
  obtain ⟨A, a1, a2⟩ := sWt_nat hv h12 p (vB v) 0 _ _ (by omega) hk
  have h2 : 12 ^ vB v ≤ 12 ^ 9 := Nat.pow_le_pow_right (by omega) hb
  have h4 : (12 : Nat) ^ 9 = 5159780352 := by decide
  exact ⟨A, a1, by omega⟩
end VL
/-! valueOf -/
def vDn (v : Vw) (o : Lw) (g : Nat → Nat → Nat) (R : Nat → Nat → Nat → Prop) (L : zLM) : Prop := ∀ t s w, t ≤ vB v → s ≤ bAll (vn v) → bIn s w = true → R t s w → L 61 ((t * 16 + s) * 4 + w) = lN (sVn v o g (vB v - t) s w)
def qV (e : Int64) (I : zIM) (L : zLM) : Int64 → zIM → zLM → Prop := fun y I' L' => e = y ∧ oM I I' ∧ oML2 L L' ∧ ∀ b, b ≤ 9 → L' 56 b = zPOW b
section VO
variable {l : Launch} {G : zG} {d : Nat} {v : Vw} {o : Lw} {g : Nat → Nat → Nat} {I : zIM} {L1 : zLM} {x1 x2 : Int32} {P : Int64 → zIM → zLM → Prop}
def aEnd (l : Launch) (G : zG) (g : Nat → Nat → Nat) (x1 x2 : Int32) : Prop := ∀ (d : Nat) (I : zIM) (L : zLM) (t s : Nat), 1 ≤ d → t ≤ 9 → s < 16 → zCl l G d mX9_atEnd [.ref 44, .int (nI t), .int (nI s), .int x1, .int x2] I L (zE (lN (g t s)) I L)
theorem mV_54 (hv : vOk v) (hM : mG v I) (hS : mSv v o I L1) (h12 : ∀ t m a b, a < 4 → sNum v o t m a b ≤ 12) (hp : ∀ b, b ≤ 9 → L1 56 b = zPOW b) (hA : aEnd l G g x1 x2) (hd : 5 ≤ d) {t s : Nat} (ht : t ≤ vB v) (hs : s ≤ bAll (vn v))
    (after : ∀ L, (∀ a b, a ≠ 61 → L a b = L1 a b) → vDn v o g (fun t' s' _ => t + 1 ≤ t' ∨ t' = t ∧ s' < s + 1) L → K_X9_valueOf_42 l G d P I L x1 x2 (nI t) (nI (s + 1))) : ∀ f w L, f + w = vn v → (∀ a b, a ≠ 61 → L a b = L1 a b) → vDn v o g (fun t' s' w' => t + 1 ≤ t' ∨ t' = t ∧ (s' < s ∨ s' = s ∧ w' < w)) L → K_X9_valueOf_54 l G d P I L x1 x2 (nI t) (nI s) (nI w)
  | 0, w, L, h, hL, hI => by
    have hn := hv.1
    refine t_X9_valueOf_54 ⟨fun c => ?_, fun c => absurd (by rw [hM.1]; exact nI_le (by omega) (by omega)) c⟩
    rw [nI_1]
    refine after L hL fun t' s' w' h1 h2 h3 h4 => hI t' s' w' h1 h2 h3 ?_
    have h4 : t + 1 ≤ t' ∨ t' = t ∧ s' < s + 1 := h4
    have := vsub' hv h2 h3
    show t + 1 ≤ t' ∨ t' = t ∧ (s' < s ∨ s' = s ∧ w' < w)
    omega
  | f + 1, w, L, h, hL, hI => by
    have hn := hv.1
    have hb := hv.2.1
    have h16 := vAll16 hv
    have step : ∀ y : Int64, (bIn s w = true → y = lN (sVn v o g (vB v - t) s w)) → K_X9_valueOf_54 l G d P I (xL L 61 ((t * 16 + s) * 4 + w) y) x1 x2 (nI t) (nI s) (nI w + (1 : Int32)) := by
      intro y hy
      rw [nI_1]
      refine mV_54 hv hM hS h12 hp hA hd ht hs after f (w + 1) _ (by omega) (fun a b ha => (xL_ne (by omega)).trans (hL a b ha)) (fun t' s' w' h1 h2 h3 h4 => ?_)
      have h4 : t + 1 ≤ t' ∨ t' = t ∧ (s' < s ∨ s' = s ∧ w' < w + 1) := h4
      have hw' := vsub' hv h2 h3
      by_cases e : t' = t ∧ s' = s ∧ w' = w
      · obtain ⟨e1, e2, e3⟩ := e
        subst e1; subst e2; subst e3
        exact xL_eq.trans (hy h3)
      · exact (xL_ne (by omega)).trans (hI t' s' w' h1 h2 h3 (show t + 1 ≤ t' ∨ t' = t ∧ (s' < s ∨ s' = s ∧ w' < w) by omega))
    refine t_X9_valueOf_54 ⟨fun c => absurd c (by rw [hM.1]; exact nI_ge (by omega) (by omega)), fun c => bE 0 (mState _ _ _) (by omega) (bB 1 (mIsOver hv hM (by omega) (by omega) (Nat.le_refl 1)) (by omega) (fun ho => ⟨fun c => absurd c i1_0, fun _ => ?_⟩) (fun ho => ⟨fun _ => bB 0 (cIsIn9 (by omega) (by omega)) (by omega) (fun e => ⟨fun c => absurd c i1_0, fun _ => ?_⟩) (fun e => ⟨fun _ => ?_, fun c => absurd rfl c⟩), fun c => absurd rfl c⟩))⟩
    · refine bL 1 (hA 1 I L t s (Nat.le_refl 1) (by omega) (by omega)) (by omega) ⟨vB v - t, by rw [hM.2.1, nI_sub ht], by omega, _, rfl, by omega, step _ fun hi => ?_⟩
      rw [hL _ _ (by omega), hp _ (by omega), (pow12 _ (show vB v - t ≤ 9 by omega)).2.2, lN_mul, sVn_over ht ho]
    · have h1 : t < vB v := Nat.not_le.mp fun z => ho (Or.inl z)
      have h2 : 2 ≤ bPop s := Nat.not_lt.mp fun z => ho (Or.inr z)
      have hw : w < vn v := by omega
      have hk : tOk v s w := ⟨hs, by omega, fun _ => e⟩
      have k1 := tOk_miss hv hk h2
      have k2 := tOk_hit (o := o) (f := vB v - t) hv hk h2
      have hok := sAm_ok (o := o) hv hw hs (vB v - t)
      have ha4 : sAm v o (vB v - t) s w = 9 ∨ sAm v o (vB v - t) s w < vn v := hok.elim Or.inl fun z => Or.inr z.1
      have hls := sLs_le hv hs hok
      have hli := sLs_in hv hs hok e
      have hq := sNm_le (v := v) (o := o) h12 (t := t) (s := s) (a := sAm v o (vB v - t) s w) hk.2.1
      have fin : ((nI (sNm v o t s w (sAm v o (vB v - t) s w))).toInt64 * L 61 (((t + 1) * 16 + sLs s (sAm v o (vB v - t) s w)) * 4 + vFol v w (sLs s (sAm v o (vB v - t) s w)))) + (((12 : Int32) - nI (sNm v o t s w (sAm v o (vB v - t) s w))).toInt64 * L 61 (((t + 1) * 16 + s) * 4 + vFol v w s)) = lN (sVn v o g (vB v - t) s w) := by
        rw [hI (t + 1) _ _ (by omega) hls (vFol_in hv hw hw hli) (Or.inl (Nat.le_refl _)), hI (t + 1) _ _ (by omega) hs (vFol_in hv hw hw e) (Or.inl (Nat.le_refl _)), show (12 : Int32) - nI (sNm v o t s w (sAm v o (vB v - t) s w)) = nI (12 - sNm v o t s w (sAm v o (vB v - t) s w)) from nI_sub (a := 12) hq, nI_l (by omega), nI_l (by omega), lN_mul, lN_mul, lN_add, sVn_go ho, Nat.add_comm]
      obtain ⟨q1, q2, -⟩ := hS t s w (by omega) hs e
      have b1 := k1.2.1
      have b2 := k2.2.1
      refine ⟨_, rfl, by omega, ?_⟩
      rw [q1, q2]
      refine ⟨fun c1 => ?_, fun c1 => ?_⟩
      · have h9 : ¬ sAm v o (vB v - t) s w = 9 := fun z => c1 (by rw [z]; rfl)
        rw [b_del s (by omega) _ (by omega), show bDel s (sAm v o (vB v - t) s w) = sLs s (sAm v o (vB v - t) s w) from (if_neg h9).symm]
        refine bE 1 (mNext hv hM hw (by omega) (Nat.le_refl 1)) (by omega) ?_
        rw [nI_1]
        refine bE 0 (mState _ _ _) (by omega) ⟨_, rfl, by omega, bE 1 (mNext hv hM hw (by omega) (Nat.le_refl 1)) (by omega) (bE 0 (mState _ _ _) (by omega) ⟨_, rfl, by omega, step _ fun _ => ?_⟩)⟩
        rw [q2]
        exact fin
      · have h9 : sAm v o (vB v - t) s w = 9 := (nI_9 (by omega)).mp c1
        have es : sLs s (sAm v o (vB v - t) s w) = s := if_pos h9
        refine bE 1 (mNext hv hM hw (by omega) (Nat.le_refl 1)) (by omega) ?_
        rw [nI_1]
        refine bE 0 (mState _ _ _) (by omega) ⟨_, rfl, by omega, bE 1 (mNext hv hM hw (by omega) (Nat.le_refl 1)) (by omega) (bE 0 (mState _ _ _) (by omega) ⟨_, rfl, by omega, step _ fun _ => ?_⟩)⟩
        rw [q2]
        rw [es] at fin
        exact fin
    · rw [nI_1]
      refine mV_54 hv hM hS h12 hp hA hd ht hs after f (w + 1) L (by omega) hL (fun t' s' w' h1 h2 h3 h4 => hI t' s' w' h1 h2 h3 ?_)
      have h4 : t + 1 ≤ t' ∨ t' = t ∧ (s' < s ∨ s' = s ∧ w' < w + 1) := h4
      show t + 1 ≤ t' ∨ t' = t ∧ (s' < s ∨ s' = s ∧ w' < w)
      have h5 : ¬ (s' = s ∧ w' = w) := fun z => by
        rw [z.1, z.2] at h3
        exact e h3
      omega
theorem mV_42 (hv : vOk v) (hM : mG v I) (hS : mSv v o I L1) (h12 : ∀ t m a b, a < 4 → sNum v o t m a b ≤ 12) (hp : ∀ b, b ≤ 9 → L1 56 b = zPOW b) (hA : aEnd l G g x1 x2) (hd : 5 ≤ d) {t : Nat} (ht : t ≤ vB v)
    (after : ∀ L, (∀ a b, a ≠ 61 → L a b = L1 a b) → vDn v o g (fun t' _ _ => t ≤ t') L → K_X9_valueOf_35 l G d P I L x1 x2 (nI t + (-1 : Int32))) : ∀ f s L, f + s = bAll (vn v) + 1 → (∀ a b, a ≠ 61 → L a b = L1 a b) → vDn v o g (fun t' s' _ => t + 1 ≤ t' ∨ t' = t ∧ s' < s) L → K_X9_valueOf_42 l G d P I L x1 x2 (nI t) (nI s)
  | 0, s, L, h, hL, hI => by
    have h16 := vAll16 hv
    refine t_X9_valueOf_42 (bE 0 (cAll9 hv.1 hM.1) (by omega) ⟨fun c => ?_, fun c => absurd (nI_lt (by omega) (by omega)) c⟩)
    refine after L hL fun t' s' w' h1 h2 h3 h4 => hI t' s' w' h1 h2 h3 ?_
    have h4 : t ≤ t' := h4
    show t + 1 ≤ t' ∨ t' = t ∧ s' < s
    omega
  | f + 1, s, L, h, hL, hI => by
    have h16 := vAll16 hv
    refine t_X9_valueOf_42 (bE 0 (cAll9 hv.1 hM.1) (by omega) ⟨fun c => absurd c (nI_nlt (by omega) (by omega)), fun c => ?_⟩)
    have := mV_54 (l := l) (G := G) (P := P) hv hM hS h12 hp hA hd ht (s := s) (by omega) (fun L hL hI => mV_42 hv hM hS h12 hp hA hd ht after f (s + 1) L (by omega) hL hI) (vn v) 0 L (by omega) hL (fun t' s' w' h1 h2 h3 h4 => hI t' s' w' h1 h2 h3 ?_)
    · rw [nI_0] at this
      exact this
    · have h4 : t + 1 ≤ t' ∨ t' = t ∧ (s' < s ∨ s' = s ∧ w' < 0) := h4
      show t + 1 ≤ t' ∨ t' = t ∧ s' < s
      omega
theorem mV_35 (hv : vOk v) (h0 : 0 < vn v) (hM : mG v I) (hS : mSv v o I L1) (h12 : ∀ t m a b, a < 4 → sNum v o t m a b ≤ 12) (hp : ∀ b, b ≤ 9 → L1 56 b = zPOW b) (hA : aEnd l G g x1 x2) (hd : 5 ≤ d) (hP : ∀ L, (∀ a b, a ≠ 61 → L a b = L1 a b) → P (lN (sVj v o g (spSt v))) I L) : ∀ k L, k ≤ vB v + 1 → (∀ a b, a ≠ 61 → L a b = L1 a b) → vDn v o g (fun t' _ _ => k ≤ t') L → K_X9_valueOf_35 l G d P I L x1 x2 (nI k + (-1 : Int32))
  | 0, L, h, hL, hI => by
    have hn := hv.1
    have h16 := vAll16 hv
    have hk := (spStart_lt hv).2
    have hO := (hv.2.2.2.2.1 0 h0).1
    have e : sVj v o g (spSt v) = sVn v o g (vB v - 0) (bAll (vn v)) (vO v 0) := by
      have := sVj_ix (v := v) (o := o) (g := g) (t := 0) hk.2.1 h16
      rw [vFirst_all hv h0] at this
      unfold spSt
      rw [vFirst_all hv h0]
      exact this
    refine t_X9_valueOf_35 ⟨fun c => bE 0 (cAll9 hn hM.1) (by omega) ?_, fun c => absurd (by decide +kernel) c⟩
    rw [hM.2.2.2.2.2.1 0 h0]
    refine bE 0 (mState 0 _ _) (by omega) ⟨_, rfl, by omega, ?_⟩
    rw [hI 0 _ _ (Nat.zero_le _) (Nat.le_refl _) (vAll_in hv hO) (Nat.zero_le _), ← e]
    exact hP L hL
  | k + 1, L, h, hL, hI => by
    have hb := hv.2.1
    rw [i_dec k (by omega)]
    refine t_X9_valueOf_35 ⟨fun c => absurd c (nI_pos (by omega)), fun c => ?_⟩
    refine mV_42 (s := 0) (f := bAll (vn v) + 1) hv hM hS h12 hp hA hd (by omega) (fun L hL hI => mV_35 hv h0 hM hS h12 hp hA hd hP k L (by omega) hL hI) L (by omega) hL (fun t' s' w' h1 h2 h3 h4 => hI t' s' w' h1 h2 h3 ?_)
    have h4 : k + 1 ≤ t' ∨ t' = k ∧ s' < 0 := h4
    show k + 1 ≤ t'
    omega
theorem mValue {L : zLM} (hv : vOk v) (hM : mG v I) (hL : rLaw o I) (hA : aEnd l G g x1 x2) (hz : vn v = 0 → (¬ x1 = 2 → g 0 0 = 0) ∧ (x1 = 2 → g 0 0 = 1)) (hd : 106 ≤ d) : zCl l G d mX9_valueOf [.ref 44, .int x1, .int x2] I L (qV (lN (sVj v o g (spSt v))) I L) := by
  have hn := hv.1
  have hb := hv.2.1
  have h12 : ∀ t m a b, a < 4 → sNum v o t m a b ≤ 12 := fun t m a b ha => sNum_le hv hL ha
  refine t_X9_valueOf ⟨105, _, by omega, mSolves hv hM hL (Nat.le_refl 105), fun I1 L1 hq => ?_⟩
  have hM1 := hq.2.2.1.gG hM
  refine ⟨fun c => ?_, fun c => ?_⟩
  · have h0 : 0 < vn v := by
      rcases Nat.eq_zero_or_pos (vn v) with z | z
      · rw [hM1.1, z] at c
        exact absurd rfl c
      · exact z
    have := mV_35 (l := l) (G := G) (d := d) (I := I1) (L1 := L1) (P := qV (lN (sVj v o g (spSt v))) I L) hv h0 hM1 hq.1 h12 hq.2.1 hA (by omega) (fun L2 g1 => ⟨rfl, hq.2.2.1, fun a b h1 h2 h3 h4 h5 => (g1 a b h5).trans (hq.2.2.2 a b h2 h3 h4), fun b hb' => (g1 56 b (by omega)).trans (hq.2.1 b hb')⟩) (vB v + 1) L1 (Nat.le_refl _) (fun _ _ _ => rfl) (fun t s w g1 g2 g3 g4 => absurd (show vB v + 1 ≤ t from g4) (by omega))
    rw [i_dec (vB v) (by omega), ← hM1.2.1] at this
    exact this
  · have h0 : vn v = 0 := by
      rw [hM1.1] at c
      exact nI_inj (by omega) (by omega) (c.trans nI_0.symm)
    have e : sVj v o g (spSt v) = g 0 0 * 12 ^ vB v := by
      have hk := (spStart_lt hv).2
      have h1 : spSt v = ix 0 0 0 := by
        unfold spSt
        rw [vFirst_none h0, h0]
        rfl
      rw [h1, sVj_ix (by omega) (by omega), sVn_over (Nat.zero_le _) (Or.inr (by decide)), Nat.sub_zero]
    rw [e]
    obtain ⟨z1, z2⟩ := hz h0
    refine ⟨fun c2 => ⟨?_, hq.2.2.1, hq.2.2.2.up, hq.2.1⟩, fun c2 => ⟨vB v, hM1.2.1, by omega, ?_, hq.2.2.1, hq.2.2.2.up, hq.2.1⟩⟩
    · rw [z1 c2, Nat.zero_mul]
      rfl
    · rw [z2 c2, Nat.one_mul, hq.2.1 _ hb, (pow12 _ hb).2.2]
end VO
