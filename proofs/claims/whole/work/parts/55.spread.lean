/-! ===== the class: how likely each end is, from the beginning on ===== -/
/-- the sum of F j * V j over n places from i on -/
def sS (F V : Nat → Nat) : Nat → Nat → Nat
  | 0, _ => 0
  | n + 1, i => F i * V i + sS F V n (i + 1)
theorem sS_off {F V : Nat → Nat} {j y : Nat} : ∀ n i, j < i → sS (wU F j y) V n i = sS F V n i
  | 0, i, h => rfl
  | n + 1, i, h => by
    unfold sS
    rw [wU_ne (by omega), sS_off n (i + 1) (by omega)]
theorem sS_up {F V : Nat → Nat} {j c : Nat} : ∀ n i, i ≤ j → j < i + n → sS (wU F j (F j + c)) V n i = sS F V n i + c * V j
  | 0, i, h1, h2 => absurd h2 (by omega)
  | n + 1, i, h1, h2 => by
    unfold sS
    by_cases e : i = j
    · subst e
      rw [wU_eq, sS_off n (i + 1) (by omega), Nat.add_mul]
      omega
    · rw [wU_ne e, sS_up n (i + 1) (by omega) (by omega)]
      omega
theorem sS_zero {F V : Nat → Nat} : ∀ n i, (∀ j, i ≤ j → j < i + n → F j = 0) → sS F V n i = 0
  | 0, i, h => rfl
  | n + 1, i, h => by
    unfold sS
    rw [h i (Nat.le_refl _) (by omega), sS_zero n (i + 1) (fun j h1 h2 => h j (by omega) (by omega)), Nat.zero_mul]
theorem sS_head {F V : Nat → Nat} {n i : Nat} : sS F V (n + 1) i = F i * V i + sS F V n (i + 1) := rfl
def ix (t w s : Nat) : Nat := (t * 4 + w) * 16 + s
/-- V is worked out from the bell back, with g t s at an end -/
def Hm (v : Vw) (o : Lw) (g : Nat → Nat → Nat) (V : Nat → Nat) : Prop := ∀ t s w, t ≤ vB v → tOk v s w →
  (sOver v s t → V (ix t w s) = g t s * 12 ^ (vB v - t)) ∧
  (¬ sOver v s t → V (ix t w s) = (12 - sNm v o t s w (sAm v o (vB v - t) s w)) * V (ix (t + 1) (vFol v w s) s) + sNm v o t s w (sAm v o (vB v - t) s w) * V (ix (t + 1) (vFol v w (sLs s (sAm v o (vB v - t) s w))) (sLs s (sAm v o (vB v - t) s w))))
def spSt (v : Vw) : Nat := ix 0 (vFirst v (bAll (vn v))) (bAll (vn v))
def spInv (v : Vw) (o : Lw) (i : Nat) (F E : Nat → Nat) (T : Nat) (L : zLM) : Prop :=
  (∀ j, j < 640 → L 18 j = lN (F j)) ∧ (∀ s, s < 16 → L 15 s = lN (E s)) ∧ L 14 1 = lN T ∧
  (∀ t w s, w < 4 → s < 16 → i ≤ ix t w s → ix t w s < 640 → F (ix t w s) ≠ 0 → t ≤ vB v ∧ tOk v s w) ∧
  (∀ g V, Hm v o (fun _ s => g s) V → sS E g 16 0 + sS F V (640 - i) i = V (spSt v)) ∧ (∀ V, Hm v o (fun t _ => t) V → T + sS F V (640 - i) i = V (spSt v))
/-- what is known at the end -/
def spEnd (v : Vw) (o : Lw) (L : zLM) : Prop := ∃ (E : Nat → Nat) (T : Nat), (∀ s, s < 16 → L 15 s = lN (E s)) ∧ L 14 1 = lN T ∧ (∀ g V, Hm v o (fun _ s => g s) V → sS E g 16 0 = V (spSt v)) ∧ (∀ V, Hm v o (fun t _ => t) V → T = V (spSt v))
theorem ix_div {t w s : Nat} (hw : w < 4) (hs : s < 16) : ix t w s / 64 = t := by unfold ix; omega
theorem sNm_le {v : Vw} {o : Lw} (h12 : ∀ t m a b, a < 4 → sNum v o t m a b ≤ 12) {t s w a : Nat} (hw : w < 4) : sNm v o t s w a ≤ 12 := by
  unfold sNm
  split
  · exact Nat.zero_le _
  · exact h12 _ _ _ _ hw
section SX
variable {v : Vw} {o : Lw}
/-- behind a throw -/
theorem tOk_miss (hv : vOk v) {s w : Nat} (ht : tOk v s w) (h2 : 2 ≤ bPop s) : tOk v s (vFol v w s) := by
  have hn := hv.1
  have hi := ht.2.2 h2
  have hw := vsub' hv ht.1 hi
  exact ⟨ht.1, Nat.lt_of_lt_of_le (vFol_lt hv hw s) hn, fun _ => vFol_in hv hw hw hi⟩
theorem tOk_hit (hv : vOk v) {s w f : Nat} (ht : tOk v s w) (h2 : 2 ≤ bPop s) : tOk v (sLs s (sAm v o f s w)) (vFol v w (sLs s (sAm v o f s w))) := by
  have hn := hv.1
  have hi := ht.2.2 h2
  have hw := vsub' hv ht.1 hi
  have hok := sAm_ok (o := o) hv hw ht.1 f
  exact ⟨sLs_le hv ht.1 hok, Nat.lt_of_lt_of_le (vFol_lt hv hw _) hn, fun _ => vFol_in hv hw hw (sLs_in hv ht.1 hok hi)⟩
theorem Hm_one (hv : vOk v) (h12 : ∀ t m a b, a < 4 → sNum v o t m a b ≤ 12) : Hm v o (fun _ _ => 1) (fun j => 12 ^ (vB v - j / 64)) := by
  intro t s w ht hk
  have hn := hv.1
  have h16 := vAll16 hv
  refine ⟨fun ho => ?_, fun ho => ?_⟩
  · show 12 ^ (vB v - ix t w s / 64) = 1 * 12 ^ (vB v - t)
    rw [ix_div hk.2.1 (by have := hk.1; omega), Nat.one_mul]
  · have h1 : t < vB v := Nat.not_le.mp fun z => ho (Or.inl z)
    have h2 : 2 ≤ bPop s := Nat.not_lt.mp fun z => ho (Or.inr z)
    have k1 := tOk_miss hv hk h2
    have k2 := tOk_hit (o := o) (f := vB v - t) hv hk h2
    have hq := sNm_le (v := v) (o := o) h12 (t := t) (s := s) (a := sAm v o (vB v - t) s w) hk.2.1
    show 12 ^ (vB v - ix t w s / 64) = (12 - _) * 12 ^ (vB v - ix (t + 1) (vFol v w s) s / 64) + _ * 12 ^ (vB v - ix (t + 1) (vFol v w (sLs s (sAm v o (vB v - t) s w))) (sLs s (sAm v o (vB v - t) s w)) / 64)
    rw [ix_div hk.2.1 (by have := hk.1; omega), ix_div k1.2.1 (by have := hk.1; omega), ix_div k2.2.1 (by have := k2.1; omega), ← Nat.add_mul, Nat.sub_add_cancel hq, show vB v - t = (vB v - (t + 1)) + 1 by omega, Nat.pow_succ, Nat.mul_comm]
theorem spStart_lt (hv : vOk v) : spSt v < 64 ∧ tOk v (bAll (vn v)) (vFirst v (bAll (vn v))) := by
  have h := tOk_start hv
  have h16 := vAll16 hv
  refine ⟨?_, h⟩
  have := h.2.1
  unfold spSt ix
  omega
theorem spInv_bd (hv : vOk v) (h12 : ∀ t m a b, a < 4 → sNum v o t m a b ≤ 12) {t w s : Nat} {F E : Nat → Nat} {T : Nat} {L : zLM} (h : spInv v o (ix t w s) F E T L) (hw : w < 4) (hs : s < 16) (hi : ix t w s < 640) : F (ix t w s) ≤ 12 ^ 9 := by
  have hb := hv.2.1
  have h1 := h.2.2.2.2.1 (fun _ => 1) _ (Hm_one hv h12)
  have h16 := vAll16 hv
  have h2 := (spStart_lt hv)
  have key : sS F (fun j => 12 ^ (vB v - j / 64)) (640 - ix t w s) (ix t w s) = F (ix t w s) * 12 ^ (vB v - ix t w s / 64) + sS F (fun j => 12 ^ (vB v - j / 64)) (640 - (ix t w s + 1)) (ix t w s + 1) := by
    rw [show 640 - ix t w s = (640 - (ix t w s + 1)) + 1 by omega]
    rfl
  have h1 : sS E (fun _ => 1) 16 0 + sS F (fun j => 12 ^ (vB v - j / 64)) (640 - ix t w s) (ix t w s) = 12 ^ (vB v - spSt v / 64) := h1
  rw [key] at h1
  have e1 : ix t w s / 64 = t := ix_div hw hs
  have e2 : spSt v / 64 = 0 := by omega
  rw [e1, e2] at h1
  have p1 : 1 ≤ 12 ^ (vB v - t) := Nat.pow_pos (by omega)
  have p2 : 12 ^ (vB v - 0) ≤ 12 ^ 9 := Nat.pow_le_pow_right (by omega) (by omega)
  have p3 : F (ix t w s) * 1 ≤ F (ix t w s) * 12 ^ (vB v - t) := Nat.mul_le_mul_left _ p1
  omega
theorem spInv_skip {t w s : Nat} {F E : Nat → Nat} {T : Nat} {L : zLM} (h : spInv v o (ix t w s) F E T L) (hi : ix t w s < 640) (h0 : F (ix t w s) = 0) : spInv v o (ix t w s + 1) F E T L := by
  obtain ⟨a, b, c, d, e, f⟩ := h
  have key : ∀ V, sS F V (640 - ix t w s) (ix t w s) = sS F V (640 - (ix t w s + 1)) (ix t w s + 1) := fun V => by
    rw [show 640 - ix t w s = (640 - (ix t w s + 1)) + 1 by omega, sS_head, h0, Nat.zero_mul, Nat.zero_add]
  refine ⟨a, b, c, fun t' w' s' h1 h2 h3 h4 h5 => d t' w' s' h1 h2 (by omega) h4 h5, fun g V hV => ?_, fun V hV => ?_⟩
  · rw [← key]
    exact e g V hV
  · rw [← key]
    exact f V hV
theorem spInv_over {t w s : Nat} {F E : Nat → Nat} {T : Nat} {L L' : zLM} (h : spInv v o (ix t w s) F E T L) (hs : s < 16) (ht : t ≤ vB v) (hk : tOk v s w) (hi : ix t w s < 640) (ho : sOver v s t)
    (g1 : ∀ j, L' 18 j = L 18 j) (g2 : ∀ s', s' < 16 → L' 15 s' = if s' = s then lN (E s + F (ix t w s) * 12 ^ (vB v - t)) else L 15 s') (g3 : L' 14 1 = lN (T + t * (F (ix t w s) * 12 ^ (vB v - t)))) : spInv v o (ix t w s + 1) F (wU E s (E s + F (ix t w s) * 12 ^ (vB v - t))) (T + t * (F (ix t w s) * 12 ^ (vB v - t))) L' := by
  obtain ⟨a, b, c, d, e, f⟩ := h
  have key : ∀ V, sS F V (640 - ix t w s) (ix t w s) = F (ix t w s) * V (ix t w s) + sS F V (640 - (ix t w s + 1)) (ix t w s + 1) := fun V => by
    rw [show 640 - ix t w s = (640 - (ix t w s + 1)) + 1 by omega, sS_head]
  refine ⟨fun j hj => (g1 j).trans (a j hj), fun s' hs' => ?_, g3, fun t' w' s' h1 h2 h3 h4 h5 => d t' w' s' h1 h2 (by omega) h4 h5, fun g V hV => ?_, fun V hV => ?_⟩
  · rw [g2 s' hs']
    by_cases e : s' = s
    · subst e
      rw [if_pos rfl, wU_eq]
    · rw [if_neg e, wU_ne e]
      exact b s' hs'
  · have h1 := e g V hV
    have h2 : V (ix t w s) = g s * 12 ^ (vB v - t) := (hV t s w ht hk).1 ho
    rw [key, h2] at h1
    rw [sS_up 16 0 (Nat.zero_le _) (by omega), Nat.mul_assoc, Nat.mul_comm (12 ^ (vB v - t)) (g s)]
    omega
  · have h1 := f V hV
    have h2 : V (ix t w s) = t * 12 ^ (vB v - t) := (hV t s w ht hk).1 ho
    rw [key, h2] at h1
    have e2 : t * (F (ix t w s) * 12 ^ (vB v - t)) = F (ix t w s) * (t * 12 ^ (vB v - t)) := by
      rw [← Nat.mul_assoc, Nat.mul_comm t, Nat.mul_assoc]
    rw [e2]
    omega
theorem spInv_go (hv : vOk v) {t w s j1 j2 k : Nat} {F E : Nat → Nat} {T : Nat} {L L' : zLM} (h : spInv v o (ix t w s) F E T L) (hs : s < 16) (hk : tOk v s w) (ho : ¬ sOver v s t)
    (e1 : j1 = ix (t + 1) (vFol v w s) s) (e2 : j2 = ix (t + 1) (vFol v w (sLs s (sAm v o (vB v - t) s w))) (sLs s (sAm v o (vB v - t) s w))) (ek : k = sNm v o t s w (sAm v o (vB v - t) s w))
    (g1 : ∀ j, j < 640 → L' 18 j = lN (wU (wU F j1 (F j1 + (12 - k) * F (ix t w s))) j2 (wU F j1 (F j1 + (12 - k) * F (ix t w s)) j2 + k * F (ix t w s)) j)) (g2 : ∀ s', L' 15 s' = L 15 s') (g3 : L' 14 1 = L 14 1) :
    spInv v o (ix t w s + 1) (wU (wU F j1 (F j1 + (12 - k) * F (ix t w s))) j2 (wU F j1 (F j1 + (12 - k) * F (ix t w s)) j2 + k * F (ix t w s))) E T L' := by
  have hb := hv.2.1
  have h16 := vAll16 hv
  have h1 : t < vB v := Nat.not_le.mp fun z => ho (Or.inl z)
  have h2 : 2 ≤ bPop s := Nat.not_lt.mp fun z => ho (Or.inr z)
  have k1 := tOk_miss hv hk h2
  have k2 := tOk_hit (o := o) (f := vB v - t) hv hk h2
  have hw := hk.2.1
  obtain ⟨a, b, c, d, e, f⟩ := h
  have q1 : ix t w s + 1 ≤ j1 ∧ j1 < 640 := by
    have := k1.2.1
    rw [e1]
    unfold ix
    omega
  have q2 : ix t w s + 1 ≤ j2 ∧ j2 < 640 := by
    have := k2.2.1
    have := k2.1
    rw [e2]
    unfold ix
    omega
  have key : ∀ V, sS F V (640 - ix t w s) (ix t w s) = F (ix t w s) * V (ix t w s) + sS F V (640 - (ix t w s + 1)) (ix t w s + 1) := fun V => by
    rw [show 640 - ix t w s = (640 - (ix t w s + 1)) + 1 by omega, sS_head]
  have up : ∀ (g : Nat → Nat → Nat) V, Hm v o g V → sS (wU (wU F j1 (F j1 + (12 - k) * F (ix t w s))) j2 (wU F j1 (F j1 + (12 - k) * F (ix t w s)) j2 + k * F (ix t w s))) V (640 - (ix t w s + 1)) (ix t w s + 1) = sS F V (640 - ix t w s) (ix t w s) := fun g V hV => by
    rw [sS_up _ _ q2.1 (by omega), sS_up _ _ q1.1 (by omega), key, (hV t s w (by omega) hk).2 ho, ← e1, ← e2, ← ek, Nat.mul_add, ← Nat.mul_assoc, ← Nat.mul_assoc, Nat.mul_comm (12 - k), Nat.mul_comm k]
    omega
  refine ⟨g1, fun s' hs' => (g2 s').trans (b s' hs'), g3.trans c, fun t' w' s' r1 r2 r3 r4 r5 => ?_, fun g V hV => ?_, fun V hV => ?_⟩
  · by_cases z2 : ix t' w' s' = j2
    · have : t' = t + 1 ∧ w' = vFol v w (sLs s (sAm v o (vB v - t) s w)) ∧ s' = sLs s (sAm v o (vB v - t) s w) := by
        have := k2.2.1
        have := k2.1
        rw [e2] at z2
        unfold ix at z2
        omega
      rw [this.1, this.2.1, this.2.2]
      exact ⟨by omega, k2⟩
    · by_cases z1 : ix t' w' s' = j1
      · have : t' = t + 1 ∧ w' = vFol v w s ∧ s' = s := by
          have := k1.2.1
          rw [e1] at z1
          unfold ix at z1
          omega
        rw [this.1, this.2.1, this.2.2]
        exact ⟨by omega, k1⟩
      · rw [wU_ne z2, wU_ne z1] at r5
        exact d t' w' s' r1 r2 (by omega) r4 r5
  · rw [up _ V hV]
    exact e g V hV
  · rw [up _ V hV]
    exact f V hV
theorem spInv_end (hv : vOk v) {F E : Nat → Nat} {T : Nat} {L : zLM} (h : spInv v o ((vB v + 1) * 64) F E T L) : spEnd v o L := by
  have hb := hv.2.1
  obtain ⟨a, b, c, d, e, f⟩ := h
  have z : ∀ j, (vB v + 1) * 64 ≤ j → j < (vB v + 1) * 64 + (640 - (vB v + 1) * 64) → F j = 0 := fun j h1 h2 => by
    by_cases hz : F j = 0
    · exact hz
    · have ej : ix (j / 64) (j / 16 % 4) (j % 16) = j := by unfold ix; omega
      have := (d (j / 64) (j / 16 % 4) (j % 16) (by omega) (by omega) (by omega) (by omega) (by rw [ej]; exact hz)).1
      omega
  refine ⟨E, T, b, c, fun g V hV => ?_, fun V hV => ?_⟩
  · have := e g V hV
    rw [sS_zero _ _ z] at this
    exact this
  · have := f V hV
    rw [sS_zero _ _ z] at this
    exact this
end SX
section SY
variable {l : Launch} {G : zG} {d : Nat} {v : Vw} {o : Lw}
def spOff (L0 L : zLM) : Prop := ∀ a b, a ≠ 15 → a ≠ 18 → ¬ (a = 14 ∧ b = 1) → L a b = L0 a b
theorem lN_le0 {x : Nat} (h : x < 2 ^ 62) : lN x ≤ 0 ↔ x = 0 := by
  rw [Int64.le_iff_toInt_le, pk_lT (by omega), Int64.toInt_zero]
  omega
theorem cSpF {I : zIM} {L0 L : zLM} (hv : vOk v) (hG : cG v I) (hF : cF v I) (hN : cNm v o I) (h12 : ∀ t m a b, a < 4 → sNum v o t m a b ≤ 12) (hS : cSv v o I L0) (hL : spOff L0 L) {t w s : Nat} {F E : Nat → Nat} {T : Nat} (hi : spInv v o (ix t w s) F E T L) (ht : t ≤ vB v) (hk : tOk v s w) (hd : 3 ≤ d) :
    zCv l G d mX4_spreadFrom [.ref 14, .int (nI t), .int (nI w), .int (nI s)] I L (fun I' L' => I = I' ∧ spOff L0 L' ∧ ∃ F' E' T', spInv v o (ix t w s + 1) F' E' T' L') := by
  have hn := hv.1
  have hb := hv.2.1
  have h16 := vAll16 hv
  have hs16 : s < 16 := by have := hk.1; omega
  have hw4 := hk.2.1
  have hix : ix t w s < 640 := by unfold ix; omega
  have eF : L 18 (ix t w s) = lN (F (ix t w s)) := hi.1 _ hix
  have hSL : cSv v o I L := fun t s w q1 q2 q3 => ⟨(hS t s w q1 q2 q3).1, fun p hp => (hL 16 _ (by omega) (by omega) (by omega)).trans ((hS t s w q1 q2 q3).2 p hp)⟩
  refine t_X4_spreadFrom (bE 0 (cSit _ _ _) (by omega) ⟨_, rfl, hix, 1, _, by omega, cIsOver hv hG hs16 (by omega) (Nat.le_refl 1), ?_⟩)
  rintro yy _ _ ⟨hy, rfl, rfl⟩
  rcases hy with ⟨rfl, ho⟩ | ⟨rfl, ho⟩
  · refine ⟨fun c => absurd c i1_0, fun _ => ⟨vB v - t, by rw [hG.2.1, nI_sub ht], by omega, s, rfl, hs16, rfl, fun a b h1 h2 h3 => by rw [xL_ne (by omega), xL_ne (by omega)]; exact hL a b h1 h2 h3, _, _, _, spInv_over hi hs16 ht hk hix ho (fun j => by rw [xL_ne (by omega), xL_ne (by omega)]) (fun s' hs' => ?_) ?_⟩⟩
    · rw [xL_ne (by omega)]
      by_cases e : s' = s
      · subst e
        rw [if_pos rfl, xL_eq, show L 18 ((t * 4 + w) * 16 + s') = lN (F (ix t w s')) from eF, hi.2.1 s' hs', (pow12 _ (show vB v - t ≤ 9 by omega)).2.2, lN_mul, lN_add]
      · rw [if_neg e, xL_ne (by omega)]
    · rw [xL_eq, show L 18 ((t * 4 + w) * 16 + s) = lN (F (ix t w s)) from eF, hi.2.2.1, (pow12 _ (show vB v - t ≤ 9 by omega)).2.2, lN_mul, nI_l (by omega), lN_mul, lN_add]
  · have h1 : t < vB v := Nat.not_le.mp fun z => ho (Or.inl z)
    have h2 : 2 ≤ bPop s := Nat.not_lt.mp fun z => ho (Or.inr z)
    have hin := hk.2.2 h2
    have hw := vsub' hv hk.1 hin
    have hok := sAm_ok (o := o) hv hw hk.1 (vB v - t)
    have ha4 : sAm v o (vB v - t) s w = 9 ∨ sAm v o (vB v - t) s w < vn v := hok.elim Or.inl fun z => Or.inr z.1
    have hls := sLs_le hv hk.1 hok
    have hq := sNm_le (v := v) (o := o) h12 (t := t) (s := s) (a := sAm v o (vB v - t) s w) hw4
    have f1 := vFol_lt hv hw s
    have f2 := vFol_lt hv hw (sLs s (sAm v o (vB v - t) s w))
    refine ⟨fun _ => bE 1 (cAimAt hv hSL ht hk.1 hin (Nat.le_refl 1)) (by omega) (bE 1 (cNumAt hv hN (by omega) hw hk.1 h2 ha4 (Nat.le_refl 1)) (by omega) (bE 1 (cSitNext hv hF hw hs16 (Nat.le_refl 1)) (by omega) ⟨_, rfl, by omega, bE 0 (cWithout hs16 (by omega)) (by omega) (bE 1 (cSitNext hv hF hw (by omega) (Nat.le_refl 1)) (by omega) ⟨_, rfl, by omega, rfl, fun a b h1 h2 h3 => by rw [xL_ne (by omega), xL_ne (by omega)]; exact hL a b h1 h2 h3, _, _, _, spInv_go hv hi hs16 hk ho rfl rfl rfl (fun j hj => ?_) (fun s' => by rw [xL_ne (by omega), xL_ne (by omega)]) (by rw [xL_ne (by omega), xL_ne (by omega)])⟩)⟩)), fun c => absurd rfl c⟩
    rw [show L 18 ((t * 4 + w) * 16 + s) = lN (F (ix t w s)) from eF, show (12 : Int32) - nI (sNm v o t s w (sAm v o (vB v - t) s w)) = nI (12 - sNm v o t s w (sAm v o (vB v - t) s w)) from nI_sub (a := 12) hq, nI_l (by omega), nI_l (by omega), lN_mul, lN_mul]
    have b1 : L 18 (((t + 1) * 4 + vFol v w s) * 16 + s) = lN (F (ix (t + 1) (vFol v w s) s)) := hi.1 _ (by omega)
    rw [b1, lN_add]
    have inner : ∀ j, j < 640 → xL L 18 (((t + 1) * 4 + vFol v w s) * 16 + s) (lN (F (ix (t + 1) (vFol v w s) s) + (12 - sNm v o t s w (sAm v o (vB v - t) s w)) * F (ix t w s))) 18 j = lN (wU F (ix (t + 1) (vFol v w s) s) (F (ix (t + 1) (vFol v w s) s) + (12 - sNm v o t s w (sAm v o (vB v - t) s w)) * F (ix t w s)) j) := by
      intro j hj
      by_cases e : j = ((t + 1) * 4 + vFol v w s) * 16 + s
      · subst e
        rw [xL_eq]
        exact (congrArg lN (wU_eq (k := ix (t + 1) (vFol v w s) s))).symm
      · rw [xL_ne (by omega), wU_ne (k := ix (t + 1) (vFol v w s) s) e]
        exact hi.1 j hj
    rw [inner _ (by omega), lN_add]
    by_cases e : j = ((t + 1) * 4 + vFol v w (sLs s (sAm v o (vB v - t) s w))) * 16 + sLs s (sAm v o (vB v - t) s w)
    · subst e
      rw [xL_eq]
      exact (congrArg lN (wU_eq (k := ix (t + 1) (vFol v w (sLs s (sAm v o (vB v - t) s w))) (sLs s (sAm v o (vB v - t) s w))))).symm
    · rw [xL_ne (by omega), wU_ne (k := ix (t + 1) (vFol v w (sLs s (sAm v o (vB v - t) s w))) (sLs s (sAm v o (vB v - t) s w))) e]
      exact inner j hj
end SY
