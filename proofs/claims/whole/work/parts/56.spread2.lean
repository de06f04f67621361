/-! ===== the class: spread, leftOf ===== -/
section SZ
variable {l : Launch} {G : zG} {d : Nat} {v : Vw} {o : Lw}
theorem cSp_next {I : zIM} {L : zLM} {P : zIM → zLM → Prop} (hv : vOk v) (hG : cG v I) {t w s : Nat} (hw : w < 4) (hs : s < 16) (ht : t ≤ vB v) (next : ∀ t' w' s', w' < 4 → s' < 16 → ix t' w' s' = ix t w s + 1 → t' ≤ vB v → K_X4_spread_101 l G d P I L (nI t') (nI w') (nI s')) (hend : ix t w s + 1 = (vB v + 1) * 64 → P I L) : K_X4_spread_101 l G d P I L (nI t) (nI w) (nI s + (1 : Int32)) := by
  have hb := hv.2.1
  rw [nI_1]
  by_cases h1 : s + 1 < 16
  · exact next t w (s + 1) hw h1 (by unfold ix; omega) ht
  · refine t_X4_spread_101 ⟨fun _ => ?_, fun c => absurd (nI_le (a := 16) (by omega) (by omega)) c⟩
    rw [nI_1]
    by_cases h2 : w + 1 < 4
    · refine t_X4_spread_94 ⟨fun c => absurd c (nI_ge (b := 4) (by omega) (by omega)), fun _ => ?_⟩
      have := next t (w + 1) 0 h2 (by omega) (by unfold ix; omega) ht
      rw [nI_0] at this
      exact this
    · refine t_X4_spread_94 ⟨fun _ => ?_, fun c => absurd (nI_le (a := 4) (by omega) (by omega)) c⟩
      rw [nI_1]
      refine t_X4_spread_81 ⟨fun c => ?_, fun c => ?_⟩
      · rw [hG.2.1] at c
        have c := (nI_lt_iff (by omega) (by omega)).mp c
        exact hend (by unfold ix; omega)
      · rw [hG.2.1] at c
        have c : ¬ vB v < t + 1 := fun z => c (nI_lt z (by omega))
        refine t_X4_spread_94 ⟨fun c => absurd c (by decide), fun _ => ?_⟩
        have := next (t + 1) 0 0 (by omega) (by omega) (by unfold ix; omega) (by omega)
        rw [nI_0] at this
        exact this
theorem cSp {I : zIM} {L0 : zLM} {P : zIM → zLM → Prop} (hv : vOk v) (hG : cG v I) (hF : cF v I) (hN : cNm v o I) (h12 : ∀ t m a b, a < 4 → sNum v o t m a b ≤ 12) (hS : cSv v o I L0) (hP : ∀ L, spOff L0 L → spEnd v o L → P I L) (hd : 5 ≤ d) : ∀ m t w s F E T L, m + ix t w s = (vB v + 1) * 64 → w < 4 → s < 16 → t ≤ vB v → spInv v o (ix t w s) F E T L → spOff L0 L → K_X4_spread_101 l G d P I L (nI t) (nI w) (nI s)
  | 0, t, w, s, F, E, T, L, hm, hw, hs, ht, hi, hL => by
    unfold ix at hm
    omega
  | m + 1, t, w, s, F, E, T, L, hm, hw, hs, ht, hi, hL => by
    have hb := hv.2.1
    have hix : ix t w s < 640 := by unfold ix; omega
    have go : ∀ L' F' E' T', spInv v o (ix t w s + 1) F' E' T' L' → spOff L0 L' → K_X4_spread_101 l G d P I L' (nI t) (nI w) (nI s + (1 : Int32)) := by
      intro L' F' E' T' q1 q2
      refine cSp_next hv hG hw hs ht (fun t' w' s' r1 r2 r3 r4 => ?_) (fun e => ?_)
      · rw [← r3] at q1
        exact cSp hv hG hF hN h12 hS hP hd m t' w' s' F' E' T' L' (by omega) r1 r2 r4 q1 q2
      · rw [e] at q1
        exact hP L' q2 (spInv_end hv q1)
    refine t_X4_spread_101 ⟨fun c => absurd c (nI_ge (b := 16) (by omega) (by omega)), fun _ => bE 0 (cSit _ _ _) (by omega) ⟨_, rfl, hix, ?_⟩⟩
    rw [show L 18 ((t * 4 + w) * 16 + s) = lN (F (ix t w s)) from hi.1 _ hix]
    have hbd := spInv_bd hv h12 hi hw hs hix
    have p9 : (12 : Nat) ^ 9 < 2 ^ 62 := by decide
    rw [lN_le0 (by omega)]
    refine ⟨fun c => go L F E T (spInv_skip hi hix c) hL, fun c => ?_⟩
    have hk := (hi.2.2.2.1 t w s hw hs (Nat.le_refl _) hix c).2
    refine ⟨3, _, by omega, cSpF hv hG hF hN h12 hS hL hi ht hk (Nat.le_refl 3), ?_⟩
    rintro _ L' ⟨rfl, q2, F', E', T', q1⟩
    exact go L' F' E' T' q1 q2
def qSp (v : Vw) (o : Lw) (I : zIM) (L : zLM) : zIM → zLM → Prop := fun I' L' => I = I' ∧ spOff L L' ∧ spEnd v o L'
theorem spInv_0 (hv : vOk v) {L : zLM} (h1 : ∀ j, j < 640 → L 18 j = if j = spSt v then 1 else 0) (h2 : ∀ s, s < 16 → L 15 s = 0) (h3 : L 14 1 = 0) : spInv v o (ix 0 0 0) (wU (fun _ => 0) (spSt v) 1) (fun _ => 0) 0 L := by
  have hs := spStart_lt hv
  have z : ∀ V, sS (wU (fun _ => 0) (spSt v) 1) V (640 - ix 0 0 0) (ix 0 0 0) = V (spSt v) := fun V => by
    have e := sS_up (F := fun _ => 0) (V := V) (j := spSt v) (c := 1) 640 0 (Nat.zero_le _) (by omega)
    rw [Nat.zero_add, sS_zero 640 0 (fun _ _ _ => rfl), Nat.one_mul, Nat.zero_add] at e
    exact e
  refine ⟨fun j hj => ?_, fun s hs => h2 s hs, h3, fun t w s q1 q2 q3 q4 q5 => ?_, fun g V hV => ?_, fun V hV => ?_⟩
  · rw [h1 j hj]
    by_cases e : j = spSt v
    · rw [if_pos e, e, wU_eq]
      rfl
    · rw [if_neg e, wU_ne e]
      rfl
  · by_cases e : ix t w s = spSt v
    · have h16 := vAll16 hv
      have hk := hs.2
      have : t = 0 ∧ w = vFirst v (bAll (vn v)) ∧ s = bAll (vn v) := by
        have := hk.2.1
        unfold spSt ix at e
        omega
      rw [this.1, this.2.1, this.2.2]
      exact ⟨Nat.zero_le _, hk⟩
    · rw [wU_ne e] at q5
      exact absurd rfl q5
  · rw [z, sS_zero 16 0 (fun _ _ _ => rfl), Nat.zero_add]
  · rw [z, Nat.zero_add]
theorem cSpread {I : zIM} {L : zLM} (hv : vOk v) (hG : cG v I) (hF : cF v I) (hN : cNm v o I) (h12 : ∀ t m a b, a < 4 → sNum v o t m a b ≤ 12) (hS : cSv v o I L) (hd : 5 ≤ d) : zCv l G d mX4_spread [.ref 14] I L (qSp v o I L) := by
  have hn := hv.1
  have hb := hv.2.1
  have h16 := vAll16 hv
  have hst := spStart_lt hv
  -- behind the zeroes
  have run : ∀ L', spOff L L' → (∀ j, j < 640 → L' 18 j = 0) → (∀ s, s < 16 → L' 15 s = 0) → K_X4_spread_81 l G d (qSp v o I L) I (xL (xL L' 14 1 (0 : Int64)) 18 (spSt v) (1 : Int64)) (0 : Int32) := by
    intro L' g1 g2 g3
    refine t_X4_spread_81 ⟨fun c => absurd c ?_, fun _ => t_X4_spread_94 ⟨fun c => absurd c (by decide), fun _ => ?_⟩⟩
    · rw [hG.2.1, ← nI_0]
      exact nI_nlt (Nat.zero_le _) (by omega)
    · have := cSp (l := l) (G := G) (d := d) (P := qSp v o I L) hv hG hF hN h12 hS (fun L2 r1 r2 => ⟨rfl, r1, r2⟩) hd ((vB v + 1) * 64) 0 0 0 _ _ _ (xL (xL L' 14 1 (0 : Int64)) 18 (spSt v) (1 : Int64)) (by unfold ix; omega) (by omega) (by omega) (Nat.zero_le _) (spInv_0 hv (fun j hj => ?_) (fun s hs => ?_) ?_) (fun a b q1 q2 q3 => ?_)
      · rw [nI_0] at this
        exact this
      · by_cases e : j = spSt v
        · subst e
          rw [xL_eq, if_pos rfl]
        · rw [xL_ne (by omega), if_neg e, xL_ne (by omega)]
          exact g2 j hj
      · rw [xL_ne (by omega), xL_ne (by omega)]
        exact g3 s hs
      · rw [xL_ne (by omega), xL_eq]
      · rw [xL_ne (by omega), xL_ne (by omega)]
        exact g1 a b q1 q2 q3
  have z24 : ∀ f s L', f + s = 16 → spOff L L' → (∀ j, j < 640 → L' 18 j = 0) → (∀ s', s' < s → L' 15 s' = 0) → K_X4_spread_24 l G d (qSp v o I L) I L' (nI s) := by
    intro f
    induction f with
    | zero =>
      intro s L' hf g1 g2 g3
      refine t_X4_spread_24 ⟨fun _ => bE 0 (cAll hv hG) (by omega) (bE 0 (cFirst hv hG h16) (by omega) (bE 0 (cAll hv hG) (by omega) (bE 0 (cSit 0 _ _) (by omega) ⟨_, rfl, ?_, run L' g1 g2 (fun s' hs' => g3 s' (by omega))⟩))), fun c => absurd (nI_le (a := 16) (by omega) (by omega)) c⟩
      have := hst.1
      unfold spSt ix at this
      omega
    | succ f ih =>
      intro s L' hf g1 g2 g3
      refine t_X4_spread_24 ⟨fun c => absurd c (nI_ge (b := 16) (by omega) (by omega)), fun _ => ⟨s, rfl, by omega, ?_⟩⟩
      rw [nI_1]
      refine ih (s + 1) _ (by omega) (fun a b q1 q2 q3 => (xL_ne (by omega)).trans (g1 a b q1 q2 q3)) (fun j hj => (xL_ne (by omega)).trans (g2 j hj)) (fun s' hs' => ?_)
      by_cases e : s' = s
      · subst e
        exact xL_eq
      · exact (xL_ne (by omega)).trans (g3 s' (by omega))
  have z2 : ∀ f j L', f + j = 640 → spOff L L' → (∀ j', j' < j → L' 18 j' = 0) → K_X4_spread_2 l G d (qSp v o I L) I L' (nI j) := by
    intro f
    induction f with
    | zero =>
      intro j L' hf g1 g2
      refine t_X4_spread_2 ⟨fun _ => ?_, fun c => absurd (nI_le (a := 640) (by omega) (by omega)) c⟩
      have := z24 16 0 L' rfl g1 (fun j hj => g2 j (by omega)) (fun s' hs' => absurd hs' (Nat.not_lt_zero _))
      rw [nI_0] at this
      exact this
    | succ f ih =>
      intro j L' hf g1 g2
      refine t_X4_spread_2 ⟨fun c => absurd c (nI_ge (b := 640) (by omega) (by omega)), fun _ => ⟨j, rfl, by omega, ?_⟩⟩
      rw [nI_1]
      refine ih (j + 1) _ (by omega) (fun a b q1 q2 q3 => (xL_ne (by omega)).trans (g1 a b q1 q2 q3)) (fun j' hj' => ?_)
      by_cases e : j' = j
      · subst e
        exact xL_eq
      · exact (xL_ne (by omega)).trans (g2 j' (by omega))
  refine t_X4_spread ?_
  have := z2 640 0 L rfl (fun _ _ _ _ _ => rfl) (fun j' hj' => absurd hj' (Nat.not_lt_zero _))
  rw [nI_0] at this
  exact this
/-- LEFT: the sum over the sets that hold p -/
def gIn (p s : Nat) : Nat := if bIn s p = true then 1 else 0
theorem cLeft_5 {I : zIM} {L : zLM} {E : Nat → Nat} {p : Nat} (hp : p < 4) (hE : ∀ s, s < 16 → L 15 s = lN (E s)) : ∀ f s a, f + s = 16 → K_X4_leftOf_5 l G d (zE (lN (a + sS E (gIn p) f s)) I L) I L (nI p) (lN a) (nI s)
  | 0, s, a, h => t_X4_leftOf_5 ⟨fun _ => zE.of rfl, fun c => absurd (nI_le (a := 16) (by omega) (by omega)) c⟩
  | f + 1, s, a, h => by
    refine t_X4_leftOf_5 ⟨fun c => absurd c (nI_ge (b := 16) (by omega) (by omega)), fun _ => ⟨fun c => ?_, fun c => ⟨s, rfl, by omega, ?_⟩⟩⟩
    · have e := (b_in s (by omega) p hp).mp c
      rw [nI_1, sS_head, gIn, if_neg (by rw [e]; decide), Nat.mul_zero, Nat.zero_add]
      exact cLeft_5 hp hE f (s + 1) a (by omega)
    · have e : bIn s p = true := by
        cases hb : bIn s p with
        | true => rfl
        | false => exact absurd ((b_in s (by omega) p hp).mpr hb) c
      rw [nI_1, sS_head, gIn, if_pos e, Nat.mul_one, ← Nat.add_assoc, hE s (by omega), lN_add]
      exact cLeft_5 hp hE f (s + 1) _ (by omega)
theorem cLeft {I : zIM} {L : zLM} {E : Nat → Nat} {p : Nat} (hp : p < 4) (hE : ∀ s, s < 16 → L 15 s = lN (E s)) : zCl l G d mX4_leftOf [.ref 14, .int (nI p)] I L (zE (lN (sS E (gIn p) 16 0)) I L) := by
  refine t_X4_leftOf ?_
  have := cLeft_5 (l := l) (G := G) (d := d) (I := I) hp hE 16 0 0 rfl
  rw [Nat.zero_add] at this
  exact this
/-- the sum that picks one set -/
theorem sS_one {E : Nat → Nat} {q : Nat} : ∀ n i, (i ≤ q ∧ q < i + n → sS E (fun s => if s = q then 1 else 0) n i = E q) ∧ (¬ (i ≤ q ∧ q < i + n) → sS E (fun s => if s = q then 1 else 0) n i = 0)
  | 0, i => ⟨fun h => absurd h (by omega), fun _ => rfl⟩
  | n + 1, i => by
    have ih := sS_one (E := E) (q := q) n (i + 1)
    constructor
    · intro h
      rw [sS_head]
      by_cases e : i = q
      · subst e
        rw [if_pos rfl, ih.2 (by omega)]
        omega
      · rw [if_neg e, ih.1 (by omega)]
        omega
    · intro h
      rw [sS_head, if_neg (by omega), ih.2 (by omega), Nat.mul_zero]
end SZ
