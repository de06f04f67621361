/-! ===== the reference works THE LAW out: sums, signs, both, either ===== -/
def cC (l : Launch) (G : zG) (L : zLM) (X : Nat → Nat) (N : Nat) (e : Nat → Int32) (r : Nat) (m : zM) (D : Nat) (q : Nat → zPr) : Prop := ∀ p (I : zIM), gR X N e p r I → zCi l G D m [.ref 44] I L (qN (q p) e I L)
section RG
variable {l : Launch} {G : zG} {d : Nat} {I : zIM} {L : zLM} {X : Nat → Nat} {N : Nat} {e : Nat → Int32}
theorem pLoop_eq {lv : Nat} {sub : Nat → zPr} {f : Nat} {a : zPr} : pLoop X N lv sub f a = if 0 < f ∧ a.1 = true ∧ sgL lv (tB X N a.2.1) = true then (if lv = 2 then cmb (tB X N a.2.1) a (sub (a.2.1 + 1)) else pLoop X N lv sub (f - 1) (cmb (tB X N a.2.1) a (sub (a.2.1 + 1)))) else a := by
  cases f with
  | zero => rw [if_neg (fun z => absurd z.1 (by omega))]; rfl
  | succ f =>
    rw [pLoop]
    by_cases z : a.1 = true ∧ sgL lv (tB X N a.2.1) = true
    · rw [if_pos z, if_pos (show 0 < f + 1 ∧ a.1 = true ∧ sgL lv (tB X N a.2.1) = true from ⟨by omega, z⟩)]; rfl
    · rw [if_neg z, if_neg (fun y => z y.2)]
theorem qN_cmb {a b : zPr} {c : Nat} {I0 I1 I2 : zIM} {x1 y1 s0 : Int32} (hq : qN a e I0 L x1 I1 L) (ha : a.1 = true) (hs : s0 = jn (nI c) x1 y1) (g : qN b e (xI I1 44 17 (nI (a.2.1 + 1))) L y1 I2 L) : qN (cmb c a b) e I0 L s0 I2 L := by
  obtain ⟨-, g1, g2, g3, g4⟩ := hq
  obtain ⟨-, w1, w2, w3, w4⟩ := g
  obtain ⟨k1, k2, k3⟩ := g3 ha
  refine ⟨rfl, g1.tr (nR17.tr w1), w2, fun z => ?_, w4⟩
  obtain ⟨z1, z2, z3⟩ := w3 z
  refine ⟨?_, z2, z3.trans ((xI_ne (by omega)).trans k3)⟩
  show jn (nI c) (a.2.2.2 e) (b.2.2.2 e) = s0
  rw [hs, k1, z1]
theorem qN_gR {a : zPr} {r : Nat} {I0 I1 : zIM} {x1 : Int32} (hw0 : wR X N e I0) (hr : I0 44 20 = nI (6 - r)) (hq : qN a e I0 L x1 I1 L) (ha : a.1 = true) (hlt : a.2.1 < N) : gR X N e (a.2.1 + 1) r (xI I1 44 17 (nI (a.2.1 + 1))) := by
  obtain ⟨-, g1, g2, g3, g4⟩ := hq
  obtain ⟨k1, k2, k3⟩ := g3 ha
  exact ⟨(hw0.off g1).off nR17, xI_eq, (xI_ne (by omega)).trans k2, (xI_ne (by omega)).trans (k3.trans hr), hlt⟩
/-- + - -/
theorem rL3 {p0 r : Nat} {I0 : zIM} {sub : Nat → zPr} (D : Nat) (hD : D + 1 ≤ d) (hr : I0 44 20 = nI (6 - r)) (hsubW : ∀ p, p ≤ N → pW N p (sub p)) (hsub : cC l G L X N e r mX9_product D sub) (hw0 : wR X N e I0) : ∀ f a I1 x1, 120 ≤ f + a.2.1 → pW N p0 a → qN a e I0 L x1 I1 L → K_X9_sums_5 l G d (qN (pLoop X N 3 sub f a) e I0 L) I1 L x1
  | f, a, I1, x1, hf, hW, hq => by
    obtain ⟨-, g1, g2, g3, g4⟩ := id hq
    have hN := hw0.2.1
    have haN := hW.2.1
    have hw1 := hw0.off g1
    have ht := tB_le (N := N) (p := a.2.1) hw0.2.2.1
    have q : ∀ c, c < 1000 → (nI (tB X N a.2.1) = nI c ↔ tB X N a.2.1 = c) := fun c hc => nI_eq_iff (by omega) (by omega)
    have lp := pLoop_eq (X := X) (N := N) (lv := 3) (sub := sub) (f := f) (a := a)
    rw [if_neg (show ¬ (3 = 2) by omega)] at lp
    have stop : ¬ (a.1 = true ∧ sgL 3 (tB X N a.2.1) = true) → qN (pLoop X N 3 sub f a) e I0 L x1 I1 L := fun z => by
      rw [lp, if_neg (fun y => z y.2)]
      exact hq
    by_cases ha : a.1 = true
    rotate_left
    · refine t_X9_sums_5 ⟨fun _ => stop fun z => ha z.1, fun c => absurd ?_ c⟩
      rw [g4 ha, ← nI_0]
      exact nI_le (Nat.zero_le _) (by omega)
    obtain ⟨k1, k2, k3⟩ := g3 ha
    have go : ∀ s, sgL 3 s = true → tB X N a.2.1 = s → ∀ y1 I2 L2, qN (sub (a.2.1 + 1)) e (xI I1 44 17 (nI (a.2.1 + 1))) L y1 I2 L2 → ∀ s0, s0 = jn (nI s) x1 y1 → K_X9_sums_5 l G d (qN (pLoop X N 3 sub f a) e I0 L) I2 L2 s0 := fun s hs hss y1 I2 L2 g s0 hs0 => by
      have eL := g.1
      subst eL
      rw [← hss] at hs hs0
      have hlt : a.2.1 < N := tB_lt (X := X) (sgL_nz hs)
      have hp2 := (hsubW (a.2.1 + 1) hlt).1
      rw [lp, if_pos ⟨by omega, ha, hs⟩]
      exact rL3 D hD hr hsubW hsub hw0 (f - 1) (cmb (tB X N a.2.1) a (sub (a.2.1 + 1))) I2 s0 (show 120 ≤ f - 1 + (sub (a.2.1 + 1)).2.1 by omega) (cmb_ok hW ha hs (hsubW (a.2.1 + 1) hlt)) (qN_cmb hq ha hs0 g)
    have pre : ∀ s, sgL 3 s = true → tB X N a.2.1 = s → zCi l G D mX9_product [.ref 44] (xI I1 44 17 (I1 44 17 + 1)) L (qN (sub (a.2.1 + 1)) e (xI I1 44 17 (nI (a.2.1 + 1))) L) := fun s hs hss => by
      rw [g2, nI_1]
      rw [← hss] at hs
      exact hsub (a.2.1 + 1) _ (qN_gR hw0 hr hq ha (tB_lt (X := X) (sgL_nz hs)))
    refine t_X9_sums_5 ⟨fun c => absurd c (by rw [k2]; decide), fun _ => bE 0 (rBy hw1 g2 haN) (by omega) ⟨fun c => bE 0 (rBy hw1 g2 haN) (by omega) ⟨fun z => absurd c z, fun _ => ?_⟩, fun c => bE 0 (rBy hw1 g2 haN) (by omega) ⟨fun c2 => stop fun z => ?_, fun c2 => bE 0 (rBy hw1 g2 haN) (by omega) ⟨fun _ => ?_, fun z => absurd z c⟩⟩⟩⟩
    · have hc := (q 43 (by omega)).mp c
      exact ⟨D, _, hD, pre 43 (by decide) hc, fun y1 I2 L2 g => go 43 (by decide) hc y1 I2 L2 g _ rfl⟩
    · have : tB X N a.2.1 = 43 ∨ tB X N a.2.1 = 45 := by
        have := z.2
        simpa [sgL] using this
      rcases this with y | y
      · exact c ((q 43 (by omega)).mpr y)
      · exact c2 ((q 45 (by omega)).mpr y)
    · have hc := (q 45 (by omega)).mp c2
      exact ⟨D, _, hD, pre 45 (by decide) hc, fun y1 I2 L2 g => go 45 (by decide) hc y1 I2 L2 g _ rfl⟩
termination_by f => f
decreasing_by omega
/-- < = > -/
theorem rL2 {p0 r : Nat} {I0 : zIM} {sub : Nat → zPr} (D : Nat) (hD : D + 1 ≤ d) (hr : I0 44 20 = nI (6 - r)) (hsubW : ∀ p, p ≤ N → pW N p (sub p)) (hsub : cC l G L X N e r mX9_sums D sub) (hw0 : wR X N e I0) {a : zPr} {I1 : zIM} {x1 : Int32} (hW : pW N p0 a) (hq : qN a e I0 L x1 I1 L) : ((0 ≤ (I1 44 19) → (qN (pLoop X N 2 sub 120 a) e I0 L x1 I1 L)) ∧ (¬ 0 ≤ (I1 44 19) → (((nI (tB X N a.2.1) = (60 : Int32) → (K_X9_compared_37 l G d (qN (pLoop X N 2 sub 120 a) e I0 L) I1 L x1 (nI (tB X N a.2.1)))) ∧ (¬ nI (tB X N a.2.1) = (60 : Int32) → (((nI (tB X N a.2.1) = (61 : Int32) → (K_X9_compared_37 l G d (qN (pLoop X N 2 sub 120 a) e I0 L) I1 L x1 (nI (tB X N a.2.1)))) ∧ (¬ nI (tB X N a.2.1) = (61 : Int32) → (((nI (tB X N a.2.1) = (62 : Int32) → (K_X9_compared_37 l G d (qN (pLoop X N 2 sub 120 a) e I0 L) I1 L x1 (nI (tB X N a.2.1)))) ∧ (¬ nI (tB X N a.2.1) = (62 : Int32) → (qN (pLoop X N 2 sub 120 a) e I0 L x1 I1 L)))))))))))) := by
    obtain ⟨-, g1, g2, g3, g4⟩ := id hq
    have hN := hw0.2.1
    have haN := hW.2.1
    have ht := tB_le (N := N) (p := a.2.1) hw0.2.2.1
    have q : ∀ c, c < 1000 → (nI (tB X N a.2.1) = nI c ↔ tB X N a.2.1 = c) := fun c hc => nI_eq_iff (by omega) (by omega)
    have lp := pLoop_eq (X := X) (N := N) (lv := 2) (sub := sub) (f := 120) (a := a)
    rw [if_pos (show 2 = 2 from rfl)] at lp
    have stop : ¬ (a.1 = true ∧ sgL 2 (tB X N a.2.1) = true) → qN (pLoop X N 2 sub 120 a) e I0 L x1 I1 L := fun z => by
      rw [lp, if_neg (fun y => z y.2)]
      exact hq
    by_cases ha : a.1 = true
    rotate_left
    · refine ⟨fun _ => stop fun z => ha z.1, fun c => absurd ?_ c⟩
      rw [g4 ha, ← nI_0]
      exact nI_le (Nat.zero_le _) (by omega)
    obtain ⟨k1, k2, k3⟩ := g3 ha
    have go : ∀ s, (s = 60 ∨ s = 61 ∨ s = 62) → tB X N a.2.1 = s → K_X9_compared_37 l G d (qN (pLoop X N 2 sub 120 a) e I0 L) I1 L x1 (nI (tB X N a.2.1)) := fun s hs3 hss => by
      have hs : sgL 2 (tB X N a.2.1) = true := by rw [hss]; rcases hs3 with rfl | rfl | rfl <;> decide
      have hlt : a.2.1 < N := tB_lt (X := X) (sgL_nz hs)
      rw [lp, if_pos ⟨by omega, ha, hs⟩]
      refine t_X9_compared_37 ?_
      rw [g2, nI_1]
      refine ⟨D, _, hD, hsub (a.2.1 + 1) _ (qN_gR hw0 hr hq ha hlt), ?_⟩
      intro y1 I2 L2 g
      have eL := g.1
      subst eL
      have fin : ∀ s0, s0 = jn (nI (tB X N a.2.1)) x1 y1 → qN (cmb (tB X N a.2.1) a (sub (a.2.1 + 1))) e I0 L s0 I2 L := fun s0 hs0 => qN_cmb hq ha hs0 g
      rw [hss] at fin ⊢
      unfold jn at fin
      rcases hs3 with rfl | rfl | rfl
      · rw [if_neg (by decide), if_neg (by decide), if_neg (by decide), if_neg (by decide), if_neg (by decide), if_pos (show nI 60 = 60 from rfl)] at fin
        exact ⟨fun z => absurd rfl z, fun _ => ⟨fun c => t_X9_compared_89 (t_X9_compared_90 (fin _ (if_pos c).symm)), fun c => t_X9_compared_85 (t_X9_compared_90 (fin _ (if_neg c).symm))⟩⟩
      · rw [if_neg (by decide), if_neg (by decide), if_neg (by decide), if_neg (by decide), if_neg (by decide), if_neg (by decide), if_pos (show nI 61 = 61 from rfl)] at fin
        exact ⟨fun _ => ⟨fun z => absurd rfl z, fun _ => ⟨fun c => t_X9_compared_89 (t_X9_compared_90 (fin _ (if_neg c).symm)), fun c => t_X9_compared_85 (t_X9_compared_90 (fin _ (if_pos c).symm))⟩⟩, fun z => absurd z (by decide)⟩
      · rw [if_neg (by decide), if_neg (by decide), if_neg (by decide), if_neg (by decide), if_neg (by decide), if_neg (by decide), if_neg (by decide), if_pos (show nI 62 = 62 from rfl)] at fin
        exact ⟨fun _ => ⟨fun _ => ⟨fun c => t_X9_compared_89 (t_X9_compared_90 (fin _ (if_pos c).symm)), fun c => t_X9_compared_85 (t_X9_compared_90 (fin _ (if_neg c).symm))⟩, fun z => absurd z (by decide)⟩, fun z => absurd z (by decide)⟩
    refine ⟨fun c => absurd c (by rw [k2]; decide), fun _ => ⟨fun c => go 60 (by omega) ((q 60 (by omega)).mp c), fun c1 => ⟨fun c => go 61 (by omega) ((q 61 (by omega)).mp c), fun c2 => ⟨fun c => go 62 (by omega) ((q 62 (by omega)).mp c), fun c3 => stop fun z => ?_⟩⟩⟩⟩
    have : tB X N a.2.1 = 60 ∨ tB X N a.2.1 = 61 ∨ tB X N a.2.1 = 62 := by
      have := z.2
      simpa [sgL, or_assoc] using this
    rcases this with y | y | y
    · exact c1 ((q 60 (by omega)).mpr y)
    · exact c2 ((q 61 (by omega)).mpr y)
    · exact c3 ((q 62 (by omega)).mpr y)
/-- & -/
theorem rL1 {p0 r : Nat} {I0 : zIM} {sub : Nat → zPr} (D : Nat) (hD : D + 1 ≤ d) (hD2 : 1 ≤ D) (hr : I0 44 20 = nI (6 - r)) (hsubW : ∀ p, p ≤ N → pW N p (sub p)) (hsub : cC l G L X N e r mX9_compared D sub) (hw0 : wR X N e I0) : ∀ f a I1 x1, 120 ≤ f + a.2.1 → pW N p0 a → qN a e I0 L x1 I1 L → K_X9_both_5 l G d (qN (pLoop X N 1 sub f a) e I0 L) I1 L x1
  | f, a, I1, x1, hf, hW, hq => by
    obtain ⟨-, g1, g2, g3, g4⟩ := id hq
    have hN := hw0.2.1
    have haN := hW.2.1
    have hw1 := hw0.off g1
    have lp := pLoop_eq (X := X) (N := N) (lv := 1) (sub := sub) (f := f) (a := a)
    rw [if_neg (show ¬ (1 = 2) by omega)] at lp
    have stop : ¬ (a.1 = true ∧ sgL 1 (tB X N a.2.1) = true) → qN (pLoop X N 1 sub f a) e I0 L x1 I1 L := fun z => by
      rw [lp, if_neg (fun y => z y.2)]
      exact hq
    by_cases ha : a.1 = true
    rotate_left
    · exact t_X9_both_5 (bE 0 (rTkF (g4 ha) (by omega)) (by omega) ⟨fun _ => stop fun z => ha z.1, fun c => absurd rfl c⟩)
    obtain ⟨k1, k2, k3⟩ := g3 ha
    by_cases hs : tB X N a.2.1 = 38
    rotate_left
    · exact t_X9_both_5 (bE 1 (rTkN (c := 38) hw1 g2 k2 haN hs (by omega) (by omega)) (by omega) ⟨fun _ => stop fun z => hs (by simpa [sgL] using z.2), fun c => absurd rfl c⟩)
    have hsg : sgL 1 (tB X N a.2.1) = true := by rw [hs]; decide
    have hlt : a.2.1 < N := tB_lt (X := X) (by omega)
    have hp2 := (hsubW (a.2.1 + 1) hlt).1
    refine t_X9_both_5 (bX 1 (rTkY (c := 38) hw1 g2 k2 haN hs (by omega)) (by omega) ⟨fun c => absurd c i1_0, fun _ => ⟨D, _, hD, hsub (a.2.1 + 1) _ (qN_gR hw0 hr hq ha hlt), ?_⟩⟩)
    intro y1 I2 L2 g
    have eL := g.1
    subst eL
    have fin : ∀ s0, s0 = jn (nI 38) x1 y1 → K_X9_both_5 l G d (qN (pLoop X N 1 sub f a) e I0 L) I2 L s0 := fun s0 hs0 => by
      rw [lp, if_pos ⟨by omega, ha, hsg⟩]
      rw [← hs] at hs0
      exact rL1 D hD hD2 hr hsubW hsub hw0 (f - 1) (cmb (tB X N a.2.1) a (sub (a.2.1 + 1))) I2 s0 (show 120 ≤ f - 1 + (sub (a.2.1 + 1)).2.1 by omega) (cmb_ok hW ha hsg (hsubW (a.2.1 + 1) hlt)) (qN_cmb hq ha hs0 g)
    unfold jn at fin
    rw [if_pos (show nI 38 = 38 from rfl)] at fin
    exact ⟨fun c => fin _ (by rw [if_pos c]), fun c => ⟨fun c2 => fin _ (by rw [if_neg c, if_pos c2]), fun c2 => fin _ (by rw [if_neg c, if_neg c2])⟩⟩
termination_by f => f
decreasing_by omega
/-- | -/
theorem rL0 {p0 r : Nat} {I0 : zIM} {sub : Nat → zPr} (D : Nat) (hD : D + 1 ≤ d) (hD2 : 1 ≤ D) (hr : I0 44 20 = nI (6 - r)) (hsubW : ∀ p, p ≤ N → pW N p (sub p)) (hsub : cC l G L X N e r mX9_both D sub) (hw0 : wR X N e I0) : ∀ f a I1 x1, 120 ≤ f + a.2.1 → pW N p0 a → qN a e I0 L x1 I1 L → K_X9_either_5 l G d (qN (pLoop X N 0 sub f a) e I0 L) I1 L x1
  | f, a, I1, x1, hf, hW, hq => by
    obtain ⟨-, g1, g2, g3, g4⟩ := id hq
    have hN := hw0.2.1
    have haN := hW.2.1
    have hw1 := hw0.off g1
    have lp := pLoop_eq (X := X) (N := N) (lv := 0) (sub := sub) (f := f) (a := a)
    rw [if_neg (show ¬ (0 = 2) by omega)] at lp
    have stop : ¬ (a.1 = true ∧ sgL 0 (tB X N a.2.1) = true) → qN (pLoop X N 0 sub f a) e I0 L x1 I1 L := fun z => by
      rw [lp, if_neg (fun y => z y.2)]
      exact hq
    by_cases ha : a.1 = true
    rotate_left
    · exact t_X9_either_5 (bE 0 (rTkF (g4 ha) (by omega)) (by omega) ⟨fun _ => stop fun z => ha z.1, fun c => absurd rfl c⟩)
    obtain ⟨k1, k2, k3⟩ := g3 ha
    by_cases hs : tB X N a.2.1 = 124
    rotate_left
    · exact t_X9_either_5 (bE 1 (rTkN (c := 124) hw1 g2 k2 haN hs (by omega) (by omega)) (by omega) ⟨fun _ => stop fun z => hs (by simpa [sgL] using z.2), fun c => absurd rfl c⟩)
    have hsg : sgL 0 (tB X N a.2.1) = true := by rw [hs]; decide
    have hlt : a.2.1 < N := tB_lt (X := X) (by omega)
    have hp2 := (hsubW (a.2.1 + 1) hlt).1
    refine t_X9_either_5 (bX 1 (rTkY (c := 124) hw1 g2 k2 haN hs (by omega)) (by omega) ⟨fun c => absurd c i1_0, fun _ => ⟨D, _, hD, hsub (a.2.1 + 1) _ (qN_gR hw0 hr hq ha hlt), ?_⟩⟩)
    intro y1 I2 L2 g
    have eL := g.1
    subst eL
    have fin : ∀ s0, s0 = jn (nI 124) x1 y1 → K_X9_either_5 l G d (qN (pLoop X N 0 sub f a) e I0 L) I2 L s0 := fun s0 hs0 => by
      rw [lp, if_pos ⟨by omega, ha, hsg⟩]
      rw [← hs] at hs0
      exact rL0 D hD hD2 hr hsubW hsub hw0 (f - 1) (cmb (tB X N a.2.1) a (sub (a.2.1 + 1))) I2 s0 (show 120 ≤ f - 1 + (sub (a.2.1 + 1)).2.1 by omega) (cmb_ok hW ha hsg (hsubW (a.2.1 + 1) hlt)) (qN_cmb hq ha hs0 g)
    unfold jn at fin
    rw [if_neg (by decide), if_neg (by decide), if_neg (by decide), if_neg (by decide), if_neg (by decide), if_neg (by decide), if_neg (by decide), if_neg (by decide), if_pos (show nI 124 = 124 from rfl)] at fin
    exact ⟨fun c => fin _ (by rw [if_neg c]), fun c => ⟨fun c2 => fin _ (by rw [if_pos c, if_pos c2]), fun c2 => fin _ (by rw [if_pos c, if_neg c2])⟩⟩
termination_by f => f
decreasing_by omega
end RG
