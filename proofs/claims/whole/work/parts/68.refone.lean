/-! ===== the reference: an operand, an expression ===== -/
section RH
variable {l : Launch} {G : zG} {I : zIM} {L : zLM} {X : Nat → Nat} {N : Nat} {e : Nat → Int32}
theorem cProd {r D d : Nat} {q : Nat → zPr} (hqW : ∀ p, p ≤ N → pW N p (q p)) (h : cC l G L X N e r mX9_one D q) (hd : D + 1 ≤ d) : cC l G L X N e r mX9_product d (pJ X N q 1) := fun p I g => by
  refine t_X9_product ⟨D, _, hd, h p I g, ?_⟩
  intro y1 I1 L1 w
  have eL := w.1
  subst eL
  have hW := hqW p g.2.2.2.2
  exact bE 0 (rBy (g.1.off w.2.1) w.2.2.1 hW.2.1) (by omega) (rL4 (r := r) D hd g.2.2.2.1 hqW h g.1 120 (q p) I1 y1 (by omega) hW w)
theorem cSums {r D d : Nat} {q : Nat → zPr} (hqW : ∀ p, p ≤ N → pW N p (q p)) (h : cC l G L X N e r mX9_product D (pJ X N q 1)) (hd : D + 1 ≤ d) : cC l G L X N e r mX9_sums d (pJ X N q 2) := fun p I g => by
  have hqW := pJ_ok (X := X) hqW 1
  refine t_X9_sums ⟨D, _, hd, h p I g, ?_⟩
  intro y1 I1 L1 w
  have eL := w.1
  subst eL
  exact rL3 (r := r) D hd g.2.2.2.1 hqW h g.1 120 (pJ X N q 1 p) I1 y1 (by omega) (hqW p g.2.2.2.2) w
theorem cComp {r D d : Nat} {q : Nat → zPr} (hqW : ∀ p, p ≤ N → pW N p (q p)) (h : cC l G L X N e r mX9_sums D (pJ X N q 2)) (hd : D + 1 ≤ d) : cC l G L X N e r mX9_compared d (pJ X N q 3) := fun p I g => by
  have hqW := pJ_ok (X := X) hqW 2
  refine t_X9_compared ⟨D, _, hd, h p I g, ?_⟩
  intro y1 I1 L1 w
  have eL := w.1
  subst eL
  have hW := hqW p g.2.2.2.2
  exact bE 0 (rBy (g.1.off w.2.1) w.2.2.1 hW.2.1) (by omega) (rL2 (r := r) D hd g.2.2.2.1 hqW h g.1 hW w)
theorem cBoth {r D d : Nat} {q : Nat → zPr} (hqW : ∀ p, p ≤ N → pW N p (q p)) (h : cC l G L X N e r mX9_compared D (pJ X N q 3)) (hd : D + 1 ≤ d) (hD : 1 ≤ D) : cC l G L X N e r mX9_both d (pJ X N q 4) := fun p I g => by
  have hqW := pJ_ok (X := X) hqW 3
  refine t_X9_both ⟨D, _, hd, h p I g, ?_⟩
  intro y1 I1 L1 w
  have eL := w.1
  subst eL
  exact rL1 (r := r) D hd hD g.2.2.2.1 hqW h g.1 120 (pJ X N q 3 p) I1 y1 (by omega) (hqW p g.2.2.2.2) w
theorem cEither {r D d : Nat} {q : Nat → zPr} (hqW : ∀ p, p ≤ N → pW N p (q p)) (h : cC l G L X N e r mX9_one D q) (hd : D + 5 ≤ d) : cC l G L X N e r mX9_either d (pJ X N q 5) := fun p I g => by
  have h1 := cProd hqW h (Nat.le_refl _)
  have h2 := cSums hqW h1 (Nat.le_refl _)
  have h3 := cComp hqW h2 (Nat.le_refl _)
  have h4 := cBoth hqW h3 (Nat.le_refl _) (by omega)
  have hqW := pJ_ok (X := X) hqW 4
  refine t_X9_either ⟨D + 1 + 1 + 1 + 1, _, by omega, h4 p I g, ?_⟩
  intro y1 I1 L1 w
  have eL := w.1
  subst eL
  exact rL0 (r := r) (D + 1 + 1 + 1 + 1) (by omega) (by omega) g.2.2.2.1 hqW h4 g.1 120 (pJ X N q 4 p) I1 y1 (by omega) (hqW p g.2.2.2.2) w
/-- names, digits -/
theorem rBase {d p r : Nat} (h : gR X N e p r I) (hb : pO X N r p = pB X N p) (c33 : ¬ tB X N p = 33) (c45 : ¬ tB X N p = 45) (c40 : ¬ tB X N p = 40) (hd : 2 ≤ d) : zCi l G d mX9_one [.ref 44] I L (qN (pO X N r p) e I L) := by
  obtain ⟨hw, h17, h19, h20, hp⟩ := id h
  have ht := tB_le (N := N) (p := p) hw.2.2.1
  have q : ∀ c, c < 1000 → nI (tB X N p) = nI c → tB X N p = c := fun c hc z => nI_inj (by omega) (by omega) z
  have q' : ∀ c, tB X N p = c → nI (tB X N p) = nI c := fun c z => by rw [z]
  rw [hb]
  refine t_X9_one ⟨fun _ => bE 0 (rBy hw h17 hp) (by omega) ⟨fun c => absurd (q 33 (by omega) c) c33, fun _ => ⟨fun c => absurd (q 45 (by omega) c) c45, fun _ => ⟨fun _ => ?_, fun c => absurd (q 40 (by omega) c) c40⟩⟩⟩, fun c => absurd (by rw [h19]; decide) c⟩
  by_cases hn : nmI (tB X N p) = 9
  · refine bE 0 (e := -1) (t_X9_nameOf ⟨fun c => ?_, fun c => ?_, fun c => ?_, fun c => ?_, fun c => ?_, fun _ _ _ _ _ => zE.of rfl⟩) (by omega) ⟨fun _ => rDig h hn (by omega), fun c => absurd (by decide) c⟩
    · rw [q 97 (by omega) c] at hn; exact absurd hn (by decide)
    · rw [q 104 (by omega) c] at hn; exact absurd hn (by decide)
    · rw [q 109 (by omega) c] at hn; exact absurd hn (by decide)
    · rw [q 110 (by omega) c] at hn; exact absurd hn (by decide)
    · rw [q 116 (by omega) c] at hn; exact absurd hn (by decide)
  · have hno : zCi l G 0 mX9_nameOf [.int (nI (tB X N p))] I L (zE (nI (nmI (tB X N p))) I L) := by
      rcases nmI_of hn with ⟨z, y⟩ | ⟨z, y⟩ | ⟨z, y⟩ | ⟨z, y⟩ | ⟨z, y⟩ <;> rw [y, z]
      · exact t_X9_nameOf ⟨fun c => absurd c (by decide), fun c => zE.of rfl, fun c => absurd c (by decide), fun c => absurd c (by decide), fun c => absurd c (by decide), fun _ z _ _ _ => absurd rfl z⟩
      · exact t_X9_nameOf ⟨fun c => zE.of rfl, fun c => absurd c (by decide), fun c => absurd c (by decide), fun c => absurd c (by decide), fun c => absurd c (by decide), fun z _ _ _ _ => absurd rfl z⟩
      · exact t_X9_nameOf ⟨fun c => absurd c (by decide), fun c => absurd c (by decide), fun c => absurd c (by decide), fun c => absurd c (by decide), fun c => zE.of rfl, fun _ _ _ _ z => absurd rfl z⟩
      · exact t_X9_nameOf ⟨fun c => absurd c (by decide), fun c => absurd c (by decide), fun c => zE.of rfl, fun c => absurd c (by decide), fun c => absurd c (by decide), fun _ _ z _ _ => absurd rfl z⟩
      · exact t_X9_nameOf ⟨fun c => absurd c (by decide), fun c => absurd c (by decide), fun c => absurd c (by decide), fun c => zE.of rfl, fun c => absurd c (by decide), fun _ _ _ z _ => absurd rfl z⟩
    have hlt : p < N := tB_lt (X := X) (by rcases nmI_of hn with ⟨z, _⟩ | ⟨z, _⟩ | ⟨z, _⟩ | ⟨z, _⟩ | ⟨z, _⟩ <;> omega)
    have hn5 : nmI (tB X N p) < 5 := by rcases nmI_of hn with ⟨_, z⟩ | ⟨_, z⟩ | ⟨_, z⟩ | ⟨_, z⟩ | ⟨_, z⟩ <;> omega
    have hdg : ¬ dg (tB X N p) = true := fun z => by
      have hc : 48 ≤ tB X N p ∧ tB X N p ≤ 57 := by unfold dg at z; simpa using z
      rcases nmI_of hn with ⟨z, _⟩ | ⟨z, _⟩ | ⟨z, _⟩ | ⟨z, _⟩ | ⟨z, _⟩ <;> omega
    have hpb : pB X N p = (true, p + 1, [-(nI (tB X N p))], fun e => e (nmI (tB X N p))) := by unfold pB; rw [if_neg hdg, if_pos hn]
    refine bE 0 hno (by omega) ⟨fun c => absurd c (by rw [← nI_0]; exact nI_nlt (Nat.zero_le _) (by omega)), fun _ => ⟨nmI (tB X N p), rfl, hn5, ?_⟩⟩
    rw [hpb, h17, nI_1]
    exact ⟨rfl, nR17, xI_eq, fun _ => ⟨(hw.2.2.2.2 _ hn5).symm, (xI_ne (by omega)).trans h19, xI_ne (by omega)⟩, fun z => absurd rfl z⟩
theorem cOne : ∀ r, r ≤ 6 → cC l G L X N e r mX9_one (6 * r + 5) (pO X N r)
  | 0, hr6, p, I, h => by
    obtain ⟨hw, h17, h19, h20, hp⟩ := id h
    have ht := tB_le (N := N) (p := p) hw.2.2.1
    by_cases hop : tB X N p = 33 ∨ tB X N p = 45 ∨ tB X N p = 40
    rotate_left
    · exact rBase h rfl (fun z => hop (Or.inl z)) (fun z => hop (Or.inr (Or.inl z))) (fun z => hop (Or.inr (Or.inr z))) (by omega)
    have hb : pO X N 0 p = (false, p, [], fun _ => 0) := by
      show pB X N p = _
      unfold pB
      rcases hop with z | z | z <;> rw [z] <;> rfl
    have bad : ∀ x, K_X9_one_32 l G (6 * 0 + 5) (qN (pO X N 0 p) e I L) I L x := fun x => by
      rw [hb]
      refine t_X9_one_32 ⟨fun c => absurd h20 c, fun _ => bX 0 (rWr h17 h19) (by omega) ?_⟩
      exact ⟨rfl, nR19, (xI_ne (by omega)).trans h17, fun q => absurd q Bool.false_ne_true, fun _ => xI_eq⟩
    refine t_X9_one ⟨fun _ => bE 0 (rBy hw h17 hp) (by omega) ⟨fun c => bad _, fun c1 => ⟨fun c => bad _, fun c2 => ⟨fun c3 => ?_, fun c => bad _⟩⟩⟩, fun c => absurd (by rw [h19]; decide) c⟩
    rcases hop with z | z | z
    · exact absurd (by rw [z]; rfl) c1
    · exact absurd (by rw [z]; rfl) c2
    · exact absurd (by rw [z]; rfl) c3
  | r + 1, hr6, p, I, h => by
    have ih := cOne r (by omega)
    have ihE : cC l G L X N e r mX9_either (6 * r + 10) (pJ X N (pO X N r) 5) := cEither (fun p hp => pO_ok r p hp) ih (by omega)
    obtain ⟨hw, h17, h19, h20, hp⟩ := id h
    have hN := hw.2.1
    have ht := tB_le (N := N) (p := p) hw.2.2.1
    by_cases hop : tB X N p = 33 ∨ tB X N p = 45 ∨ tB X N p = 40
    rotate_left
    · refine rBase h ?_ (fun z => hop (Or.inl z)) (fun z => hop (Or.inr (Or.inl z))) (fun z => hop (Or.inr (Or.inr z))) (by omega)
      rw [pO]
      by_cases z : dg (tB X N p) = true ∨ nmI (tB X N p) ≠ 9
      · rw [if_pos z]
      · rw [if_neg z, if_neg (fun y => hop (Or.inr (Or.inr y))), if_neg (fun y => hop (Or.inl y)), if_neg (fun y => hop (Or.inr (Or.inl y)))]
        unfold pB
        rw [if_neg (fun y => z (Or.inl y)), if_neg (fun y => z (Or.inr y))]
    have hlt : p < N := tB_lt (X := X) (by omega)
    have hno : ¬ (dg (tB X N p) = true ∨ nmI (tB X N p) ≠ 9) := by rcases hop with z | z | z <;> rw [z] <;> decide
    have n6 : ¬ I 44 20 = 6 := fun z => by
      rw [h20] at z
      exact absurd (nI_inj (b := 6) (by omega) (by omega) z) (by omega)
    have hpre : gR X N e (p + 1) r (xI (xI I 44 20 (I 44 20 + 1)) 44 17 (I 44 17 + 1)) := by
      rw [h20, h17, nI_1, nI_1, show 6 - (r + 1) + 1 = 6 - r by omega]
      exact ⟨(hw.off nR20).off nR17, xI_eq, (xI_ne (by omega)).trans ((xI_ne (by omega)).trans h19), (xI_ne (by omega)).trans xI_eq, hlt⟩
    have nRp : nR I (xI (xI I 44 20 (I 44 20 + 1)) 44 17 (I 44 17 + 1)) := nR20.tr nR17
    have e20 : xI (xI I 44 20 (I 44 20 + 1)) 44 17 (I 44 17 + 1) 44 20 - 1 = I 44 20 := by
      rw [xI_ne (by omega), xI_eq, h20, nI_1, nI_pred]
    have main : K_X9_one_32 l G (6 * (r + 1) + 5) (qN (pO X N (r + 1) p) e I L) I L (nI (tB X N p)) := by
      by_cases c40 : tB X N p = 40
      · have ePO : pO X N (r + 1) p = if (pJ X N (pO X N r) 5 (p + 1)).1 = true ∧ tB X N (pJ X N (pO X N r) 5 (p + 1)).2.1 = 41 then (true, (pJ X N (pO X N r) 5 (p + 1)).2.1 + 1, (pJ X N (pO X N r) 5 (p + 1)).2.2) else (false, (pJ X N (pO X N r) 5 (p + 1)).2) := by rw [pO, if_neg hno, if_pos c40]
        have hJW : pW N (p + 1) (pJ X N (pO X N r) 5 (p + 1)) := pJ_ok (fun p hp => pO_ok r p hp) 5 (p + 1) hlt
        rw [ePO, c40]
        refine t_X9_one_32 ⟨fun _ => ⟨fun c => absurd rfl c, fun _ => ⟨6 * r + 10, _, by omega, ihE (p + 1) _ hpre, ?_⟩⟩, fun c => absurd c n6⟩
        generalize pJ X N (pO X N r) 5 (p + 1) = a at hJW ⊢
        intro y I1 L1 w
        have eL := w.1
        subst eL
        obtain ⟨-, w1, w2, w3, w4⟩ := w
        have hw1 : wR X N e I1 := hw.off (nRp.tr w1)
        have haN := hJW.2.1
        by_cases ha : a.1 = true
        rotate_left
        · rw [if_neg (fun z => ha z.1)]
          have w5 := w4 ha
          refine t_X9_one_83 ⟨fun c => absurd rfl c, fun _ => bE 0 (rTkF w5 (by omega)) (by omega) ⟨fun c => absurd rfl c, fun _ => ?_⟩⟩
          refine bX 0 (e := 0) (J := xI I1 44 19 (I1 44 19)) (t_X9_wrong ⟨fun _ => zE.of rfl, fun c => absurd (by rw [w5, ← nI_0]; exact nI_le (Nat.zero_le _) (by omega)) c⟩) (by omega) ?_
          exact ⟨rfl, (nRp.tr w1).tr nR19, (xI_ne (by omega)).trans w2, fun q => absurd q Bool.false_ne_true, fun _ => xI_eq.trans w5⟩
        obtain ⟨k1, k2, k3⟩ := w3 ha
        by_cases c41 : tB X N a.2.1 = 41
        · rw [if_pos ⟨ha, c41⟩]
          refine t_X9_one_83 ⟨fun c => absurd rfl c, fun _ => bX 1 (rTkY (c := 41) hw1 w2 k2 haN c41 (by omega)) (by omega) ⟨fun _ => t_X9_one_104 ⟨fun c => absurd rfl c, fun _ => t_X9_one_144 ?_⟩, fun c => absurd c i1_0⟩⟩
          refine ⟨rfl, (nRp.tr w1).tr (nR17.tr nR20), (xI_ne (by omega)).trans xI_eq, fun _ => ⟨k1, (xI_ne (by omega)).trans ((xI_ne (by omega)).trans k2), xI_eq.trans ?_⟩, fun z => absurd rfl z⟩
          rw [xI_ne (by omega), k3]
          exact e20
        · rw [if_neg (fun z => c41 z.2)]
          refine t_X9_one_83 ⟨fun c => absurd rfl c, fun _ => bE 1 (rTkN (c := 41) hw1 w2 k2 haN c41 (by omega) (by omega)) (by omega) ⟨fun c => absurd rfl c, fun _ => bX 0 (rWr w2 k2) (by omega) ?_⟩⟩
          exact ⟨rfl, (nRp.tr w1).tr nR19, (xI_ne (by omega)).trans w2, fun q => absurd q Bool.false_ne_true, fun _ => xI_eq⟩
      · have n40 : ¬ nI (tB X N p) = 40 := fun z => c40 (nI_inj (b := 40) (by omega) (by omega) z)
        refine t_X9_one_32 ⟨fun _ => ⟨fun _ => ⟨6 * r + 5, _, by omega, ih (p + 1) _ hpre, ?_⟩, fun c => absurd c n40⟩, fun c => absurd c n6⟩
        intro y I1 L1 w
        have eL := w.1
        subst eL
        obtain ⟨-, w1, w2, w3, w4⟩ := w
        have fin : ∀ (s0 : Int32) (cs : List Int32) (v2 : (Nat → Int32) → Int32), pO X N (r + 1) p = ((pO X N r (p + 1)).1, (pO X N r (p + 1)).2.1, cs, v2) → ((pO X N r (p + 1)).2.2.2 e = y → v2 e = s0) → K_X9_one_144 l G (6 * (r + 1) + 5) (qN (pO X N (r + 1) p) e I L) (xI I1 44 20 (I1 44 20 - 1)) L s0 := fun s0 cs v2 hb hv => by
          rw [hb]
          refine t_X9_one_144 ⟨rfl, (nRp.tr w1).tr nR20, (xI_ne (by omega)).trans w2, fun z => ?_, fun z => (xI_ne (by omega)).trans (w4 z)⟩
          obtain ⟨k1, k2, k3⟩ := w3 z
          refine ⟨hv k1, (xI_ne (by omega)).trans k2, xI_eq.trans ?_⟩
          rw [k3]
          exact e20
        refine t_X9_one_83 ⟨fun _ => t_X9_one_104 ⟨fun _ => ⟨fun n45 => ?_, fun c45 => ?_⟩, fun c => absurd c n40⟩, fun c => absurd c n40⟩
        · have c33 : tB X N p = 33 := by
            rcases hop with z | z | z
            · exact z
            · exact absurd (by rw [z]; rfl) n45
            · exact absurd z c40
          have hb : pO X N (r + 1) p = ((pO X N r (p + 1)).1, (pO X N r (p + 1)).2.1, (pO X N r (p + 1)).2.2.1 ++ [-33], fun e => if (pO X N r (p + 1)).2.2.2 e = 0 then 1 else 0) := by rw [pO, if_neg hno, if_neg c40, if_pos c33]
          exact ⟨fun y0 => fin _ _ _ hb fun z => by show (if (pO X N r (p + 1)).2.2.2 e = 0 then (1 : Int32) else 0) = 0; rw [z, if_neg y0], fun y0 => fin _ _ _ hb fun z => by show (if (pO X N r (p + 1)).2.2.2 e = 0 then (1 : Int32) else 0) = 1; rw [z, if_pos y0]⟩
        · have c45' : tB X N p = 45 := nI_inj (b := 45) (by omega) (by omega) c45
          have hb : pO X N (r + 1) p = ((pO X N r (p + 1)).1, (pO X N r (p + 1)).2.1, (pO X N r (p + 1)).2.2.1 ++ [-126], fun e => -((pO X N r (p + 1)).2.2.2 e)) := by rw [pO, if_neg hno, if_neg c40, if_neg (by omega), if_pos c45']
          exact fin _ _ _ hb fun z => by show -((pO X N r (p + 1)).2.2.2 e) = -y; rw [z]
    refine t_X9_one ⟨fun _ => bE 0 (rBy hw h17 hp) (by omega) ⟨fun c => main, fun c1 => ⟨fun c => main, fun c2 => ⟨fun c3 => ?_, fun c => main⟩⟩⟩, fun c => absurd (by rw [h19]; decide) c⟩
    rcases hop with z | z | z
    · exact absurd (by rw [z]; rfl) c1
    · exact absurd (by rw [z]; rfl) c2
    · exact absurd (by rw [z]; rfl) c3
/-- an E -/
theorem cExpr {d : Nat} (hd : 46 ≤ d) : cC l G L X N e 6 mX9_either d (pE X N) := cEither (fun p hp => pO_ok 6 p hp) (cOne 6 (Nat.le_refl 6)) (by omega)
end RH
