/-! ===== the class reads: operands, lines, THE TAPE ===== -/
section RO
variable {l : Launch} {G : zG} {d : Nat} {I : zIM} {L : zLM} {X : Nat → Nat} {N : Nat}
theorem qR_y {r : zPr} {m : Nat} {I0 I' : zIM} {L0 L' : zLM} {y : Int32} (h : qR r m I0 L0 y I' L') : y = 0 ∨ y = 1 := by rw [← h.2.1]; exact b2_ok _
theorem cRJ {op : Nat} {q : Nat → zPr} (hqW : ∀ p, p ≤ N → pW N p (q p)) (D : Nat) (hq : ∀ p m (I : zIM), tP X N p m I → zCi l G D mX3_readOperand [.ref 9, .int (nI op)] I L (qR (q p) m I L)) : ∀ k, k ≤ 5 → ∀ d, D + 2 * k + 1 ≤ d → ∀ p m (I : zIM), tP X N p m I → zCi l G d mX3_readJoined [.ref 9, .int (nI (5 - k)), .int (nI op)] I L (qR (pJ X N q k p) m I L)
  | 0, hk, d, hd, p, m, I, h => t_X3_readJoined ⟨fun c => absurd c (nI_nlt (a := 5) (b := 5) (by omega) (by omega)), fun _ => ⟨D, _, by omega, hq p m I h, fun y I' L' g => ⟨qR_y g, g⟩⟩⟩
  | k + 1, hk, d, hd, p, m, I, h => by
    have ih := cRJ hqW D hq k (by omega)
    have hsubW : ∀ p, p ≤ N → pW N p (pJ X N q k p) := pJ_ok hqW k
    have e5 : 5 - k = 5 - (k + 1) + 1 := by omega
    refine t_X3_readJoined ⟨fun _ => ?_, fun c => absurd (nI_lt (b := 5) (by omega) (by omega)) c⟩
    rw [nI_1, ← e5]
    refine ⟨D + 2 * k + 1, _, by omega, ih (D + 2 * k + 1) (Nat.le_refl _) p m I h, ?_⟩
    intro y2 I2 L2 g
    have eL := g.1
    subst eL
    have ey := g.2.1
    subst ey
    have := cRL (l := l) (G := G) (d := d) (lv := 4 - k) (op := op) (sub := pJ X N q k) h (by omega) hsubW (D + 2 * k + 1) (by omega) (fun p m I h => by rw [show 4 - k + 1 = 5 - k by omega]; exact ih _ (Nat.le_refl _) p m I h) 120 0 (pJ X N q k p) I2 rfl (hsubW p h.2.2.2.1) g
    rw [nI_0] at this
    rw [show 5 - (k + 1) = 4 - k by omega]
    exact this
theorem cRO : ∀ r, r ≤ 6 → ∀ d, 13 * r + 5 ≤ d → ∀ p m (I : zIM), tP X N p m I → zCi l G d mX3_readOperand [.ref 9, .int (nI (6 - r))] I L (qR (pO X N r p) m I L) := by
  -- digits, names: at any depth
  have head : ∀ (r : Nat), r ≤ 6 → ∀ d, 5 ≤ d → ∀ p m (I : zIM), tP X N p m I → (pO X N r p = pB X N p ∨ ¬ (dg (tB X N p) = true ∨ nmI (tB X N p) ≠ 9)) → (¬ (dg (tB X N p) = true ∨ nmI (tB X N p) ≠ 9) → ((nI (6 - r) < (6 : Int32) → (((¬ nx X N p = (40 : Int32) → (((nx X N p = (33 : Int32) → (K_X3_readOperand_137 l G d (qR (pO X N r p) m I L) I L (nI (6 - r)) (nx X N p))) ∧ (¬ nx X N p = (33 : Int32) → (((nx X N p = (45 : Int32) → (K_X3_readOperand_137 l G d (qR (pO X N r p) m I L) I L (nI (6 - r)) (nx X N p))) ∧ (¬ nx X N p = (45 : Int32) → (qR (pO X N r p) m I L (0 : Int32) I L)))))))) ∧ (nx X N p = (40 : Int32) → (∃ (d13 : Nat) (P13 : Int32 → zIM → zLM → Prop), d13 + 1 ≤ d ∧ zCi l G d13 mX3_readJoined [.ref 9, .int (0 : Int32), .int (nI (6 - r) + (1 : Int32))] (xI I 9 2 ((I 9 2) + (1 : Int32))) L P13 ∧ ∀ (y13 : Int32) (I13 : zIM) (L13 : zLM), P13 y13 I13 L13 → (((y13 = 0 → (K_X3_readOperand_109 l G d (qR (pO X N r p) m I L) I13 L13)) ∧ (¬ y13 = 0 → (∃ (d15 : Nat) (P15 : Int32 → zIM → zLM → Prop), d15 + 1 ≤ d ∧ zCi l G d15 mX3_next [.ref 9] I13 L13 P15 ∧ ∀ (y15 : Int32) (I15 : zIM) (L15 : zLM), P15 y15 I15 L15 → (((y15 = (41 : Int32) → (qR (pO X N r p) m I L (1 : Int32) (xI I15 9 2 ((I15 9 2) + (1 : Int32))) L15)) ∧ (¬ y15 = (41 : Int32) → (K_X3_readOperand_109 l G d (qR (pO X N r p) m I L) I15 L15))))))))))))) ∧ (¬ nI (6 - r) < (6 : Int32) → (qR (pO X N r p) m I L (0 : Int32) I L)))) →
      zCi l G d mX3_readOperand [.ref 9, .int (nI (6 - r))] I L (qR (pO X N r p) m I L) := by
    intro r hr d hd p m I h hpB rest
    obtain ⟨hw, h2, h4, hp, hm⟩ := id h
    have q : ∀ c, c < 1000 → c ≠ 0 → (nx X N p = nI c ↔ tB X N p = c) := fun c h1 h2 => nx_eq hw.2.2.2 h1 h2
    have nm : ∀ c, (c = 104 ∨ c = 97 ∨ c = 116 ∨ c = 109 ∨ c = 110) → nx X N p = nI c → ¬ dg (tB X N p) = true → K_X3_readOperand_47 l G d (qR (pO X N r p) m I L) I L (nx X N p) := by
      intro c hc e hdg
      have et : tB X N p = c := (q c (by omega) (by omega)).mp e
      have hn : nmI (tB X N p) ≠ 9 := by rw [et]; rcases hc with rfl | rfl | rfl | rfl | rfl <;> decide
      have e0 : pO X N r p = pB X N p := hpB.elim id (fun z => absurd (Or.inr hn) z)
      rw [e0]
      exact cRB_name h hdg hn (by omega)
    refine t_X3_readOperand (bE 0 (cNx hw h2 hp) (by omega) (bB 0 (cDg hw p) (by omega) (fun e => ⟨fun c => absurd c i1_0, fun _ => ?_⟩) (fun e => ⟨fun _ => ⟨fun c => nm 104 (by omega) c e, fun c1 => ⟨fun c => nm 97 (by omega) c e, fun c2 => ⟨fun c => nm 116 (by omega) c e, fun c3 => ⟨fun c => nm 109 (by omega) c e, fun c4 => ⟨fun c5 => rest ?_, fun c => nm 110 (by omega) c e⟩⟩⟩⟩⟩, fun c => absurd rfl c⟩)))
    · have e0 : pO X N r p = pB X N p := hpB.elim id (fun z => absurd (Or.inl e) z)
      rw [e0]
      exact ⟨4, _, by omega, cRB_num h e (by omega), fun y I' L' g => ⟨qR_y g, g⟩⟩
    · intro z
      rcases z with z | z
      · exact e z
      · rcases nmI_of z with ⟨z, _⟩ | ⟨z, _⟩ | ⟨z, _⟩ | ⟨z, _⟩ | ⟨z, _⟩
        · exact c1 ((q 104 (by omega) (by omega)).mpr z)
        · exact c2 ((q 97 (by omega) (by omega)).mpr z)
        · exact c3 ((q 116 (by omega) (by omega)).mpr z)
        · exact c4 ((q 109 (by omega) (by omega)).mpr z)
        · exact c5 ((q 110 (by omega) (by omega)).mpr z)
  intro r
  induction r with
  | zero =>
    intro hr d hd p m I h
    refine head 0 hr d (by omega) p m I h (Or.inl rfl) fun hno => ⟨fun c => absurd c (nI_nlt (a := 6) (b := 6) (by omega) (by omega)), fun _ => ?_⟩
    have hb : pO X N 0 p = (false, p, [], fun _ => 0) := by
      show pB X N p = _
      unfold pB
      rw [if_neg (fun z => hno (Or.inl z)), if_neg (fun z => hno (Or.inr z))]
    rw [hb]
    exact qR_bad h.2.1 h.2.2.1 (by have := h.1.2.2.1; have := h.2.2.2; omega) (fun _ _ _ _ => rfl)
  | succ r ih =>
    intro hr d hd p m I h
    obtain ⟨hw, h2, h4, hp, hm⟩ := id h
    have hN := hw.2.2.1
    have q : ∀ c, c < 1000 → c ≠ 0 → (nx X N p = nI c ↔ tB X N p = c) := fun c h1 h2 => nx_eq hw.2.2.2 h1 h2
    have hor : pO X N (r + 1) p = pB X N p ∨ ¬ (dg (tB X N p) = true ∨ nmI (tB X N p) ≠ 9) := by
      by_cases z : dg (tB X N p) = true ∨ nmI (tB X N p) ≠ 9
      · exact Or.inl (by rw [pO, if_pos z])
      · exact Or.inr z
    refine head (r + 1) hr d (by omega) p m I h hor fun hno => ⟨fun _ => ⟨fun c40 => ?_, fun c40 => ?_⟩, fun c => absurd (nI_lt (b := 6) (by omega) (by omega)) c⟩
    · -- ! and -
      have t40 : ¬ tB X N p = 40 := fun z => c40 ((q 40 (by omega) (by omega)).mpr z)
      have un : ∀ (s : Nat) (cell : Int32) (v2 : (Nat → Int32) → Int32), tB X N p = s → s ≠ 0 → s < 1000 → ((s = 33 ∧ cell = -33) ∨ (s ≠ 33 ∧ cell = -126)) → pO X N (r + 1) p = ((pO X N r (p + 1)).1, (pO X N r (p + 1)).2.1, (pO X N r (p + 1)).2.2.1 ++ [cell], v2) → K_X3_readOperand_137 l G d (qR (pO X N (r + 1) p) m I L) I L (nI (6 - (r + 1))) (nx X N p) := by
        intro s cell v2 hs s0 s1 hcell ePO
        have hlt : p < N := tB_lt (X := X) (by omega)
        rw [ePO, nx_in (by omega), hs]
        have hpre : tP X N (p + 1) m (xI I 9 2 (nI (p + 1))) := tP_to h (fun a b h1 h2 => xI_ne (by omega)) xI_eq ((xI_ne (by omega)).trans h4) hlt (by omega)
        refine t_X3_readOperand_137 ?_
        rw [nI_1, show 6 - (r + 1) + 1 = 6 - r by omega, h2, nI_1]
        refine ⟨13 * r + 5, _, by omega, ih (by omega) _ (Nat.le_refl _) (p + 1) m _ hpre, ?_⟩
        intro y1 I1 L1 g
        have eL := g.1
        subst eL
        have ey := g.2.1
        subst ey
        have hw1 := pO_ok (X := X) (N := N) r (p + 1) hlt
        have fin : ∀ s1 : Int32, s1 = cell → K_X3_readOperand_169 l G d (qR ((pO X N r (p + 1)).1, (pO X N r (p + 1)).2.1, (pO X N r (p + 1)).2.2.1 ++ [cell], v2) m I L) I1 L (b2 (pO X N r (p + 1)).1) s1 := by
          rintro s1 rfl
          refine t_X3_readOperand_169 ?_
          cases hg : (pO X N r (p + 1)).1 with
          | true =>
            obtain ⟨k1, k2, k3⟩ := g.2.2.2.2.2 hg
            obtain ⟨w1, w2, w3, w4⟩ := hw1.2.2 hg
            have hrN := hw1.2.1
            refine bV 0 (cWr _ k1 (by omega)) (by omega) ⟨Or.inr rfl, ?_⟩
            have := qR_write (c := s1) (v2 := v2) (p := (pO X N r (p + 1)).2.1) g hg (by omega) g.2.2.1
            obtain ⟨x1, x2, x3, x4, x5, x6⟩ := this
            exact ⟨x1, rfl, x3, fun a b h1 h2 => (x4 a b h1 h2).trans (xI_ne (by omega)), x5, fun z => ⟨(x6 z).1, fun b hb => ((x6 z).2.1 b hb).trans (xI_ne (by omega)), (x6 z).2.2⟩⟩
          | false =>
            obtain ⟨m1, g5, g5'⟩ := g.2.2.2.2.1
            refine ⟨0, _, by omega, cWr2 _ g5' g5, ?_⟩
            rintro I11 _ ⟨rfl, q1, m3, q2, q3⟩
            exact ⟨Or.inl rfl, rfl, rfl, (q1 9 2 (by omega) (by omega)).trans g.2.2.1, fun a b h1 h2 => (q1 a b h1 (by omega)).trans ((g.2.2.2.1 a b h1 h2).trans (xI_ne (by omega))), ⟨m3, q2, q3⟩, fun z => by cases z⟩
        refine ⟨fun c => fin _ ?_, fun c => fin _ ?_⟩
        · rcases hcell with ⟨z, _⟩ | ⟨_, z⟩
          · exact absurd (by rw [z]; rfl) c
          · exact z.symm
        · rcases hcell with ⟨_, z⟩ | ⟨z, _⟩
          · exact z.symm
          · exact absurd (nI_inj (b := 33) (by omega) (by omega) c) z
      refine ⟨fun c33 => ?_, fun c33 => ⟨fun c45 => ?_, fun c45 => ?_⟩⟩
      · have t33 := (q 33 (by omega) (by omega)).mp c33
        exact un 33 (-33) _ t33 (by omega) (by omega) (Or.inl ⟨rfl, rfl⟩) (by rw [pO, if_neg hno, if_neg t40, if_pos t33])
      · have t33 : ¬ tB X N p = 33 := fun z => c33 ((q 33 (by omega) (by omega)).mpr z)
        have t45 := (q 45 (by omega) (by omega)).mp c45
        exact un 45 (-126) _ t45 (by omega) (by omega) (Or.inr ⟨by omega, rfl⟩) (by rw [pO, if_neg hno, if_neg t40, if_neg t33, if_pos t45])
      · have t33 : ¬ tB X N p = 33 := fun z => c33 ((q 33 (by omega) (by omega)).mpr z)
        have t45 : ¬ tB X N p = 45 := fun z => c45 ((q 45 (by omega) (by omega)).mpr z)
        rw [show pO X N (r + 1) p = (false, p, [], fun _ => 0) by rw [pO, if_neg hno, if_neg t40, if_neg t33, if_neg t45]]
        exact qR_bad h2 h4 (by omega) (fun _ _ _ _ => rfl)
    · -- ( .. )
      have t40 := (q 40 (by omega) (by omega)).mp c40
      have hlt : p < N := tB_lt (X := X) (by omega)
      have hpre : tP X N (p + 1) m (xI I 9 2 (nI (p + 1))) := tP_to h (fun a b h1 h2 => xI_ne (by omega)) xI_eq ((xI_ne (by omega)).trans h4) hlt (by omega)
      have hJ := cRJ (l := l) (G := G) (L := L) (X := X) (N := N) (op := 6 - r) (fun p hp => pO_ok r p hp) (13 * r + 5) (fun p m I h => ih (by omega) _ (Nat.le_refl _) p m I h) 5 (by omega) (13 * r + 16) (by omega) (p + 1) m _ hpre
      have hJW : pW N (p + 1) (pJ X N (pO X N r) 5 (p + 1)) := pJ_ok (fun p hp => pO_ok r p hp) 5 (p + 1) hlt
      have ePO : pO X N (r + 1) p = if (pJ X N (pO X N r) 5 (p + 1)).1 = true ∧ tB X N (pJ X N (pO X N r) 5 (p + 1)).2.1 = 41 then (true, (pJ X N (pO X N r) 5 (p + 1)).2.1 + 1, (pJ X N (pO X N r) 5 (p + 1)).2.2) else (false, (pJ X N (pO X N r) 5 (p + 1)).2) := by rw [pO, if_neg hno, if_pos t40]
      rw [ePO, nI_1, show 6 - (r + 1) + 1 = 6 - r by omega, h2, nI_1]
      refine ⟨13 * r + 16, _, by omega, hJ, ?_⟩
      generalize pJ X N (pO X N r) 5 (p + 1) = a at hJW ⊢
      rintro y13 I13 _ ⟨rfl, rfl, g3, g4, ⟨m1, g5, g5'⟩, g6⟩
      have off : ∀ a b, a ≠ 11 → ¬ (a = 9 ∧ (b = 2 ∨ b = 4)) → I13 a b = I a b := fun a b h1 h2 => (g4 a b h1 h2).trans (xI_ne (by omega))
      have bad : ¬ (a.1 = true ∧ tB X N a.2.1 = 41) → qR (if a.1 = true ∧ tB X N a.2.1 = 41 then (true, a.2.1 + 1, a.2.2) else (false, a.2)) m I L 0 I13 L := fun hn => by
        rw [if_neg hn]
        exact qR_bad g3 g5' g5 off
      refine ⟨fun c => t_X3_readOperand_109 (bad fun z => ?_), fun c => ?_⟩
      · rw [z.1] at c
        exact i1_0 c
      · have er : a.1 = true := by
          cases hh : a.1 with
          | true => rfl
          | false => rw [hh] at c; exact absurd rfl c
        have hw1 : tW X N I13 := hw.off (off _ _ (by omega) (by omega)) (fun b => off 10 b (by omega) (by omega))
        refine bE 0 (cNx hw1 g3 hJW.2.1) (by omega) ⟨fun c2 => ?_, fun c2 => t_X3_readOperand_109 (bad fun z => c2 ((nx_eq (c := 41) hw.2.2.2 (by omega) (by omega)).mpr z.2))⟩
        have t41 : tB X N a.2.1 = 41 := (nx_eq (c := 41) hw.2.2.2 (by omega) (by omega)).mp c2
        obtain ⟨k1, k2, k3⟩ := g6 er
        rw [if_pos ⟨er, t41⟩, g3, nI_1]
        exact ⟨rfl, rfl, xI_eq, fun a b h1 h2 => (xI_ne (by omega)).trans (off a b h1 h2), ⟨m1, g5, (xI_ne (by omega)).trans g5'⟩, fun _ => ⟨(xI_ne (by omega)).trans k1, fun b hb => (xI_ne (by omega)).trans ((k2 b hb).trans (xI_ne (by omega))), cAt_off _ _ (fun b _ _ => xI_ne (by omega)) k3⟩⟩
/-- an E -/
theorem cRE {p m : Nat} (h : tP X N p m I) (hd : 100 ≤ d) : zCi l G d mX3_readJoined [.ref 9, .int (0 : Int32), .int (0 : Int32)] I L (qR (pE X N p) m I L) :=
  cRJ (X := X) (N := N) (op := 0) (fun p hp => pO_ok 6 p hp) 83 (fun p m I h => cRO 6 (Nat.le_refl 6) 83 (by omega) p m I h) 5 (by omega) d (by omega) p m I h
end RO
