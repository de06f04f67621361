/-! ===== the reference: lines, the text ===== -/
def g3 (o : Option Int32) : Int32 := match o with
  | some _ => 1
  | none => 0
def qO (r : zLn) (N : Nat) (e : Nat → Int32) (I0 : zIM) (L0 : zLM) : Int32 → zIM → zLM → Prop := fun y I L => L0 = L ∧ nR I0 I ∧ ((r.1 = true ∧ r.2.1 = N) → I 44 19 = -1 ∧ (r.2.2.2 e).getD 0 = y) ∧ (¬ (r.1 = true ∧ r.2.1 = N) → I 44 19 = nI r.2.1)
section RT
variable {l : Launch} {G : zG} {d : Nat} {I : zIM} {L : zLM} {X : Nat → Nat} {N : Nat} {e : Nat → Int32} {P : Int32 → zIM → zLM → Prop}
theorem r74 {I2 : zIM} {cur v : Option Int32} {x6 x7 : Int32} (h19 : I2 44 19 = -1) (hs : ∀ u, v = some u → x6 = u ∧ ¬ x7 = 0) (hn : v = none → x7 = 0) (next : K_X9_workOut_96 l G d P I2 L (g3 (orS cur v)) ((orS cur v).getD 0)) : K_X9_workOut_74 l G d P I2 L (g3 cur) (cur.getD 0) x6 x7 := by
  refine t_X9_workOut_74 ⟨fun c => absurd c (by rw [h19]; decide), fun _ => ⟨fun c => ?_, fun c => ⟨fun c3 => ?_, fun c3 => ?_⟩⟩⟩
  · cases v with
    | some u => exact absurd c (hs u rfl).2
    | none => cases cur <;> exact next
  · cases cur with
    | some u => exact next
    | none => exact absurd rfl c3
  · cases cur with
    | some u => exact absurd c3 i1_0
    | none =>
      cases v with
      | some u =>
        rw [(hs u rfl).1]
        exact next
      | none => exact absurd (hn rfl) c
theorem r74F {I2 : zIM} {k : Nat} {x3 x4 x6 x7 : Int32} (h19 : I2 44 19 = nI k) (hk : k < 2 ^ 31) (next : K_X9_workOut_96 l G d P I2 L x3 x4) : K_X9_workOut_74 l G d P I2 L x3 x4 x6 x7 :=
  t_X9_workOut_74 ⟨fun _ => next, fun c => absurd (by rw [h19, ← nI_0]; exact nI_le (Nat.zero_le _) hk) c⟩
/-- a LINE -/
theorem rLine {I0 I1 : zIM} {p m : Nat} {cur : Option Int32} {x5 : Int32} (hx : ¬ x5 = 0) (hd : 47 ≤ d) (g : gR X N e p 6 I1) (h0 : nR I0 I1)
    (next : ∀ I2 x3 x4, nR I0 I2 → I2 44 17 = nI (pLn X N p m).2.1 → ((pLn X N p m).1 = true → I2 44 19 = -1 ∧ I2 44 20 = nI 0 ∧ x3 = g3 (orS cur ((pLn X N p m).2.2.2 e)) ∧ x4 = (orS cur ((pLn X N p m).2.2.2 e)).getD 0) → (¬ (pLn X N p m).1 = true → I2 44 19 = nI (pLn X N p m).2.1) → K_X9_workOut_96 l G d P I2 L x3 x4) : K_X9_workOut_33 l G d P I1 L (g3 cur) (cur.getD 0) x5 := by
  obtain ⟨hw, h17, h19, h20, hp⟩ := id g
  have hN := hw.2.1
  have hE := pE_ok (X := X) hp
  unfold pLn at next
  refine t_X9_workOut_33 ⟨fun c => absurd c hx, fun _ => ⟨46, _, by omega, cExpr (Nat.le_refl _) p I1 g, ?_⟩⟩
  generalize pE X N p = a at hE next ⊢
  intro y5 I5 L5 w
  have eL := w.1
  subst eL
  obtain ⟨-, w1, w2, w3, w4⟩ := id w
  have haN := hE.2.1
  have hw5 := hw.off w1
  by_cases ha : a.1 = true
  rotate_left
  · rw [if_neg ha] at next
    have w5 := w4 ha
    exact bE 0 (rTkF w5 (by omega)) (by omega) ⟨fun _ => r74F w5 (by omega) (next I5 _ _ (h0.tr w1) w2 (fun z => absurd z Bool.false_ne_true) (fun _ => w5)), fun c => absurd rfl c⟩
  obtain ⟨k1, k2, k3⟩ := w3 ha
  have k3 : I5 44 20 = nI 0 := k3.trans h20
  rw [if_pos ha] at next
  by_cases c63 : tB X N a.2.1 = 63
  rotate_left
  · rw [if_neg c63] at next
    refine bE 1 (rTkN (c := 63) hw5 w2 k2 haN c63 (by omega) (by omega)) (by omega) ⟨fun _ => r74 (v := some y5) k2 (fun u hu => ?_) (fun hu => by cases hu) (next I5 _ _ (h0.tr w1) w2 (fun _ => ⟨k2, k3, ?_, ?_⟩) (fun z => absurd rfl z)), fun c => absurd rfl c⟩
    · cases hu
      exact ⟨rfl, i1_0⟩
    · show _ = g3 (orS cur (some (a.2.2.2 e)))
      rw [k1]
    · show _ = (orS cur (some (a.2.2.2 e))).getD 0
      rw [k1]
  · rw [if_pos c63] at next
    have hlt : a.2.1 < N := tB_lt (X := X) (by omega)
    have hE2 := pE_ok (X := X) (show a.2.1 + 1 ≤ N from hlt)
    have ex := cExpr (l := l) (G := G) (L := L) (d := 46) (Nat.le_refl _) (a.2.1 + 1) _ (qN_gR (r := 6) hw h20 w ha hlt)
    refine bX 1 (rTkY (c := 63) hw5 w2 k2 haN c63 (by omega)) (by omega) ⟨fun c => absurd c i1_0, fun _ => ?_⟩
    generalize pE X N (a.2.1 + 1) = b at ex hE2 next
    have hbN := hE2.2.1
    have fin : ∀ (x7 : Int32), (a.2.2.2 e = 0 → x7 = 0) → (¬ a.2.2.2 e = 0 → ¬ x7 = 0) → ∀ y9 I9 L9, qN b e (xI I5 44 17 (nI (a.2.1 + 1))) L y9 I9 L9 → K_X9_workOut_74 l G d P I9 L9 (g3 cur) (cur.getD 0) y9 x7 := by
      intro x7 q0 q1 y9 I9 L9 v
      have eL := v.1
      subst eL
      obtain ⟨-, v1, v2, v3, v4⟩ := v
      have hr : nR I0 I9 := h0.tr (w1.tr (nR17.tr v1))
      by_cases hb : b.1 = true
      rotate_left
      · exact r74F (v4 hb) (by omega) (next I9 _ _ hr v2 (fun z => absurd z hb) (fun z => v4 hb))
      obtain ⟨j1, j2, j3⟩ := v3 hb
      have j3 : I9 44 20 = nI 0 := j3.trans ((xI_ne (by omega)).trans k3)
      refine r74 (v := if a.2.2.2 e = 0 then none else some (b.2.2.2 e)) j2 (fun u hu => ?_) (fun hu => ?_) (next I9 _ _ hr v2 (fun _ => ⟨j2, j3, rfl, rfl⟩) (fun z => absurd hb z))
      · by_cases z : a.2.2.2 e = 0
        · rw [if_pos z] at hu
          cases hu
        · rw [if_neg z] at hu
          cases hu
          exact ⟨j1.symm, q1 z⟩
      · by_cases z : a.2.2.2 e = 0
        · exact q0 z
        · rw [if_neg z] at hu
          cases hu
    exact ⟨fun y0 => ⟨46, _, by omega, ex, fin 0 (fun _ => rfl) (fun z => absurd (k1.trans y0) z)⟩, fun y0 => ⟨46, _, by omega, ex, fin 1 (fun z => absurd (k1.symm.trans z) y0) (fun _ => i1_0)⟩⟩
theorem pTx_eq {f : Nat} {r : zLn} : pTx X N f r = if 0 < f ∧ r.1 = true ∧ tB X N r.2.1 = 59 then pTx X N (f - 1) ((pLn X N (r.2.1 + 1) r.2.2.1.length).1, (pLn X N (r.2.1 + 1) r.2.2.1.length).2.1, r.2.2.1 ++ (pLn X N (r.2.1 + 1) r.2.2.1.length).2.2.1, fun e => orS (r.2.2.2 e) ((pLn X N (r.2.1 + 1) r.2.2.1.length).2.2.2 e)) else r := by
  cases f with
  | zero => rw [if_neg (fun z => absurd z.1 (by omega))]; rfl
  | succ f =>
    rw [pTx]
    by_cases z : r.1 = true ∧ tB X N r.2.1 = 59
    · rw [if_pos z, if_pos (show 0 < f + 1 ∧ r.1 = true ∧ tB X N r.2.1 = 59 from ⟨by omega, z⟩)]; rfl
    · rw [if_neg z, if_neg (fun y => z y.2)]
theorem rText {I0 : zIM} (hw0 : wR X N e I0) (hd : 47 ≤ d) : ∀ f (r : zLn) I1 x3 x4, 120 ≤ f + r.2.1 → r.2.1 ≤ N → nR I0 I1 → I1 44 17 = nI r.2.1 → (r.1 = true → I1 44 19 = -1 ∧ I1 44 20 = nI 0 ∧ x3 = g3 (r.2.2.2 e) ∧ x4 = (r.2.2.2 e).getD 0) → (¬ r.1 = true → I1 44 19 = nI r.2.1) → K_X9_workOut_96 l G d (qO (pTx X N f r) N e I0 L) I1 L x3 x4
  | f, r, I1, x3, x4, hf, hN, h0, h17, hy, hn => by
    have hN1 := hw0.2.1
    have hw1 := hw0.off h0
    have stop : ¬ (r.1 = true ∧ tB X N r.2.1 = 59) → pTx X N f r = r := fun z => by rw [pTx_eq, if_neg (fun y => z y.2)]
    by_cases hr : r.1 = true
    rotate_left
    · have w5 := hn hr
      rw [stop (fun z => hr z.1)]
      refine t_X9_workOut_96 (bE 0 (rTkF w5 (by omega)) (by omega) (t_X9_workOut_33 ⟨fun _ => ⟨fun _ => ?_, fun c => absurd (by rw [w5, ← nI_0]; exact nI_le (Nat.zero_le _) (by omega)) c⟩, fun c => absurd rfl c⟩))
      exact ⟨rfl, h0, fun z => absurd z.1 hr, fun _ => w5⟩
    obtain ⟨k1, k2, k3, k4⟩ := hy hr
    subst k3
    subst k4
    by_cases c59 : tB X N r.2.1 = 59
    rotate_left
    · rw [stop (fun z => c59 z.2)]
      refine t_X9_workOut_96 (bE 1 (rTkN (c := 59) hw1 h17 k1 hN c59 (by omega) (by omega)) (by omega) (t_X9_workOut_33 ⟨fun _ => ⟨fun c => absurd c (by rw [k1]; decide), fun _ => ⟨fun c => ?_, fun c => ?_⟩⟩, fun c => absurd rfl c⟩))
      · rw [hw1.1, h17] at c
        have := (nI_le_iff (by omega) (by omega)).mp c
        exact ⟨rfl, h0, fun _ => ⟨k1, rfl⟩, fun z => absurd ⟨hr, by omega⟩ z⟩
      · rw [hw1.1, h17] at c
        have : ¬ N ≤ r.2.1 := fun z => c (nI_le z (by omega))
        refine bX 0 (rWr h17 k1) (by omega) ⟨rfl, h0.tr nR19, fun z => ?_, fun _ => xI_eq⟩
        have := z.2
        omega
    · have hlt : r.2.1 < N := tB_lt (X := X) (by omega)
      rw [pTx_eq, if_pos ⟨by omega, hr, c59⟩]
      refine t_X9_workOut_96 (bX 1 (rTkY (c := 59) hw1 h17 k1 hN c59 (by omega)) (by omega) ?_)
      have hl := pLn_ok (X := X) (N := N) (p := r.2.1 + 1) (m := r.2.2.1.length) hlt
      refine rLine (X := X) (N := N) (e := e) (I0 := I0) (p := r.2.1 + 1) (m := r.2.2.1.length) (cur := r.2.2.2 e) i1_0 hd ⟨hw1.off nR17, xI_eq, (xI_ne (by omega)).trans k1, (xI_ne (by omega)).trans k2, hlt⟩ (h0.tr nR17) fun I2 x3 x4 q1 q2 q3 q4 => ?_
      have := hl.1
      have hl2 := hl.2.1
      exact rText hw0 hd (f - 1) ((pLn X N (r.2.1 + 1) r.2.2.1.length).1, (pLn X N (r.2.1 + 1) r.2.2.1.length).2.1, r.2.2.1 ++ (pLn X N (r.2.1 + 1) r.2.2.1.length).2.2.1, fun e => orS (r.2.2.2 e) ((pLn X N (r.2.1 + 1) r.2.2.1.length).2.2.2 e)) I2 x3 x4 (show 120 ≤ f - 1 + (pLn X N (r.2.1 + 1) r.2.2.1.length).2.1 by omega) hl2 q1 q2 q3 q4
termination_by f => f
decreasing_by omega
def wS (I : zIM) (b x : Int32) : zIM := xI (xI (xI (xI (xI I 44 16 b) 44 17 (0 : Int32)) 44 18 x) 44 19 (-1 : Int32)) 44 20 (0 : Int32)
theorem rWork {b : Int32} (hd : 48 ≤ d) (hw : wR X N e (wS I b (nI N))) : zCi l G d mX9_workOut [.ref 44, .int b, .int (nI N)] I L (qO (pAll X N) N e (wS I b (nI N)) L) := by
  refine t_X9_workOut ?_
  have hl := pLn_ok (X := X) (N := N) (p := 0) (m := 0) (Nat.zero_le _)
  have := rLine (l := l) (G := G) (d := d) (L := L) (P := qO (pAll X N) N e (wS I b (nI N)) L) (X := X) (N := N) (e := e) (I0 := wS I b (nI N)) (I1 := wS I b (nI N)) (p := 0) (m := 0) (cur := none) (x5 := 1) i1_0 (by omega) ⟨hw, ?_, ?_, ?_, Nat.zero_le _⟩ nR.rf (fun I2 x3 x4 q1 q2 q3 q4 => rText (X := X) (N := N) hw (by omega) 120 (pLn X N 0 0) I2 x3 x4 (by omega) hl.2.1 q1 q2 q3 q4)
  · exact this
  · unfold wS
    rw [xI_ne (by omega), xI_ne (by omega), xI_ne (by omega), xI_eq, nI_0]
  · unfold wS
    rw [xI_ne (by omega), xI_eq]
  · unfold wS
    rw [xI_eq]
    exact nI_0.symm
end RT
