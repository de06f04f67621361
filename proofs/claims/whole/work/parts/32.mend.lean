/-! ===== public calls: mend, undo, redo ===== -/
def vG (v : Vw) (w p : Nat) : Nat := if w = 0 then vH v p else if w = 1 then vY v p else vT v p
def vMd (v : Vw) (w p k : Nat) : Vw := (vn v, (if w = 0 then wU (vH v) p k else vH v), (if w = 1 then wU (vY v) p k else vY v), (if w = 2 then wU (vT v) p k else vT v), vO v, vP v, vB v, vZ v)
theorem vMd_ok {v : Vw} (hv : vOk v) {w p k : Nat} (hw : w ≤ 2) (hp : p < vn v) (hk : k ≤ gMax w) : vOk (vMd v w p k) := by
  obtain ⟨a, b, c, e, f, g, i, j⟩ := hv
  refine ⟨a, b, fun q hq => ?_, e, f, g, i, fun q hq => ?_⟩
  · obtain ⟨c1, c2, c3⟩ := c q hq
    rcases (by omega : w = 0 ∨ w = 1 ∨ w = 2) with rfl | rfl | rfl
    · refine ⟨?_, c2, c3⟩
      show wU (vH v) p k q ≤ 12
      unfold wU; split
      · exact hk
      · exact c1
    · refine ⟨c1, ?_, c3⟩
      show wU (vY v) p k q ≤ 5
      unfold wU; split
      · exact hk
      · exact c2
    · refine ⟨c1, c2, ?_⟩
      show wU (vT v) p k q ≤ 3
      unfold wU; split
      · exact hk
      · exact c3
  · have hq : vn v ≤ q := hq
    rcases (by omega : w = 0 ∨ w = 1 ∨ w = 2) with rfl | rfl | rfl
    · exact j q hq
    · exact j q hq
    · show wU (vT v) p k q = 0
      rw [wU_ne (by omega)]
      exact j q hq
/-- one of a player's three numbers becomes k, on both sides -/
theorem rel_md {v : Vw} {o : Lw} {nb w p k : Nat} {I J : zIM} {L : zLM} (hw : w ≤ 2) (hp : p < vn v) (hk : k ≤ gMax w) (hv : vOk v) (hG : cG v I) (hF : cF v I) (hM : mG v I) (hLw : rLaw o I) (hNm : rNum v o I) (hTp : rTp I) (hDd : rDd v I) (hIm : rIm v I) (hBd : rBd nb I) (hTr : rTr I) (hSh : rSh nb I L)
    (e1 : J (2 + w) p = nI k) (e2 : J 45 (4 * w + p) = nI k) (e3 : w = 0 → J 14 8 = 0) (e4 : w ≠ 0 → J 14 8 = I 14 8)
    (ho : ∀ a b, ¬ (a = 2 + w ∧ b = p) → ¬ (a = 14 ∧ b = 8) → ¬ (a = 45 ∧ b = 4 * w + p) → (a < 22 ∨ 26 < a) → (a = 44 → b ≠ 4 ∧ b ≠ 5) → (a < 46 ∨ 48 < a) → J a b = I a b) (hCh : rCh v J) : Rel J L := by
  have hn := hv.1
  have G0 : ∀ q, q < 4 → J 2 q = nI (vH (vMd v w p k) q) := by
    intro q hq
    show _ = nI ((if w = 0 then wU (vH v) p k else vH v) q)
    by_cases h0 : w = 0
    · subst h0
      rw [if_pos rfl]
      by_cases hqp : q = p
      · subst hqp; rw [wU_eq]; exact e1
      · rw [wU_ne hqp, ho 2 q (by omega) (by omega) (by omega) (by omega) (by omega) (by omega)]; exact hG.2.2.1 q hq
    · rw [if_neg h0, ho 2 q (by omega) (by omega) (by omega) (by omega) (by omega) (by omega)]; exact hG.2.2.1 q hq
  have G1 : ∀ q, q < 4 → J 3 q = nI (vY (vMd v w p k) q) := by
    intro q hq
    show _ = nI ((if w = 1 then wU (vY v) p k else vY v) q)
    by_cases h0 : w = 1
    · subst h0
      rw [if_pos rfl]
      by_cases hqp : q = p
      · subst hqp; rw [wU_eq]; exact e1
      · rw [wU_ne hqp, ho 3 q (by omega) (by omega) (by omega) (by omega) (by omega) (by omega)]; exact hG.2.2.2.1 q hq
    · rw [if_neg h0, ho 3 q (by omega) (by omega) (by omega) (by omega) (by omega) (by omega)]; exact hG.2.2.2.1 q hq
  have G2 : ∀ q, q < 4 → J 4 q = nI (vT (vMd v w p k) q) := by
    intro q hq
    show _ = nI ((if w = 2 then wU (vT v) p k else vT v) q)
    by_cases h0 : w = 2
    · subst h0
      rw [if_pos rfl]
      by_cases hqp : q = p
      · subst hqp; rw [wU_eq]; exact e1
      · rw [wU_ne hqp, ho 4 q (by omega) (by omega) (by omega) (by omega) (by omega) (by omega)]; exact hG.2.2.2.2.1 q hq
    · rw [if_neg h0, ho 4 q (by omega) (by omega) (by omega) (by omega) (by omega) (by omega)]; exact hG.2.2.2.2.1 q hq
  have M0 : ∀ q, q < 4 → J 45 q = nI (vH (vMd v w p k) q) := by
    intro q hq
    show _ = nI ((if w = 0 then wU (vH v) p k else vH v) q)
    by_cases h0 : w = 0
    · subst h0
      rw [if_pos rfl]
      by_cases hqp : q = p
      · subst hqp; rw [wU_eq]; have := e2; rw [show 4 * 0 + q = q by omega] at this; exact this
      · rw [wU_ne hqp, ho 45 q (by omega) (by omega) (by omega) (by omega) (by omega) (by omega)]; exact hM.2.2.1 q hq
    · rw [if_neg h0, ho 45 q (by omega) (by omega) (by omega) (by omega) (by omega) (by omega)]; exact hM.2.2.1 q hq
  have M1 : ∀ q, q < 4 → J 45 (4 + q) = nI (vY (vMd v w p k) q) := by
    intro q hq
    show _ = nI ((if w = 1 then wU (vY v) p k else vY v) q)
    by_cases h0 : w = 1
    · subst h0
      rw [if_pos rfl]
      by_cases hqp : q = p
      · subst hqp; rw [wU_eq]; exact e2
      · rw [wU_ne hqp, ho 45 (4 + q) (by omega) (by omega) (by omega) (by omega) (by omega) (by omega)]; exact hM.2.2.2.1 q hq
    · rw [if_neg h0, ho 45 (4 + q) (by omega) (by omega) (by omega) (by omega) (by omega) (by omega)]; exact hM.2.2.2.1 q hq
  have M2 : ∀ q, q < 4 → J 45 (8 + q) = nI (vT (vMd v w p k) q) := by
    intro q hq
    show _ = nI ((if w = 2 then wU (vT v) p k else vT v) q)
    by_cases h0 : w = 2
    · subst h0
      rw [if_pos rfl]
      by_cases hqp : q = p
      · subst hqp; rw [wU_eq]; exact e2
      · rw [wU_ne hqp, ho 45 (8 + q) (by omega) (by omega) (by omega) (by omega) (by omega) (by omega)]; exact hM.2.2.2.2.1 q hq
    · rw [if_neg h0, ho 45 (8 + q) (by omega) (by omega) (by omega) (by omega) (by omega) (by omega)]; exact hM.2.2.2.2.1 q hq
  have off : ∀ a b, (a < 2 ∨ 4 < a) → a ≠ 14 → a ≠ 45 → (a < 22 ∨ 26 < a) → (a = 44 → b ≠ 4 ∧ b ≠ 5) → (a < 46 ∨ 48 < a) → J a b = I a b := fun a b h1 h2 h3 h4 h5 h6 => ho a b (by omega) (by omega) (by omega) h4 h5 h6
  refine ⟨vMd v w p k, o, nb, vMd_ok hv hw hp hk, ⟨(off 1 6 (by omega) (by omega) (by omega) (by omega) (by omega) (by omega)).trans hG.1, (off 1 7 (by omega) (by omega) (by omega) (by omega) (by omega) (by omega)).trans hG.2.1, G0, G1, G2, fun q hq => (off 5 q (by omega) (by omega) (by omega) (by omega) (by omega) (by omega)).trans (hG.2.2.2.2.2.1 q hq), fun q hq => (off 6 q (by omega) (by omega) (by omega) (by omega) (by omega) (by omega)).trans (hG.2.2.2.2.2.2.1 q hq), fun q hq => (off 7 q (by omega) (by omega) (by omega) (by omega) (by omega) (by omega)).trans (hG.2.2.2.2.2.2.2 q hq)⟩,
    cF_congr (v := v) rfl rfl rfl (hF.off fun b => off 8 b (by omega) (by omega) (by omega) (by omega) (by omega) (by omega)),
    ⟨(off 44 6 (by omega) (by omega) (by omega) (by omega) (by omega) (by omega)).trans hM.1, (off 44 9 (by omega) (by omega) (by omega) (by omega) (by omega) (by omega)).trans hM.2.1, M0, M1, M2, fun q hq => (off 49 q (by omega) (by omega) (by omega) (by omega) (by omega) (by omega)).trans (hM.2.2.2.2.2.1 q hq), fun q hq => (off 50 q (by omega) (by omega) (by omega) (by omega) (by omega) (by omega)).trans (hM.2.2.2.2.2.2.1 q hq), fun q hq => (off 51 q (by omega) (by omega) (by omega) (by omega) (by omega) (by omega)).trans (hM.2.2.2.2.2.2.2.1 q hq), fun hn => (off 49 0 (by omega) (by omega) (by omega) (by omega) (by omega) (by omega)).trans (hM.2.2.2.2.2.2.2.2 hn)⟩,
    hLw.off (off _ _ (by omega) (by omega) (by omega) (by omega) (by omega) (by omega)) (fun b => off _ _ (by omega) (by omega) (by omega) (by omega) (by omega) (by omega)) (off _ _ (by omega) (by omega) (by omega) (by omega) (by omega) (by omega)) (fun b => off _ _ (by omega) (by omega) (by omega) (by omega) (by omega) (by omega)), ?_,
    hTp.off (off _ _ (by omega) (by omega) (by omega) (by omega) (by omega) (by omega)) (off _ _ (by omega) (by omega) (by omega) (by omega) (by omega) (by omega)) (fun a b h => off _ _ (by omega) (by omega) (by omega) (by omega) (by omega) (by omega)),
    hDd.off (fun b h => off _ _ (by omega) (by omega) (by omega) (by omega) (by omega) (by omega)) (fun b h1 h2 => off _ _ (by omega) (by omega) (by omega) (by omega) (by omega) (by omega)),
    hIm.off (fun b h1 h2 => off _ _ (by omega) (by omega) (by omega) (by omega) (by omega) (by omega)) (fun b h1 h2 => off _ _ (by omega) (by omega) (by omega) (by omega) (by omega) (by omega)), hCh,
    hBd.off (off _ _ (by omega) (by omega) (by omega) (by omega) (by omega) (by omega)) (off _ _ (by omega) (by omega) (by omega) (by omega) (by omega) (by omega)) (fun a b h => off _ _ (by omega) (by omega) (by omega) (by omega) (by omega) (by omega)),
    hTr.off (off _ _ (by omega) (by omega) (by omega) (by omega) (by omega) (by omega)) (off _ _ (by omega) (by omega) (by omega) (by omega) (by omega) (by omega)) (fun a b h => off _ _ (by omega) (by omega) (by omega) (by omega) (by omega) (by omega)),
    hSh.off (Nat.le_refl _) (fun a b h => off _ _ (by omega) (by omega) (by omega) (by omega) (by omega) (by omega)) (fun _ _ _ => rfl)⟩
  by_cases h0 : w = 0
  · exact Or.inl (e3 h0)
  · have h : rNum v o J := hNm.off (e4 h0) (fun b => off _ _ (by omega) (by omega) (by omega) (by omega) (by omega) (by omega))
    have eH : vH (vMd v w p k) = vH v := if_neg h0
    rcases h with h | ⟨h, z⟩
    · exact Or.inl h
    · refine Or.inr ⟨h, fun t ht m h2 hm a ha b hb => (z t ht m h2 hm a ha b hb).trans ?_⟩
      unfold sNum
      rw [eH]
/-- what tell does to the class's cells -/
def cTl (I : zIM) (w p : Nat) (x : Int32) : zIM := if w = 0 then xI (xI I 2 p x) 14 8 0 else xI I (2 + w) p x
theorem cTl_at {I : zIM} {w p : Nat} {x : Int32} : cTl I w p x (2 + w) p = x := by
  unfold cTl
  split
  · rename_i h; subst h
    rw [xI_ne (by omega)]; exact xI_eq
  · exact xI_eq
theorem cTl_14 {I : zIM} {w p : Nat} {x : Int32} : (w = 0 → cTl I w p x 14 8 = 0) ∧ (w ≠ 0 → w ≤ 2 → cTl I w p x 14 8 = I 14 8) := by
  unfold cTl
  refine ⟨fun h => ?_, fun h h2 => ?_⟩
  · rw [if_pos h]; exact xI_eq
  · rw [if_neg h]; exact xI_ne (by omega)
theorem cTl_ne {I : zIM} {w p a b : Nat} {x : Int32} (h1 : ¬ (a = 2 + w ∧ b = p)) (h2 : ¬ (a = 14 ∧ b = 8)) : cTl I w p x a b = I a b := by
  unfold cTl
  split
  · rw [xI_ne h2, xI_ne (by omega)]
  · exact xI_ne h1
section PM
variable {l : Launch} {G : zG}
theorem cTell8 {d w p : Nat} {I : zIM} {L : zLM} (hw : w ≤ 2) (hp : p < 4) (x : Int32) (hd : 1 ≤ d) : zCv l G d mX8_tell [.ref 0, .int (nI p), .int (nI w), .int x] I L (zU (cTl I w p x) L) := by
  have e : ∀ j : Nat, j < 10 → (nI w = nI j ↔ w = j) := fun j hj => nI_eq_iff (by omega) (by omega)
  refine t_X8_tell ⟨fun c0 => ⟨fun c1 => ⟨p, rfl, hp, ?_⟩, fun c => ⟨p, rfl, hp, ?_⟩⟩, fun c => ⟨p, rfl, hp, 0, zU (xI (xI I 2 p x) 14 8 0) L, hd, t_X4_forgetNumbers ⟨rfl, rfl⟩, ?_⟩⟩
  · have h0 : ¬ w = 0 := fun z => c0 ((e 0 (by omega)).mpr z)
    have h1 : ¬ w = 1 := fun z => c1 ((e 1 (by omega)).mpr z)
    obtain rfl : w = 2 := by omega
    exact ⟨rfl, rfl⟩
  · obtain rfl := (e 1 (by omega)).mp c
    exact ⟨rfl, rfl⟩
  · obtain rfl := (e 0 (by omega)).mp c
    rintro _ _ ⟨rfl, rfl⟩
    exact ⟨rfl, rfl⟩
theorem s_undo : zStep l G mX8_undo mX9_undo [] := by
  rintro I L ⟨v, o, nb, hv, hG, hF, hM, hLw, hNm, hTp, hDd, hIm, hCh, hBd, hTr, hSh⟩
  have hR : Rel I L := ⟨v, o, nb, hv, hG, hF, hM, hLw, hNm, hTp, hDd, hIm, hCh, hBd, hTr, hSh⟩
  have hn := hv.1
  obtain ⟨dn, kp, k1, k2, d1, d2, d3, d4, en⟩ := hCh
  by_cases h0 : dn = 0
  · subst h0
    refine ⟨fun y I' L' => -5 = y ∧ I = I' ∧ L = L', ?_, ?_⟩
    · refine t_X8_undo ⟨0, zE (-2) I L, by decide, t_X0_takeBack ⟨fun c => absurd d1 c, fun _ => zE.of rfl⟩, ?_⟩
      rintro _ _ _ ⟨rfl, rfl, rfl⟩
      exact ⟨fun c => absurd rfl c, fun _ => ⟨rfl, rfl, rfl⟩⟩
    · rintro _ _ _ ⟨rfl, rfl, rfl⟩
      exact t_X9_undo ⟨fun c => absurd d2 c, fun _ => ⟨rfl, hR⟩⟩
  · obtain ⟨i, rfl⟩ : ∃ i, dn = i + 1 := ⟨dn - 1, by omega⟩
    obtain ⟨p, w, b, c, q0, q1, q2, q3, q4, q5, q6, q7, q8, q9, q10⟩ := en i (by omega)
    have hne : ¬ nI (i + 1) = 0 := nI_ne0 (by omega) (by omega)
    refine ⟨fun y I' L' => nI i = y ∧ cTl (xI I 22 4 (nI i)) w p (nI b) = I' ∧ L = L', ?_, ?_⟩
    · refine t_X8_undo ⟨0, fun y I' L' => nI i = y ∧ xI I 22 4 (nI i) = I' ∧ L = L', by decide, t_X0_takeBack ⟨fun _ => ?_, fun c => absurd (d1.symm.trans c) hne⟩, ?_⟩
      · rw [d1, nI_pred]; exact ⟨rfl, rfl, rfl⟩
      · rintro _ _ _ ⟨rfl, rfl, rfl⟩
        refine ⟨fun _ => ⟨i, rfl, by omega, 1, zU (cTl (xI I 22 4 (nI i)) w p (nI b)) L, by decide, ?_, ?_⟩, fun c => absurd c (nI_nm (by omega)).2⟩
        · rw [xI_ne (by omega), xI_ne (by omega), xI_ne (by omega), q4, q5, q6]
          exact cTell8 q1 (by omega) (nI b) (Nat.le_refl 1)
        · rintro _ _ ⟨rfl, rfl⟩
          refine ⟨?_, rfl, rfl⟩
          rw [cTl_ne (by omega) (by omega), xI_eq]
    · rintro _ _ _ ⟨rfl, rfl, rfl⟩
      have z1 : ∀ a z, a ≠ 22 → a ≠ 2 + w → a ≠ 14 → cTl (xI I 22 4 (nI i)) w p (nI b) a z = I a z := fun a z h1 h2 h3 => (cTl_ne (by omega) (by omega)).trans (xI_ne (by omega))
      have z2 : cTl (xI I 22 4 (nI i)) w p (nI b) 44 5 = nI (i + 1) := (z1 44 5 (by omega) (by omega) (by omega)).trans d2
      refine t_X9_undo ⟨fun _ => ⟨i, ?_, by omega, 4 * w + p, ?_, by omega, ?_, ?_⟩, fun c => absurd (z2.symm.trans c) hne⟩
      · rw [z2, nI_pred]
      · rw [z1 46 i (by omega) (by omega) (by omega)]; exact q8
      · rw [z2, nI_pred]
      · rw [z2, nI_pred, z1 47 i (by omega) (by omega) (by omega), q9]
        have off : ∀ x z, ¬ (x = 45 ∧ z = 4 * w + p) → ¬ (x = 44 ∧ z = 5) → ¬ (x = 22 ∧ z = 4) → ¬ (x = 2 + w ∧ z = p) → ¬ (x = 14 ∧ z = 8) → xI (xI (cTl (xI I 22 4 (nI i)) w p (nI b)) 44 5 (nI i)) 45 (4 * w + p) (nI b) x z = I x z := fun x z h1 h2 h3 h4 h5 => by rw [xI_ne h1, xI_ne h2, cTl_ne h4 h5, xI_ne h3]
        refine rel_md (w := w) (p := p) (k := b) q1 q0 q2 hv hG hF hM hLw hNm hTp hDd hIm hBd hTr hSh ?_ xI_eq (fun h => ?_) (fun h => ?_) (fun x z h1 h2 h3 h4 h5 h6 => off x z h3 (by omega) (by omega) h1 h2) ⟨i, kp, by omega, k2, ?_, ?_, ?_, ?_, fun j hj => ?_⟩
        · rw [xI_ne (by omega), xI_ne (by omega)]; exact cTl_at
        · rw [xI_ne (by omega), xI_ne (by omega)]; exact cTl_14.1 h
        · rw [xI_ne (by omega), xI_ne (by omega), cTl_14.2 h q1]; exact xI_ne (by omega)
        · rw [xI_ne (by omega), xI_ne (by omega), cTl_ne (by omega) (by omega), xI_eq]
        · rw [xI_ne (by omega), xI_eq]
        · rw [off _ _ (by omega) (by omega) (by omega) (by omega) (by omega)]; exact d3
        · rw [off _ _ (by omega) (by omega) (by omega) (by omega) (by omega)]; exact d4
        · obtain ⟨p', w', b', c', r0, r1, r2, r3, r4, r5, r6, r7, r8, r9, r10⟩ := en j hj
          exact ⟨p', w', b', c', r0, r1, r2, r3, (off _ _ (by omega) (by omega) (by omega) (by omega) (by omega)).trans r4, (off _ _ (by omega) (by omega) (by omega) (by omega) (by omega)).trans r5, (off _ _ (by omega) (by omega) (by omega) (by omega) (by omega)).trans r6, (off _ _ (by omega) (by omega) (by omega) (by omega) (by omega)).trans r7, (off _ _ (by omega) (by omega) (by omega) (by omega) (by omega)).trans r8, (off _ _ (by omega) (by omega) (by omega) (by omega) (by omega)).trans r9, (off _ _ (by omega) (by omega) (by omega) (by omega) (by omega)).trans r10⟩
theorem s_redo : zStep l G mX8_redo mX9_redo [] := by
  rintro I L ⟨v, o, nb, hv, hG, hF, hM, hLw, hNm, hTp, hDd, hIm, hCh, hBd, hTr, hSh⟩
  have hR : Rel I L := ⟨v, o, nb, hv, hG, hF, hM, hLw, hNm, hTp, hDd, hIm, hCh, hBd, hTr, hSh⟩
  have hn := hv.1
  obtain ⟨i, kp, k1, k2, d1, d2, d3, d4, en⟩ := hCh
  by_cases h0 : i = kp
  · subst h0
    refine ⟨fun y I' L' => -5 = y ∧ I = I' ∧ L = L', ?_, ?_⟩
    · refine t_X8_redo ⟨0, zE (-2) I L, by decide, t_X0_takeAgain ⟨fun c => absurd c ?_, fun _ => zE.of rfl⟩, ?_⟩
      · rw [d1, d3]; exact nI_nlt (Nat.le_refl _) (by omega)
      · rintro _ _ _ ⟨rfl, rfl, rfl⟩
        exact ⟨fun c => absurd rfl c, fun _ => ⟨rfl, rfl, rfl⟩⟩
    · rintro _ _ _ ⟨rfl, rfl, rfl⟩
      exact t_X9_redo ⟨fun c => absurd (d2.trans d4.symm) c, fun _ => ⟨rfl, hR⟩⟩
  · obtain ⟨p, w, b, c, q0, q1, q2, q3, q4, q5, q6, q7, q8, q9, q10⟩ := en i (by omega)
    refine ⟨fun y I' L' => nI (kp - (i + 1)) = y ∧ cTl (xI I 22 4 (nI (i + 1))) w p (nI c) = I' ∧ L = L', ?_, ?_⟩
    · refine t_X8_redo ⟨0, fun y I' L' => nI i = y ∧ xI I 22 4 (nI (i + 1)) = I' ∧ L = L', by decide, t_X0_takeAgain ⟨fun _ => ?_, fun z => absurd ?_ z⟩, ?_⟩
      · rw [d1, nI_1, nI_pred]; exact ⟨rfl, rfl, rfl⟩
      · rw [d1, d3]; exact nI_lt (by omega) (by omega)
      · rintro _ _ _ ⟨rfl, rfl, rfl⟩
        refine ⟨fun _ => ⟨i, rfl, by omega, 1, zU (cTl (xI I 22 4 (nI (i + 1))) w p (nI c)) L, by decide, ?_, ?_⟩, fun c => absurd c (nI_nm (by omega)).2⟩
        · rw [xI_ne (by omega), xI_ne (by omega), xI_ne (by omega), q4, q5, q7]
          exact cTell8 q1 (by omega) (nI c) (Nat.le_refl 1)
        · rintro _ _ ⟨rfl, rfl⟩
          refine ⟨?_, rfl, rfl⟩
          rw [cTl_ne (by omega) (by omega), cTl_ne (by omega) (by omega), xI_eq, xI_ne (by omega), d3, nI_sub (by omega)]
    · rintro _ _ _ ⟨rfl, rfl, rfl⟩
      have z1 : ∀ a z, a ≠ 22 → a ≠ 2 + w → a ≠ 14 → cTl (xI I 22 4 (nI (i + 1))) w p (nI c) a z = I a z := fun a z h1 h2 h3 => (cTl_ne (by omega) (by omega)).trans (xI_ne (by omega))
      have z2 : cTl (xI I 22 4 (nI (i + 1))) w p (nI c) 44 5 = nI i := (z1 44 5 (by omega) (by omega) (by omega)).trans d2
      have z3 : cTl (xI I 22 4 (nI (i + 1))) w p (nI c) 44 4 = nI kp := (z1 44 4 (by omega) (by omega) (by omega)).trans d4
      refine t_X9_redo ⟨fun _ => ⟨i, z2, by omega, 4 * w + p, ?_, by omega, ?_, ?_⟩, fun z => ?_⟩
      · rw [z1 46 i (by omega) (by omega) (by omega)]; exact q8
      · rw [z2, z3, nI_1, nI_sub (by omega)]
      · rw [z2, nI_1, z1 48 i (by omega) (by omega) (by omega), q10]
        have off : ∀ x z, ¬ (x = 45 ∧ z = 4 * w + p) → ¬ (x = 44 ∧ z = 5) → ¬ (x = 22 ∧ z = 4) → ¬ (x = 2 + w ∧ z = p) → ¬ (x = 14 ∧ z = 8) → xI (xI (cTl (xI I 22 4 (nI (i + 1))) w p (nI c)) 45 (4 * w + p) (nI c)) 44 5 (nI (i + 1)) x z = I x z := fun x z h1 h2 h3 h4 h5 => by rw [xI_ne h2, xI_ne h1, cTl_ne h4 h5, xI_ne h3]
        refine rel_md (w := w) (p := p) (k := c) q1 q0 q3 hv hG hF hM hLw hNm hTp hDd hIm hBd hTr hSh ?_ ?_ (fun h => ?_) (fun h => ?_) (fun x z h1 h2 h3 h4 h5 h6 => off x z h3 (by omega) (by omega) h1 h2) ⟨i + 1, kp, by omega, k2, ?_, ?_, ?_, ?_, fun j hj => ?_⟩
        · rw [xI_ne (by omega), xI_ne (by omega)]; exact cTl_at
        · rw [xI_ne (by omega)]; exact xI_eq
        · rw [xI_ne (by omega), xI_ne (by omega)]; exact cTl_14.1 h
        · rw [xI_ne (by omega), xI_ne (by omega), cTl_14.2 h q1]; exact xI_ne (by omega)
        · rw [xI_ne (by omega), xI_ne (by omega), cTl_ne (by omega) (by omega), xI_eq]
        · exact xI_eq
        · rw [off _ _ (by omega) (by omega) (by omega) (by omega) (by omega)]; exact d3
        · rw [off _ _ (by omega) (by omega) (by omega) (by omega) (by omega)]; exact d4
        · obtain ⟨p', w', b', c', r0, r1, r2, r3, r4, r5, r6, r7, r8, r9, r10⟩ := en j hj
          exact ⟨p', w', b', c', r0, r1, r2, r3, (off _ _ (by omega) (by omega) (by omega) (by omega) (by omega)).trans r4, (off _ _ (by omega) (by omega) (by omega) (by omega) (by omega)).trans r5, (off _ _ (by omega) (by omega) (by omega) (by omega) (by omega)).trans r6, (off _ _ (by omega) (by omega) (by omega) (by omega) (by omega)).trans r7, (off _ _ (by omega) (by omega) (by omega) (by omega) (by omega)).trans r8, (off _ _ (by omega) (by omega) (by omega) (by omega) (by omega)).trans r9, (off _ _ (by omega) (by omega) (by omega) (by omega) (by omega)).trans r10⟩
      · rw [z2, z3, nI_eq_iff (by omega) (by omega)] at z
        exact absurd z h0
end PM
