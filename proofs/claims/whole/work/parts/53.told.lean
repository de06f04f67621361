/-! ===== a told FIGHT ===== -/
def eA (x : Int64) : Nat := x.toInt.toNat
theorem eA_of {a : Nat} (h : a < 1000) : eA (lN a) = a := by
  unfold eA
  rw [lN_toInt (by omega)]
  rfl
/-- throw t of it can be: at x, y tells whether it hit -/
def sCan (v : Vw) (o : Lw) (s w t : Nat) (x y : Int64) : Prop := ¬ sOver v s t ∧ (y = 0 ∨ y = 1) ∧ (x = lN 9 ∧ y = 0 ∨ ∃ a, a < vn v ∧ a ≠ w ∧ bIn s a = true ∧ x = lN a ∧ (if y = 1 then 0 < sNum v o t (bPop s) w a else sNum v o t (bPop s) w a < 12))
def sHs (s a : Nat) (y : Int64) : Nat := if y = 1 then bDel s a else s
def sHw (v : Vw) (o : Lw) (k s w a : Nat) (wr : Int32) : Int32 := if wr = -2 ∧ a ≠ sAm v o (vB v - k) s w then nI k else wr
def sHa (v : Vw) (o : Lw) (k s w a : Nat) (y : Int64) (A : Nat) : Nat := if a = 9 then A else A * (if y = 1 then sNum v o k (bPop s) w a else 12 - sNum v o k (bPop s) w a)
def sHb (a B : Nat) : Nat := if a = 9 then B else B * 12
/-- JUDGED, WRONG, above, below -/
noncomputable def sLk (v : Vw) (o : Lw) (X : Nat → Int64) (N : Nat) : Nat → Nat → Nat → Nat → Int32 → Nat → Nat → Int32 × Int32 × Nat × Nat
  | 0, _, _, _, wr, A, B => (-2, wr, A, B)
  | f + 1, k, s, w, wr, A, B => if N ≤ 2 * k then (-2, wr, A, B) else if N ≤ 2 * k + 1 then (nI k, -2, 0, 1) else
    @ite _ (sCan v o s w k (X (2 * k)) (X (2 * k + 1))) (Classical.propDecidable _)
      (sLk v o X N f (k + 1) (sHs s (eA (X (2 * k))) (X (2 * k + 1))) (vFol v w (sHs s (eA (X (2 * k))) (X (2 * k + 1)))) (sHw v o k s w (eA (X (2 * k))) wr) (sHa v o k s w (eA (X (2 * k))) (X (2 * k + 1)) A) (sHb (eA (X (2 * k))) B))
      (nI k, -2, 0, 1)
/-- where it may stand -/
def tOk (v : Vw) (s w : Nat) : Prop := s ≤ bAll (vn v) ∧ w < 4 ∧ (2 ≤ bPop s → bIn s w = true)
theorem tOk_go {v : Vw} {o : Lw} {s w k : Nat} {x y : Int64} (hv : vOk v) (h : tOk v s w) (hc : sCan v o s w k x y) : k < vB v ∧ 2 ≤ bPop s ∧ bIn s w = true ∧ w < vn v ∧ ((eA x = 9 ∧ x = lN 9 ∧ y = 0) ∨ (eA x < vn v ∧ eA x ≠ w ∧ bIn s (eA x) = true ∧ x = lN (eA x) ∧ (y = 0 ∨ y = 1) ∧ (if y = 1 then 0 < sNum v o k (bPop s) w (eA x) else sNum v o k (bPop s) w (eA x) < 12))) := by
  have hn := hv.1
  have h1 : k < vB v := Nat.not_le.mp fun z => hc.1 (Or.inl z)
  have h2 : 2 ≤ bPop s := Nat.not_lt.mp fun z => hc.1 (Or.inr z)
  refine ⟨h1, h2, h.2.2 h2, vsub' hv h.1 (h.2.2 h2), ?_⟩
  rcases hc.2.2 with ⟨e, e0⟩ | ⟨a, a1, a2, a3, a4, a5⟩
  · exact Or.inl ⟨by rw [e]; exact eA_of (by omega), e, e0⟩
  · have ea : eA x = a := by rw [a4]; exact eA_of (by omega)
    rw [ea]
    exact Or.inr ⟨a1, a2, a3, a4, hc.2.1, a5⟩
theorem tOk_next {v : Vw} {o : Lw} {s w k : Nat} {x y : Int64} (hv : vOk v) (h : tOk v s w) (hc : sCan v o s w k x y) : tOk v (sHs s (eA x) y) (vFol v w (sHs s (eA x) y)) ∧ sHs s (eA x) y < 16 := by
  have hn := hv.1
  have h16 := vAll16 hv
  obtain ⟨h1, h2, h3, h4, h5⟩ := tOk_go hv h hc
  have key : sHs s (eA x) y ≤ bAll (vn v) ∧ bIn (sHs s (eA x) y) w = true := by
    unfold sHs
    rcases h5 with ⟨e, _, e0⟩ | ⟨a1, a2, a3, -⟩
    · rw [e0, if_neg (by decide)]
      exact ⟨h.1, h3⟩
    · split
      · have g := sLs_in (a := eA x) hv h.1 (Or.inr ⟨a1, a2, a3⟩) h3
        rw [sLs, if_neg (by omega)] at g
        exact ⟨vdel hv h.1 (by omega), g⟩
      · exact ⟨h.1, h3⟩
  exact ⟨⟨key.1, Nat.lt_of_lt_of_le (vFol_lt hv h4 _) hn, fun _ => vFol_in hv h4 h4 key.2⟩, by omega⟩
theorem tOk_start {v : Vw} (hv : vOk v) : tOk v (bAll (vn v)) (vFirst v (bAll (vn v))) := by
  obtain ⟨k1, k2, k3, k4, k5, k6⟩ := dStart hv
  exact ⟨Nat.le_refl _, k4, k6⟩
theorem sLk_bd {v : Vw} {o : Lw} {X : Nat → Int64} {N : Nat} (hv : vOk v) (ho : ∀ t m a b, a < 4 → sNum v o t m a b ≤ 12) : ∀ f k s w wr A B, tOk v s w → k ≤ 9 → A ≤ 12 ^ k → B ≤ 12 ^ k → 0 < B →
    (sLk v o X N f k s w wr A B).2.2.1 ≤ 12 ^ 9 ∧ (sLk v o X N f k s w wr A B).2.2.2 ≤ 12 ^ 9 ∧ 0 < (sLk v o X N f k s w wr A B).2.2.2
  | 0, k, s, w, wr, A, B, ht, hk, hA, hB, h0 => by
    have := Nat.pow_le_pow_right (n := 12) (by omega) hk
    exact ⟨Nat.le_trans hA this, Nat.le_trans hB this, h0⟩
  | f + 1, k, s, w, wr, A, B, ht, hk, hA, hB, h0 => by
    have hb := hv.2.1
    have hp := Nat.pow_le_pow_right (n := 12) (by omega) hk
    unfold sLk
    by_cases c1 : N ≤ 2 * k
    · rw [if_pos c1]
      exact ⟨Nat.le_trans hA hp, Nat.le_trans hB hp, h0⟩
    rw [if_neg c1]
    by_cases c2 : N ≤ 2 * k + 1
    · rw [if_pos c2]
      exact ⟨Nat.zero_le _, show (1 : Nat) ≤ 12 ^ 9 from by decide, show (0 : Nat) < 1 from by decide⟩
    rw [if_neg c2]
    by_cases c3 : sCan v o s w k (X (2 * k)) (X (2 * k + 1))
    · rw [if_pos c3]
      obtain ⟨h1, h2, h3, h4, h5⟩ := tOk_go hv ht c3
      have hnum := ho k (bPop s) w (eA (X (2 * k))) ht.2.1
      refine sLk_bd hv ho f (k + 1) _ _ _ _ _ (tOk_next hv ht c3).1 (by omega) ?_ ?_ ?_
      · unfold sHa
        rw [Nat.pow_succ]
        split
        · omega
        · split
          · exact Nat.mul_le_mul hA hnum
          · exact Nat.mul_le_mul hA (by omega)
      · unfold sHb
        rw [Nat.pow_succ]
        split
        · omega
        · exact Nat.mul_le_mul_right 12 hB
      · unfold sHb
        split
        · exact h0
        · omega
    · rw [if_neg c3]
      exact ⟨Nat.zero_le _, show (1 : Nat) ≤ 12 ^ 9 from by decide, show (0 : Nat) < 1 from by decide⟩
theorem y01 {y : Int64} (h0 : ¬ y < 0) (h1 : y ≤ 1) : y = 0 ∨ y = 1 := by
  rw [Int64.lt_iff_toInt_lt, Int64.toInt_zero] at h0
  rw [Int64.le_iff_toInt_le, show (1 : Int64).toInt = 1 from by decide] at h1
  by_cases e : y.toInt = 0
  · exact Or.inl (Int64.toInt_inj.mp (by rw [e]; decide))
  · exact Or.inr (Int64.toInt_inj.mp (by rw [show (1 : Int64).toInt = 1 from by decide]; omega))
theorem l_lt {x : Int64} {n : Nat} (hn : n < 1000) (h0 : ¬ x < 0) (h1 : ¬ lN n ≤ x) : ∃ k, k < n ∧ x = lN k := by
  rw [Int64.lt_iff_toInt_lt, Int64.toInt_zero] at h0
  rw [Int64.le_iff_toInt_le, lN_toInt (by omega)] at h1
  exact ⟨x.toInt.toNat, by omega, Int64.toInt_inj.mp (by rw [lN_toInt (by omega)]; omega)⟩
theorem l_ge {a n : Nat} (hn : n < 1000) (ha : a < n) : ¬ lN a < 0 ∧ ¬ lN n ≤ lN a := by
  rw [Int64.lt_iff_toInt_lt, Int64.le_iff_toInt_le, Int64.toInt_zero, lN_toInt (by omega), lN_toInt (by omega)]
  omega
section TO
variable {l : Launch} {G : zG} {d : Nat} {v : Vw} {o : Lw}
theorem cCanBe {I : zIM} {L : zLM} (hv : vOk v) (hG : cG v I) (hN : cNm v o I) (h12 : ∀ t m a b, a < 4 → sNum v o t m a b ≤ 12) {s w k : Nat} {x y : Int64} (ht : tOk v s w) (hk : k < 900) (d6 : I 21 6 = nI s) (d7 : I 21 7 = nI w) (hd : 3 ≤ d) : zCi l G d mX7_canBe [.ref 21, .int (nI k), .long x, .long y] I L (zB (sCan v o s w k x y) I L) := by
  have hn := hv.1
  have hb := hv.2.1
  have h16 := vAll16 hv
  have hs16 : s < 16 := by have := ht.1; omega
  have no0 : ¬ sCan v o s w k x y → zB (sCan v o s w k x y) I L 0 I L := fun h => zB.n h
  refine t_X7_canBe ?_
  rw [d6]
  refine ⟨1, _, by omega, cIsOver hv hG (by have := ht.1; omega) (by omega) (Nat.le_refl 1), ?_⟩
  rintro yy _ _ ⟨hy, rfl, rfl⟩
  rcases hy with ⟨rfl, ho⟩ | ⟨rfl, ho⟩
  · exact ⟨fun _ => t_X7_canBe_29 (no0 fun h => h.1 ho), fun c => absurd c i1_0⟩
  · have h1 : k < vB v := Nat.not_le.mp fun z => ho (Or.inl z)
    have h2 : 2 ≤ bPop s := Nat.not_lt.mp fun z => ho (Or.inr z)
    have hi := ht.2.2 h2
    have hw := vsub' hv ht.1 hi
    refine ⟨fun c => absurd rfl c, fun _ => ⟨fun c1 => t_X7_canBe_29 (no0 fun h => ?_), fun c1 => ⟨fun c2 => ?_, fun c2 => t_X7_canBe_29 (no0 fun h => ?_)⟩⟩⟩
    · rcases h.2.1 with e | e <;> rw [e] at c1 <;> exact absurd c1 (by decide)
    rotate_left
    · rcases h.2.1 with e | e <;> rw [e] at c2 <;> exact absurd (by decide) c2
    have hy01 := y01 c1 c2
    refine ⟨fun c3 => ⟨fun c4 => t_X7_canBe_93 (no0 fun h => ?_), fun c4 => ?_⟩, fun c3 => ⟨fun c4 => t_X7_canBe_51 ⟨Or.inl rfl, no0 fun h => ?_⟩, fun c4 => t_X7_canBe_51 ⟨Or.inr rfl, zB.y ⟨ho, Or.inl c4, Or.inl ⟨c3, c4⟩⟩⟩⟩⟩
    · rcases h.2.2 with ⟨e, _⟩ | ⟨a, a1, _, _, e, _⟩
      · exact c3 e
      · rw [e] at c4
        exact (l_ge (n := vn v) (by omega) a1).1 c4
    rotate_left
    · rcases h.2.2 with ⟨_, e⟩ | ⟨a, a1, _, _, e, _⟩
      · exact c4 e
      · rw [e] at c3
        have := (lN_eq (a := a) (b := 9) (by omega) (by omega)).mp c3
        omega
    rw [hG.1, d7, d6, nI_l (by omega), nI_l (by omega)]
    refine ⟨fun c5 => t_X7_canBe_93 (no0 fun h => ?_), fun c5 => ⟨fun c6 => t_X7_canBe_93 (no0 fun h => ?_), fun c6 => ?_⟩⟩
    · rcases h.2.2 with ⟨e, _⟩ | ⟨a, a1, _, _, e, _⟩
      · exact c3 e
      · rw [e] at c5
        exact (l_ge (n := vn v) (by omega) a1).2 c5
    · rcases h.2.2 with ⟨e, _⟩ | ⟨a, a1, a2, _, e, _⟩
      · exact c3 e
      · rw [e] at c6
        exact a2 ((lN_eq (by omega) (by omega)).mp c6)
    obtain ⟨a, a1, rfl⟩ := l_lt (by omega) c4 c5
    have a2 : a ≠ w := fun z => c6 (by rw [z])
    have uniq : ∀ a', lN a = lN a' → a' < vn v → a' = a := fun a' e h => ((lN_eq (by omega) (by omega)).mp e).symm
    rw [lN_i]
    refine ⟨fun c7 => ?_, fun c7 => t_X7_canBe_93 (no0 fun h => ?_)⟩
    rotate_left
    · have e0 := (b_in s (by omega) a (by omega)).mp c7
      rcases h.2.2 with ⟨e, _⟩ | ⟨a', q1, q2, q3, q4, q5⟩
      · exact c3 e
      · rw [uniq a' q4 q1, e0] at q3
        cases q3
    have e1 : bIn s a = true := by
      cases hb : bIn s a with
      | true => rfl
      | false => exact absurd ((b_in s (by omega) a (by omega)).mpr hb) c7
    have hq := h12 k (bPop s) w a (by omega)
    have g := cNumAt (l := l) (G := G) (d := 1) (L := L) (a := a) hv hN (t := k) (by omega) hw ht.1 h2 (by omega) (Nat.le_refl 1)
    rw [aI_ne (show a ≠ 9 by omega), show sNm v o k s w a = sNum v o k (bPop s) w a by rw [sNm, if_neg (by omega)]] at g
    have no1 : ¬ (if y = 1 then 0 < sNum v o k (bPop s) w a else sNum v o k (bPop s) w a < 12) → ¬ sCan v o s w k (lN a) y := fun hc h => by
      rcases h.2.2 with ⟨e, _⟩ | ⟨a', q1, q2, q3, q4, q5⟩
      · exact c3 e
      · rw [uniq a' q4 q1] at q5
        exact hc q5
    have yes1 : (if y = 1 then 0 < sNum v o k (bPop s) w a else sNum v o k (bPop s) w a < 12) → sCan v o s w k (lN a) y := fun hc => ⟨ho, hy01, Or.inr ⟨a, a1, a2, e1, rfl, hc⟩⟩
    refine bE 1 g (by omega) ⟨fun c8 => ⟨fun c9 => t_X7_canBe_147 ⟨Or.inl rfl, zB.n (no1 ?_)⟩, fun c9 => t_X7_canBe_147 ⟨Or.inr rfl, zB.y (yes1 ?_)⟩⟩, fun c8 => ⟨fun c9 => t_X7_canBe_147 ⟨Or.inl rfl, zB.n (no1 ?_)⟩, fun c9 => t_X7_canBe_147 ⟨Or.inr rfl, zB.y (yes1 ?_)⟩⟩⟩
    · rw [if_neg c8]
      have := (nI_le_iff (a := 12) (by omega) (by omega)).mp c9
      omega
    · rw [if_neg c8]
      exact Nat.not_le.mp fun z => c9 (nI_le (a := 12) z (by omega))
    · rw [if_pos c8]
      rw [← nI_0] at c9
      have := (nI_le_iff (by omega) (by omega)).mp c9
      omega
    · rw [if_pos c8]
      rw [← nI_0] at c9
      exact Nat.not_le.mp fun z => c9 (nI_le z (by omega))
theorem aI_inj {a b : Nat} (ha : a = 9 ∨ a < 4) (hb : b = 9 ∨ b < 4) : aI a = aI b ↔ a = b := by
  constructor
  · intro e
    rcases ha with rfl | ha
    · exact ((aI_2 hb).mp (e.symm.trans rfl)).symm
    · rcases hb with rfl | hb
      · exact (aI_2 (Or.inr ha)).mp (e.trans rfl)
      · rw [aI_ne (by omega), aI_ne (by omega)] at e
        exact nI_inj (by omega) (by omega) e
  · intro e
    rw [e]
def qFw (v : Vw) (o : Lw) (k s w a : Nat) (y : Int64) (wr : Int32) (A B : Nat) (I0 : zIM) (L0 : zLM) : zIM → zLM → Prop := fun I' L' => (∀ x b, x ≠ 21 → I' x b = I0 x b) ∧ (∀ x b, x ≠ 21 → L' x b = L0 x b) ∧ I' 21 0 = I0 21 0 ∧ I' 21 1 = sHw v o k s w a wr ∧ I' 21 6 = nI (sHs s a y) ∧ I' 21 7 = nI (vFol v w (sHs s a y)) ∧ L' 21 2 = lN (sHa v o k s w a y A) ∧ L' 21 3 = lN (sHb a B)
theorem cFollow {I : zIM} {L : zLM} (hv : vOk v) (hF : cF v I) (hN : cNm v o I) (h12 : ∀ t m a b, a < 4 → sNum v o t m a b ≤ 12) (hS : cSv v o I L) {s w k : Nat} {x y : Int64} {wr : Int32} {A B : Nat} (ht : tOk v s w) (hc : sCan v o s w k x y) (d1 : I 21 1 = wr) (d6 : I 21 6 = nI s) (d7 : I 21 7 = nI w) (e2 : L 21 2 = lN A) (e3 : L 21 3 = lN B) {h : Int32} (hh : h = if y = 1 then 1 else 0) (hd : 3 ≤ d) : zCv l G d mX7_follow [.ref 21, .int (nI k), .int (nI (eA x)), .int h] I L (qFw v o k s w (eA x) y wr A B I L) := by
  have hn := hv.1
  have hb := hv.2.1
  have h16 := vAll16 hv
  obtain ⟨t1, t2, t3, t4, t5⟩ := tOk_go hv ht hc
  have hst := tOk_next hv ht hc
  have hs16 : s < 16 := by have := ht.1; omega
  have hy : y = 0 ∨ y = 1 := hc.2.1
  obtain ⟨a, ea⟩ : ∃ a, a = eA x := ⟨_, rfl⟩
  rw [← ea] at t5 hst ⊢
  have ha4 : a = 9 ∨ a < vn v := t5.elim (fun z => Or.inl z.1) (fun z => Or.inr z.1)
  have hok := sAm_ok (o := o) hv t4 ht.1 (vB v - k)
  have hb4 : sAm v o (vB v - k) s w = 9 ∨ sAm v o (vB v - k) s w < 4 := hok.elim Or.inl fun z => Or.inr (Nat.lt_of_lt_of_le z.1 hn)
  -- the last: whose turn it is
  have s132 : ∀ I' L' , (∀ p b, p ≠ 21 → I' p b = I p b) → (∀ p b, p ≠ 21 → L' p b = L p b) → I' 21 0 = I 21 0 → I' 21 1 = sHw v o k s w a wr → I' 21 6 = nI (sHs s a y) → I' 21 7 = nI w → L' 21 2 = lN (sHa v o k s w a y A) → L' 21 3 = lN (sHb a B) → K_X7_follow_132 l G d (qFw v o k s w a y wr A B I L) I' L' := by
    intro I' L' g1 g2 g3 g4 g5 g6 g7 g8
    refine t_X7_follow_132 ?_
    rw [g5, g6]
    have hF' : cF v I' := hF.off fun b => g1 8 b (by omega)
    exact bE 0 (cAfter hF' t4 hv hst.2) (by omega) ⟨fun p b hp => (xI_ne (by omega)).trans (g1 p b hp), g2, (xI_ne (by omega)).trans g3, (xI_ne (by omega)).trans g4, (xI_ne (by omega)).trans g5, xI_eq, g7, g8⟩
  have s113 : ∀ I' L', (∀ p b, p ≠ 21 → I' p b = I p b) → (∀ p b, p ≠ 21 → L' p b = L p b) → I' 21 0 = I 21 0 → I' 21 1 = sHw v o k s w a wr → I' 21 6 = nI s → I' 21 7 = nI w → L' 21 2 = lN (sHa v o k s w a y A) → L' 21 3 = lN (sHb a B) → K_X7_follow_113 l G d (qFw v o k s w a y wr A B I L) I' L' h (aI a) := by
    intro I' L' g1 g2 g3 g4 g5 g6 g7 g8
    subst hh
    refine t_X7_follow_113 ⟨fun c => ?_, fun c => ?_⟩
    · have hy1 : ¬ y = 1 := fun z => by rw [if_pos z] at c; exact i1_0 c
      exact s132 I' L' g1 g2 g3 g4 (by rw [g5, sHs, if_neg hy1]) g6 g7 g8
    · have hy1 : y = 1 := by
        by_cases z : y = 1
        · exact z
        · rw [if_neg z] at c
          exact absurd rfl c
      have h9 : a ≠ 9 := by
        rcases t5 with ⟨_, _, z⟩ | ⟨z, _⟩
        · rw [z] at hy1
          exact absurd hy1 (by decide)
        · omega
      rw [g5, aI_ne h9, b_del s hs16 a (by omega)]
      refine s132 _ L' (fun p b hp => (xI_ne (by omega)).trans (g1 p b hp)) g2 ((xI_ne (by omega)).trans g3) ((xI_ne (by omega)).trans g4) ?_ ((xI_ne (by omega)).trans g6) g7 g8
      rw [xI_eq, sHs, if_pos hy1]
  have s49 : ∀ I', (∀ p b, p ≠ 21 → I' p b = I p b) → I' 21 0 = I 21 0 → I' 21 1 = sHw v o k s w a wr → I' 21 6 = nI s → I' 21 7 = nI w → K_X7_follow_49 l G d (qFw v o k s w a y wr A B I L) I' L (nI k) h (aI a) := by
    intro I' g1 g3 g4 g5 g6
    refine t_X7_follow_49 ⟨fun c => ?_, fun c => ?_⟩
    · have h9 : a = 9 := (aI_2 (by omega)).mp c
      exact s113 I' L g1 (fun _ _ _ => rfl) g3 g4 g5 g6 (by rw [e2, sHa, if_pos h9]) (by rw [e3, sHb, if_pos h9])
    · have h9 : a ≠ 9 := fun z => c ((aI_2 (by omega)).mpr z)
      have hN' : cNm v o I' := hN.off fun b => g1 19 b (by omega)
      have hq := h12 k (bPop s) w a (by omega)
      rw [g5, g6]
      refine bE 1 (cNumAt hv hN' (by omega) t4 ht.1 t2 ha4 (Nat.le_refl 1)) (by omega) ?_
      rw [show sNm v o k s w a = sNum v o k (bPop s) w a by rw [sNm, if_neg h9]]
      subst hh
      have go : ∀ z : Nat, z = (if y = 1 then sNum v o k (bPop s) w a else 12 - sNum v o k (bPop s) w a) → K_X7_follow_113 l G d (qFw v o k s w a y wr A B I L) I' (xL (xL L 21 2 ((L 21 2) * lN z)) 21 3 ((L 21 3) * (12 : Int64))) (if y = 1 then 1 else 0) (aI a) := by
        rintro z rfl
        refine s113 I' _ g1 (fun p b hp => by rw [xL_ne (by omega), xL_ne (by omega)]) g3 g4 g5 g6 ?_ ?_
        · rw [xL_ne (by omega), xL_eq, e2, lN_mul, sHa, if_neg h9]
        · rw [xL_eq, e3, show (12 : Int64) = lN 12 from rfl, lN_mul, sHb, if_neg h9]
      refine ⟨fun c2 => ?_, fun c2 => ?_⟩
      · have hy1 : ¬ y = 1 := fun z => by rw [if_pos z] at c2; exact i1_0 c2
        rw [show (12 : Int32) - nI (sNum v o k (bPop s) w a) = nI (12 - sNum v o k (bPop s) w a) from nI_sub (a := 12) hq, nI_l (by omega)]
        exact go _ (if_neg hy1).symm
      · have hy1 : y = 1 := by
          by_cases z : y = 1
          · exact z
          · rw [if_neg z] at c2
            exact absurd rfl c2
        rw [nI_l (by omega)]
        exact go _ (if_pos hy1).symm
  have main : ((¬ (I 21 1) = (-2 : Int32) → (K_X7_follow_49 l G d (qFw v o k s w a y wr A B I L) I L (nI k) h (aI a))) ∧ ((I 21 1) = (-2 : Int32) → (∃ (d3 : Nat) (P3 : Int32 → zIM → zLM → Prop), d3 + 1 ≤ d ∧ zCi l G d3 mX4_aimAt [.ref 14, .int (nI k), .int (I 21 7), .int (I 21 6)] I L P3 ∧ ∀ (y3 : Int32) (I3 : zIM) (L3 : zLM), P3 y3 I3 L3 → (((aI a = y3 → (K_X7_follow_49 l G d (qFw v o k s w a y wr A B I L) I3 L3 (nI k) h (aI a))) ∧ (¬ aI a = y3 → (K_X7_follow_49 l G d (qFw v o k s w a y wr A B I L) (xI I3 21 1 (nI k)) L3 (nI k) h (aI a)))))))) := by
    refine ⟨fun c => ?_, fun c => ?_⟩
    · rw [d1] at c
      exact s49 I (fun _ _ _ => rfl) rfl (by rw [d1, sHw, if_neg (fun z => c z.1)]) d6 d7
    · rw [d6, d7]
      rw [d1] at c
      refine bE 1 (cAimAt hv hS (by omega) ht.1 t3 (Nat.le_refl 1)) (by omega) ⟨fun c2 => ?_, fun c2 => ?_⟩
      · have e := (aI_inj (by omega) hb4).mp c2
        exact s49 I (fun _ _ _ => rfl) rfl (by rw [d1, sHw, if_neg (fun z => z.2 e)]) d6 d7
      · have e : a ≠ sAm v o (vB v - k) s w := fun z => c2 ((aI_inj (by omega) hb4).mpr z)
        exact s49 _ (fun p b hp => xI_ne (by omega)) (xI_ne (by omega)) (by rw [xI_eq, sHw, if_pos ⟨c, e⟩]) ((xI_ne (by omega)).trans d6) ((xI_ne (by omega)).trans d7)
  refine t_X7_follow ⟨fun c => ?_, fun c => ?_⟩
  · have h9 : a ≠ 9 := fun z => c (by rw [z]; rfl)
    rw [aI_ne h9] at main
    exact main
  · have h9 : a = 9 := (nI_9 (by omega)).mp c
    rw [h9, show aI 9 = -2 from rfl] at main
    rw [h9]
    exact main
/-- look's end -/
def qLo (R : Int32 × Int32 × Nat × Nat) (J : zIM) (L0 : zLM) : zIM → zLM → Prop := fun I' L' => (∀ x b, x ≠ 21 → I' x b = J x b) ∧ (∀ x b, x ≠ 21 → L' x b = L0 x b) ∧ I' 21 0 = R.1 ∧ I' 21 1 = R.2.1 ∧ L' 21 2 = lN R.2.2.1 ∧ L' 21 3 = lN R.2.2.2
theorem q_2k (k : Nat) : (2 : Int32) * nI k = nI (2 * k) := nI_mul 2 k
theorem cLk_50 (hv : vOk v) {J : zIM} {L0 : zLM} (hG : cG v J) (hF : cF v J) (hN : cNm v o J) (h12 : ∀ t m a b, a < 4 → sNum v o t m a b ≤ 12) (hS : cSv v o J L0) {q N : Nat} (hq : q < 6) (hN6 : N ≤ 60) (hr : J (31 + 2 * q) 2 = nI N) (R : Int32 × Int32 × Nat × Nat) (hd : 5 ≤ d) : ∀ f k s w wr A B I L, f + k = 31 → tOk v s w → (∀ x b, x ≠ 21 → I x b = J x b) → (∀ x b, x ≠ 21 → L x b = L0 x b) → I 21 0 = -2 → I 21 1 = wr → I 21 6 = nI s → I 21 7 = nI w → L 21 2 = lN A → L 21 3 = lN B → sLk v o (L0 (32 + 2 * q)) N f k s w wr A B = R → K_X7_look_50 l G d (qLo R J L0) I L (nI k) q
  | 0, k, s, w, wr, A, B, I, L, hf, ht, hI, hL, d0, d1, d6, d7, e2, e3, e => by
    have e : (-2, wr, A, B) = R := e
    subst e
    refine t_X7_look_50 hq ⟨fun c => ⟨fun _ => ⟨hI, hL, d0, d1, e2, e3⟩, fun c => absurd d0 c⟩, fun c => absurd ?_ c⟩
    rw [hI _ _ (by omega), hr, q_2k]
    exact nI_le (by omega) (by omega)
  | f + 1, k, s, w, wr, A, B, I, L, hf, ht, hI, hL, d0, d1, d6, d7, e2, e3, e => by
    have hn := hv.1
    have hlen : I (31 + 2 * q) 2 = nI N := (hI _ _ (by omega)).trans hr
    -- judged at k
    have jud : ∀ I' L', (∀ x b, x ≠ 21 → I' x b = J x b) → (∀ x b, x ≠ 21 → L' x b = L0 x b) → (nI k, -2, 0, 1) = R → K_X7_look_50 l G d (qLo R J L0) (xI I' 21 0 (nI k)) L' (nI k + (1 : Int32)) q := by
      intro I' L' g1 g2 er
      subst er
      have ek : ¬ xI I' 21 0 (nI k) 21 0 = (-2 : Int32) := by
        rw [xI_eq]
        exact nI_ne2 (by omega)
      have fin : qLo (nI k, -2, 0, 1) J L0 (xI (xI I' 21 0 (nI k)) 21 1 (-2 : Int32)) (xL (xL L' 21 2 (0 : Int64)) 21 3 (1 : Int64)) := by
        refine ⟨fun x b hx => by rw [xI_ne (by omega), xI_ne (by omega)]; exact g1 x b hx, fun x b hx => by rw [xL_ne (by omega), xL_ne (by omega)]; exact g2 x b hx, ?_, xI_eq, ?_, xL_eq⟩
        · rw [xI_ne (by omega)]; exact xI_eq
        · rw [xL_ne (by omega)]; exact xL_eq
      exact t_X7_look_50 hq ⟨fun _ => ⟨fun c => absurd c ek, fun _ => fin⟩, fun _ => ⟨fun _ => ⟨fun c => absurd c ek, fun _ => fin⟩, fun c => absurd c ek⟩⟩
    unfold sLk at e
    refine t_X7_look_50 hq ⟨fun c => ⟨fun _ => ?_, fun c => absurd d0 c⟩, fun c => ⟨fun c => absurd d0 c, fun _ => ⟨fun c2 => ?_, fun c2 => ?_⟩⟩⟩
    · rw [hlen, q_2k] at c
      rw [if_pos ((nI_le_iff (by omega) (by omega)).mp c)] at e
      subst e
      exact ⟨hI, hL, d0, d1, e2, e3⟩
    · rw [hlen, q_2k] at c
      rw [hlen, q_2k, nI_1] at c2
      rw [if_neg (fun z => c (nI_le z (by omega))), if_pos ((nI_le_iff (by omega) (by omega)).mp c2)] at e
      exact jud I L hI hL e
    · rw [hlen, q_2k] at c
      rw [hlen, q_2k, nI_1] at c2
      have n1 : ¬ N ≤ 2 * k := fun z => c (nI_le z (by omega))
      have n2 : ¬ N ≤ 2 * k + 1 := fun z => c2 (nI_le z (by omega))
      rw [if_neg n1, if_neg n2] at e
      have hGI : cG v I := hG.off fun a b _ _ => hI a b (by omega)
      have hFI : cF v I := hF.off fun b => hI 8 b (by omega)
      have hNI : cNm v o I := hN.off fun b => hI 19 b (by omega)
      have hSI : cSv v o I L := fun t s w q1 q2 q3 => ⟨(hI 17 _ (by omega)).trans (hS t s w q1 q2 q3).1, fun p hp => (hL 16 _ (by omega)).trans ((hS t s w q1 q2 q3).2 p hp)⟩
      refine ⟨2 * k, q_2k k, by omega, 2 * k + 1, by rw [q_2k, nI_1], by omega, ?_⟩
      rw [hL _ _ (by omega), hL _ _ (by omega)]
      refine bB 3 (cCanBe hv hGI hNI h12 ht (by omega) d6 d7 (Nat.le_refl 3)) (by omega) (fun hc => ⟨fun c => absurd c i1_0, fun _ => ?_⟩) (fun hc => ⟨fun _ => ?_, fun c => absurd rfl c⟩)
      · rw [if_pos hc] at e
        have hok := (tOk_next hv ht hc).1
        have h5 := (tOk_go hv ht hc).2.2.2.2
        have ex : (L0 (32 + 2 * q) (2 * k)).toInt32 = nI (eA (L0 (32 + 2 * q) (2 * k))) := by
          rcases h5 with ⟨z1, z2, _⟩ | ⟨_, _, _, z, _⟩
          · rw [z1, z2]; exact lN_i 9
          · exact (congrArg Int64.toInt32 z).trans (lN_i _)
        rw [hL _ _ (by omega), hL _ _ (by omega), ex]
        have go : ∀ h : Int32, h = (if L0 (32 + 2 * q) (2 * k + 1) = 1 then 1 else 0) → ∃ (d11 : Nat) (P11 : zIM → zLM → Prop), d11 + 1 ≤ d ∧ zCv l G d11 mX7_follow [.ref 21, .int (nI k), .int (nI (eA (L0 (32 + 2 * q) (2 * k)))), .int h] I L P11 ∧ ∀ (I11 : zIM) (L11 : zLM), P11 I11 L11 → (K_X7_look_50 l G d (qLo R J L0) I11 L11 (nI k + (1 : Int32)) q) := by
          intro h hh
          refine ⟨3, _, by omega, cFollow hv hFI hNI h12 hSI ht hc d1 d6 d7 e2 e3 hh (Nat.le_refl 3), ?_⟩
          rintro I' L' ⟨g1, g2, g3, g4, g5, g6, g7, g8⟩
          rw [nI_1]
          exact cLk_50 hv hG hF hN h12 hS hq hN6 hr R hd f (k + 1) _ _ _ _ _ I' L' (by omega) hok (fun x b hx => (g1 x b hx).trans (hI x b hx)) (fun x b hx => (g2 x b hx).trans (hL x b hx)) (g3.trans d0) g4 g5 g6 g7 g8 e
        exact ⟨fun c => go 0 (if_neg c).symm, fun c => go 1 (if_pos c).symm⟩
      · rw [if_neg hc] at e
        exact jud I L hI hL e
theorem cLook (hv : vOk v) {J : zIM} {L0 : zLM} (hG : cG v J) (hF : cF v J) (hN : cNm v o J) (h12 : ∀ t m a b, a < 4 → sNum v o t m a b ≤ 12) (hS : cSv v o J L0) {q N : Nat} (hq : q < 6) (hN6 : N ≤ 60) (hr : J (31 + 2 * q) 2 = nI N) (hd : 5 ≤ d) : zCv l G d mX7_look [.ref 21, .ref (31 + 2 * q)] J L0 (qLo (sLk v o (L0 (32 + 2 * q)) N 31 0 (bAll (vn v)) (vFirst v (bAll (vn v))) (-2) 1 1) J L0) := by
  have ho : ∀ a b, a ≠ 21 → xI (xI J 21 0 (-2 : Int32)) 21 1 (-2 : Int32) a b = J a b := fun a b h => by rw [xI_ne (by omega), xI_ne (by omega)]
  have hG1 : cG v (xI (xI J 21 0 (-2 : Int32)) 21 1 (-2 : Int32)) := hG.off fun a b _ _ => ho a b (by omega)
  have hG2 : cG v (xI (xI (xI J 21 0 (-2 : Int32)) 21 1 (-2 : Int32)) 21 6 (nI (bAll (vn v)))) := hG1.off fun a b _ _ => xI_ne (by omega)
  refine t_X7_look hq (bE 0 (cAll hv hG1) (by omega) (bE 0 (cFirst hv hG2 (vAll16 hv)) (by omega) ?_))
  have := cLk_50 (l := l) (G := G) (d := d) hv hG hF hN h12 hS hq hN6 hr _ hd 31 0 (bAll (vn v)) (vFirst v (bAll (vn v))) (-2) 1 1 (xI (xI (xI (xI J 21 0 (-2 : Int32)) 21 1 (-2 : Int32)) 21 6 (nI (bAll (vn v)))) 21 7 (nI (vFirst v (bAll (vn v))))) (xL (xL L0 21 2 (1 : Int64)) 21 3 (1 : Int64)) rfl (tOk_start hv) (fun x b hx => by rw [xI_ne (by omega), xI_ne (by omega)]; exact ho x b hx) (fun x b hx => by rw [xL_ne (by omega), xL_ne (by omega)]) (by rw [xI_ne (by omega), xI_ne (by omega), xI_ne (by omega)]; exact xI_eq) (by rw [xI_ne (by omega), xI_ne (by omega)]; exact xI_eq) (by rw [xI_ne (by omega)]; exact xI_eq) xI_eq (by rw [xL_ne (by omega)]; exact xL_eq) xL_eq rfl
  rw [nI_0] at this
  exact this
end TO
