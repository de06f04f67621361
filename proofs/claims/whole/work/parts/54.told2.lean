/-! ===== a told FIGHT: the reference; judge, chance ===== -/
section TR
variable {l : Launch} {G : zG} {d : Nat} {v : Vw} {o : Lw}
theorem mW01 {I : zIM} {L : zLM} (y : Int64) : zCi l G d mX9_within [.long y, .long (0 : Int64), .long (1 : Int64)] I L (zB (y = 0 ∨ y = 1) I L) :=
  t_X9_within ⟨fun c => zB.n fun h => by rcases h with e | e <;> rw [e] at c <;> exact absurd c (by decide), fun c => ⟨fun c2 => zB.n fun h => by rcases h with e | e <;> rw [e] at c2 <;> exact absurd c2 (by decide), fun c2 => zB.y (y01 c (Int64.not_lt.mp c2))⟩⟩
theorem mWn {I : zIM} {L : zLM} (x : Int64) {n : Nat} (hn : n < 1000) : zCi l G d mX9_within [.long x, .long (0 : Int64), .long ((nI n - (1 : Int32)).toInt64)] I L (zB (∃ a, a < n ∧ x = lN a) I L) := by
  have e1 : ((nI n - (1 : Int32)).toInt64).toInt = (n : Int) - 1 := by rw [Int32.toInt_toInt64, nI_m n (by omega)]
  refine t_X9_within ⟨fun c => zB.n fun ⟨a, h, e⟩ => ?_, fun c => ⟨fun c2 => zB.n fun ⟨a, h, e⟩ => ?_, fun c2 => zB.y ?_⟩⟩
  · rw [e] at c
    exact (l_ge hn h).1 c
  · rw [e, Int64.lt_iff_toInt_lt, e1, lN_toInt (by omega)] at c2
    omega
  · rw [Int64.lt_iff_toInt_lt, e1] at c2
    exact l_lt hn c (by rw [Int64.le_iff_toInt_le, lN_toInt (by omega)]; omega)
theorem mMay {I : zIM} {L : zLM} (hv : vOk v) (hM : mG v I) (hL : rLaw o I) (h12 : ∀ t m a b, a < 4 → sNum v o t m a b ≤ 12) {s w k : Nat} {x y : Int64} (ht : tOk v s w) (hk : k < 900) (hd : 102 ≤ d) : zCi l G d mX9_mayThrow [.ref 44, .int (nI k), .int (nI s), .int (nI w), .long x, .long y] I L (fun r I' L' => (r = 1 ∧ sCan v o s w k x y ∨ r = 0 ∧ ¬ sCan v o s w k x y) ∧ mOff I I' ∧ L = L') := by
  have hn := hv.1
  have hb := hv.2.1
  have h16 := vAll16 hv
  have hs16 : s < 16 := by have := ht.1; omega
  have no0 : ¬ sCan v o s w k x y → ((0 : Int32) = 1 ∧ sCan v o s w k x y ∨ (0 : Int32) = 0 ∧ ¬ sCan v o s w k x y) ∧ mOff I I ∧ L = L := fun h => ⟨Or.inr ⟨rfl, h⟩, mOff.rfl', rfl⟩
  refine t_X9_mayThrow (bB 1 (mIsOver hv hM hs16 (by omega) (Nat.le_refl 1)) (by omega) (fun ho => ⟨fun _ => t_X9_mayThrow_19 (no0 fun h => h.1 ho), fun c => absurd c i1_0⟩) (fun ho => ⟨fun c => absurd rfl c, fun _ => ?_⟩))
  have h1 : k < vB v := Nat.not_le.mp fun z => ho (Or.inl z)
  have h2 : 2 ≤ bPop s := Nat.not_lt.mp fun z => ho (Or.inr z)
  have hi := ht.2.2 h2
  have hw := vsub' hv ht.1 hi
  refine bB 0 (mW01 y) (by omega) (fun hy => ⟨fun _ => ?_, fun c => absurd c i1_0⟩) (fun hy => ⟨fun c => absurd rfl c, fun _ => t_X9_mayThrow_19 (no0 fun h => hy h.2.1)⟩)
  refine ⟨fun c3 => ?_, fun c3 => ⟨fun c4 => t_X9_mayThrow_42 ⟨Or.inl rfl, no0 fun h => ?_⟩, fun c4 => t_X9_mayThrow_42 ⟨Or.inr rfl, Or.inl ⟨rfl, ho, Or.inl c4, Or.inl ⟨c3, c4⟩⟩, mOff.rfl', rfl⟩⟩⟩
  rotate_left
  · rcases h.2.2 with ⟨_, e⟩ | ⟨a, a1, _, _, e, _⟩
    · exact c4 e
    · rw [e] at c3
      have := (lN_eq (a := a) (b := 9) (by omega) (by omega)).mp c3
      omega
  rw [hM.1]
  refine bB 0 (mWn x (by omega)) (by omega) (fun hx => ⟨fun c => absurd c i1_0, fun _ => ?_⟩) (fun hx => ⟨fun _ => t_X9_mayThrow_77 (no0 fun h => ?_), fun c => absurd rfl c⟩)
  rotate_left
  · rcases h.2.2 with ⟨e, _⟩ | ⟨a, a1, _, _, e, _⟩
    · exact c3 e
    · exact hx ⟨a, a1, e⟩
  obtain ⟨a, a1, rfl⟩ := hx
  have uniq : ∀ a', lN a = lN a' → a' < vn v → a' = a := fun a' e h => ((lN_eq (by omega) (by omega)).mp e).symm
  rw [nI_l (by omega), lN_i]
  refine ⟨fun c5 => t_X9_mayThrow_77 (no0 fun h => ?_), fun c5 => ?_⟩
  · have e := (lN_eq (by omega) (by omega)).mp c5
    rcases h.2.2 with ⟨e, _⟩ | ⟨a', q1, q2, _, q4, _⟩
    · exact c3 e
    · exact q2 ((uniq a' q4 q1).trans e)
  have a2 : a ≠ w := fun z => c5 (by rw [z])
  refine bB 0 (cIsIn9 hs16 (by omega)) (by omega) (fun e1 => ⟨fun _ => ?_, fun c => absurd c i1_0⟩) (fun e1 => ⟨fun c => absurd rfl c, fun _ => t_X9_mayThrow_77 (no0 fun h => ?_)⟩)
  rotate_left
  · rcases h.2.2 with ⟨e, _⟩ | ⟨a', q1, q2, q3, q4, _⟩
    · exact c3 e
    · rw [uniq a' q4 q1] at q3
      exact e1 q3
  refine bE 0 (mBits hs16) (by omega) ⟨100, _, by omega, mHitsOf hv hM hL hw (b := a) (by omega) (b_pop_le s hs16) (by omega) (Nat.le_refl 100), ?_⟩
  rintro r I' L' ⟨rfl, rfl, g3⟩
  have hq := h12 k (bPop s) w a (by omega)
  have no1 : ¬ (if y = 1 then 0 < sNum v o k (bPop s) w a else sNum v o k (bPop s) w a < 12) → ((0 : Int32) = 1 ∧ sCan v o s w k (lN a) y ∨ (0 : Int32) = 0 ∧ ¬ sCan v o s w k (lN a) y) ∧ mOff I I' ∧ L = L := fun hc => ⟨Or.inr ⟨rfl, fun h => by
    rcases h.2.2 with ⟨e, _⟩ | ⟨a', q1, q2, q3, q4, q5⟩
    · exact c3 e
    · rw [uniq a' q4 q1] at q5
      exact hc q5⟩, g3, rfl⟩
  have yes1 : (if y = 1 then 0 < sNum v o k (bPop s) w a else sNum v o k (bPop s) w a < 12) → ((1 : Int32) = 1 ∧ sCan v o s w k (lN a) y ∨ (1 : Int32) = 0 ∧ ¬ sCan v o s w k (lN a) y) ∧ mOff I I' ∧ L = L := fun hc => ⟨Or.inl ⟨rfl, ho, hy, Or.inr ⟨a, a1, a2, e1, rfl, hc⟩⟩, g3, rfl⟩
  refine ⟨fun c8 => ⟨fun c9 => t_X9_mayThrow_126 ⟨Or.inl rfl, no1 ?_⟩, fun c9 => t_X9_mayThrow_126 ⟨Or.inr rfl, yes1 ?_⟩⟩, fun c8 => ⟨fun c9 => t_X9_mayThrow_126 ⟨Or.inl rfl, no1 ?_⟩, fun c9 => t_X9_mayThrow_126 ⟨Or.inr rfl, yes1 ?_⟩⟩⟩
  · rw [if_neg c8]
    have := (nI_le_iff (a := 12) (by omega) (by omega)).mp c9
    omega
  · rw [if_neg c8]
    exact Nat.not_le.mp fun z => c9 (nI_le (a := 12) z (by omega))
  · rw [if_pos c8]
    rw [← nI_0] at c9
    have := (nI_le_iff (by omega) (by omega)).mp c9
    omega
  · rw [if_pos c8]
    rw [← nI_0] at c9
    exact Nat.not_le.mp fun z => c9 (nI_le z (by omega))
/-- what looksAt writes -/
def mO3 (J I : zIM) : Prop := ∀ x b, x ≠ 55 → (x = 44 → b < 16 ∨ (20 < b ∧ b ≠ 29 ∧ b ≠ 30)) → I x b = J x b
def qLm (R : Int32 × Int32 × Nat × Nat) (J : zIM) (L0 : zLM) : zIM → zLM → Prop := fun I' L' => mO3 J I' ∧ (∀ x b, x ≠ 44 → L' x b = L0 x b) ∧ I' 44 29 = R.1 ∧ (R.1 = -2 → I' 44 30 = R.2.1 ∧ L' 44 31 = lN R.2.2.1 ∧ L' 44 32 = lN R.2.2.2)
theorem q_60 (q k : Nat) : ((60 : Int32) * nI q) + ((2 : Int32) * nI k) = nI (60 * q + 2 * k) := by
  rw [show (60 : Int32) * nI q = nI (60 * q) from nI_mul 60 q, show (2 : Int32) * nI k = nI (2 * k) from nI_mul 2 k, nI_add]
theorem mO3.gG {J I : zIM} (h : mO3 J I) (hM : mG v J) : mG v I := hM.off (h 44 6 (by omega) (by omega)) (h 44 9 (by omega) (by omega)) (fun a b _ => h a b (by omega) (by omega))
theorem mO3.gL {J I : zIM} (h : mO3 J I) (hL : rLaw o J) : rLaw o I := hL.off (h 9 6 (by omega) (by omega)) (fun b => h 12 b (by omega) (by omega)) (h 44 15 (by omega) (by omega)) (fun b => h 54 b (by omega) (by omega))
theorem wr_lt {wr : Int32} (h : wr = -2 ∨ ∃ k, k < 1000 ∧ wr = nI k) : 0 ≤ wr ↔ ¬ wr = -2 := by
  rcases h with rfl | ⟨k, hk, rfl⟩
  · decide
  · exact ⟨fun _ => nI_ne2 (by omega), fun _ => nI_pos' (by omega)⟩
theorem mLk_52 (hv : vOk v) {J : zIM} {L0 : zLM} (hM : mG v J) (hL : rLaw o J) (h12 : ∀ t m a b, a < 4 → sNum v o t m a b ≤ 12) (hS : mSv v o J L0) {q N : Nat} {X : Nat → Int64} (hq : q < 6) (hN6 : N ≤ 60) (hr : J 66 q = nI N) (hX : ∀ i, i < N → L0 67 (60 * q + i) = X i) (R : Int32 × Int32 × Nat × Nat) {P : zIM → zLM → Prop} (hP : ∀ I' L', qLm R J L0 I' L' → P I' L') (hd : 104 ≤ d) : ∀ f k s w wr A B I L, f + k = 31 → tOk v s w → mO3 J I → (∀ x b, x ≠ 44 → L x b = L0 x b) → I 44 29 = -2 → I 44 30 = wr → (wr = -2 ∨ ∃ k, k < 1000 ∧ wr = nI k) → L 44 31 = lN A → L 44 32 = lN B → sLk v o X N f k s w wr A B = R → K_X9_looksAt_52 l G d P I L (nI q) (nI s) (nI w) (nI k)
  | 0, k, s, w, wr, A, B, I, L, hf, ht, hI, hL2, d0, d1, hwr, e2, e3, e => by
    have e : (-2, wr, A, B) = R := e
    subst e
    refine t_X9_looksAt_52 ⟨q, rfl, hq, fun c => hP _ _ ⟨hI, hL2, d0, fun _ => ⟨d1, e2, e3⟩⟩, fun c => absurd ?_ c⟩
    rw [hI _ _ (by omega) (by omega), hr, q_2k]
    exact nI_le (by omega) (by omega)
  | f + 1, k, s, w, wr, A, B, I, L, hf, ht, hI, hL2, d0, d1, hwr, e2, e3, e => by
    have hn := hv.1
    have hb := hv.2.1
    have h16 := vAll16 hv
    have hs16 : s < 16 := by have := ht.1; omega
    have hlen : I 66 q = nI N := (hI _ _ (by omega) (by omega)).trans hr
    have jud : ∀ I' L', mO3 J I' → (∀ x b, x ≠ 44 → L' x b = L0 x b) → (nI k, -2, 0, 1) = R → K_X9_looksAt_298 l G d P (xI I' 44 29 (nI k)) L' (nI q) (nI s) (nI w) (nI k) := by
      intro I' L' g1 g2 er
      subst er
      have fin : P (xI I' 44 29 (nI k)) L' := hP _ _ ⟨fun x b h1 h2 => (xI_ne (by omega)).trans (g1 x b h1 h2), g2, xI_eq, fun z => absurd z (nI_ne2 (by omega))⟩
      refine t_X9_looksAt_298 (t_X9_looksAt_52 ⟨q, rfl, hq, fun _ => fin, fun _ => ⟨fun _ => fin, fun c => absurd ?_ c⟩⟩)
      rw [xI_eq]
      exact nI_pos' (by omega)
    unfold sLk at e
    refine t_X9_looksAt_52 ⟨q, rfl, hq, fun c => ?_, fun c => ⟨fun c1 => absurd c1 (by rw [d0]; decide), fun _ => ?_⟩⟩
    · rw [hlen, q_2k] at c
      rw [if_pos ((nI_le_iff (by omega) (by omega)).mp c)] at e
      subst e
      exact hP _ _ ⟨hI, hL2, d0, fun _ => ⟨d1, e2, e3⟩⟩
    rw [hlen, q_2k] at c
    have n1 : ¬ N ≤ 2 * k := fun z => c (nI_le z (by omega))
    rw [if_neg n1] at e
    refine ⟨60 * q + 2 * k, q_60 q k, by omega, fun c2 => ?_, fun c2 => ?_⟩
    · rw [hlen, q_2k, nI_1] at c2
      rw [if_pos ((nI_le_iff (by omega) (by omega)).mp c2)] at e
      exact jud I L hI hL2 e
    rw [hlen, q_2k, nI_1] at c2
    have n2 : ¬ N ≤ 2 * k + 1 := fun z => c2 (nI_le z (by omega))
    rw [if_neg n2] at e
    have hMI : mG v I := hI.gG hM
    have hLI : rLaw o I := hI.gL hL
    refine ⟨60 * q + 2 * k + 1, by rw [q_60, nI_1], by omega, ?_⟩
    rw [hL2 _ _ (by omega), hL2 _ _ (by omega), hX (2 * k) (by omega), show 60 * q + 2 * k + 1 = 60 * q + (2 * k + 1) by omega, hX (2 * k + 1) (by omega)]
    refine ⟨102, _, by omega, mMay hv hMI hLI h12 ht (by omega) (Nat.le_refl 102), ?_⟩
    rintro r7 I7 _ ⟨hr7, g7, rfl⟩
    have hI7 : mO3 J I7 := fun x b h1 h2 => (g7 x b h1 (fun z => by have := h2 z; omega)).trans (hI x b h1 h2)
    have d07 : I7 44 29 = -2 := (g7 _ _ (by omega) (by omega)).trans d0
    have d17 : I7 44 30 = wr := (g7 _ _ (by omega) (by omega)).trans d1
    rcases hr7 with ⟨rfl, hc⟩ | ⟨rfl, hc⟩
    rotate_left
    · rw [if_neg hc] at e
      exact ⟨fun c => absurd rfl c, fun _ => jud I7 L hI7 hL2 e⟩
    rw [if_pos hc] at e
    refine ⟨fun _ => ?_, fun c => absurd c i1_0⟩
    obtain ⟨t1, t2, t3, t4, t5⟩ := tOk_go hv ht hc
    have hst := tOk_next hv ht hc
    obtain ⟨x, ex⟩ : ∃ x, x = X (2 * k) := ⟨_, rfl⟩
    obtain ⟨y, ey⟩ : ∃ y, y = X (2 * k + 1) := ⟨_, rfl⟩
    rw [← ex, ← ey] at t5 hst e ⊢
    obtain ⟨a, ea⟩ : ∃ a, a = eA x := ⟨_, rfl⟩
    rw [← ea] at t5 hst e
    have hy : y = 0 ∨ y = 1 := by rw [ey]; exact hc.2.1
    have ha4 : a = 9 ∨ a < vn v := t5.elim (fun z => Or.inl z.1) (fun z => Or.inr z.1)
    have exa : x = lN a := by
      rcases t5 with ⟨z1, z2, _⟩ | ⟨_, _, _, z, _⟩
      · rw [z1]; exact z2
      · exact z
    have hok := sAm_ok (o := o) hv t4 ht.1 (vB v - k)
    have hb4 : sAm v o (vB v - k) s w = 9 ∨ sAm v o (vB v - k) s w < 4 := hok.elim Or.inl fun z => Or.inr (Nat.lt_of_lt_of_le z.1 hn)
    have hwr2 : sHw v o k s w a wr = -2 ∨ ∃ j, j < 1000 ∧ sHw v o k s w a wr = nI j := by
      unfold sHw
      split
      · exact Or.inr ⟨k, by omega, rfl⟩
      · exact hwr
    -- go on with the set behind
    have s298 : ∀ I' L' (wr' : Int32) (A' B' : Nat), mO3 J I' → (∀ x b, x ≠ 44 → L' x b = L0 x b) → I' 44 29 = -2 → I' 44 30 = sHw v o k s w a wr → L' 44 31 = lN (sHa v o k s w a y A) → L' 44 32 = lN (sHb a B) → K_X9_looksAt_270 l G d P I' L' (nI q) (nI s) (nI w) (nI k) x y := by
      intro I' L' wr' A' B' g1 g2 g3 g4 g5 g6
      have nx : K_X9_looksAt_290 l G d P I' L' (nI q) (nI w) (nI k) (nI (sHs s a y)) := by
        refine t_X9_looksAt_290 (bE 1 (mNext hv (g1.gG hM) t4 hst.2 (Nat.le_refl 1)) (by omega) (t_X9_looksAt_298 ?_))
        rw [nI_1]
        exact mLk_52 hv hM hL h12 hS hq hN6 hr hX R hP hd f (k + 1) _ _ _ _ _ I' L' (by omega) hst.1 g1 g2 g3 g4 hwr2 g5 g6 e
      refine t_X9_looksAt_270 ⟨fun c => ?_, fun c => ?_⟩
      · rw [sHs, if_neg c] at nx
        exact nx
      · have h9 : a ≠ 9 := by
          rcases t5 with ⟨_, _, z⟩ | ⟨z, _⟩
          · rw [z] at c
            exact absurd c (by decide)
          · omega
        rw [sHs, if_pos c] at nx
        rw [exa, lN_i, b_del s hs16 a (by omega)]
        exact nx
    have s202 : ∀ s1, s1 = sHw v o k s w a wr → K_X9_looksAt_202 l G d P I7 L (nI q) (nI s) (nI w) (nI k) x y s1 := by
      rintro s1 rfl
      have g1 : mO3 J (xI I7 44 30 (sHw v o k s w a wr)) := fun x b h1 h2 => (xI_ne (by omega)).trans (hI7 x b h1 h2)
      refine t_X9_looksAt_202 ⟨fun c => ?_, fun c => ?_⟩
      · have h9 : a = 9 := by
          rw [exa] at c
          exact (lN_eq (b := 9) (by omega) (by omega)).mp c
        exact s298 _ L 0 0 0 g1 hL2 ((xI_ne (by omega)).trans d07) xI_eq (by rw [e2, sHa, if_pos h9]) (by rw [e3, sHb, if_pos h9])
      · have h9 : a ≠ 9 := fun z => c (by rw [exa, z]; rfl)
        have hq := h12 k (bPop s) w a (by omega)
        rw [show x.toInt32 = nI a by rw [exa, lN_i]]
        refine bE 0 (mBits hs16) (by omega) ⟨100, _, by omega, mHitsOf hv (g1.gG hM) (g1.gL hL) t4 (b := a) (by omega) (b_pop_le s hs16) (by omega) (Nat.le_refl 100), ?_⟩
        rintro r3 I3 _ ⟨rfl, rfl, g3⟩
        have g13 : mO3 J I3 := fun x b h1 h2 => (g3 x b h1 (fun z => by have := h2 z; omega)).trans (g1 x b h1 h2)
        have go : ∀ z : Nat, z = (if y = 1 then sNum v o k (bPop s) w a else 12 - sNum v o k (bPop s) w a) → K_X9_looksAt_254 l G d P I3 L (nI q) (nI s) (nI w) (nI k) x y (L 44 31) (lN z) := by
          rintro z rfl
          refine t_X9_looksAt_254 (s298 I3 _ 0 0 0 g13 (fun p b hp => by rw [xL_ne (by omega), xL_ne (by omega)]; exact hL2 p b hp) ((g3 _ _ (by omega) (by omega)).trans ((xI_ne (by omega)).trans d07)) ((g3 _ _ (by omega) (by omega)).trans xI_eq) ?_ ?_)
          · rw [xL_ne (by omega), xL_eq, e2, lN_mul, sHa, if_neg h9]
          · rw [xL_eq, e3, show (12 : Int64) = lN 12 from rfl, lN_mul, sHb, if_neg h9]
        refine ⟨fun c2 => ?_, fun c2 => ?_⟩
        · rw [show (12 : Int32) - nI (sNum v o k (bPop s) w a) = nI (12 - sNum v o k (bPop s) w a) from nI_sub (a := 12) hq, nI_l (by omega)]
          exact go _ (if_neg c2).symm
        · rw [nI_l (by omega)]
          exact go _ (if_pos c2).symm
    refine ⟨fun c3 => ?_, fun c3 => ?_⟩
    · rw [d17] at c3
      rw [d17]
      exact s202 wr (by rw [sHw, if_neg (fun z => (wr_lt hwr).mp c3 z.1)])
    · rw [d17] at c3
      have hw2 : wr = -2 := Classical.not_not.mp fun z => c3 ((wr_lt hwr).mpr z)
      refine bE 0 (mState _ _ _) (by omega) ⟨_, rfl, by omega, ?_⟩
      rw [hI7 58 _ (by omega) (by omega), (hS k s w (by omega) ht.1 t3).1, d17, nI_l (by omega), exa]
      rw [exa] at s202
      refine ⟨fun c4 => s202 wr ?_, fun c4 => s202 (nI k) ?_⟩
      · have := (lN_eq (by omega) (by omega)).mp c4
        rw [sHw, if_neg (fun z => z.2 this.symm)]
      · rw [sHw, if_pos ⟨hw2, fun z => c4 (by rw [z])⟩]
def qLq (R : Int32 × Int32 × Nat × Nat) (I : zIM) (L : zLM) : zIM → zLM → Prop := fun I' L' => oM2 I I' ∧ oML2 L L' ∧ I' 44 29 = R.1 ∧ (R.1 = -2 → I' 44 30 = R.2.1 ∧ L' 44 31 = lN R.2.2.1 ∧ L' 44 32 = lN R.2.2.2)
theorem mLooks (hv : vOk v) {I : zIM} {L : zLM} (hM : mG v I) (hL : rLaw o I) (h12 : ∀ t m a b, a < 4 → sNum v o t m a b ≤ 12) {q N : Nat} {X : Nat → Int64} (hq : q < 6) (hN6 : N ≤ 60) (hr : I 66 q = nI N) (hX : ∀ i, i < N → L 67 (60 * q + i) = X i) (hd : 106 ≤ d) : zCv l G d mX9_looksAt [.ref 44, .int (nI q)] I L (qLq (sLk v o X N 31 0 (bAll (vn v)) (vFirst v (bAll (vn v))) (-2) 1 1) I L) := by
  have hn := hv.1
  refine t_X9_looksAt ⟨105, _, by omega, mSolves hv hM hL (Nat.le_refl 105), fun J L1 hq2 => ?_⟩
  have hMJ := hq2.2.2.1.gG hM
  have hLJ := hq2.2.2.1.gL hL
  have ho : ∀ a b, ¬ (a = 44 ∧ (b = 29 ∨ b = 30)) → xI (xI J 44 29 (-2 : Int32)) 44 30 (-2 : Int32) a b = J a b := fun a b h => by rw [xI_ne (by omega), xI_ne (by omega)]
  have hM1 : mG v (xI (xI J 44 29 (-2 : Int32)) 44 30 (-2 : Int32)) := hMJ.off (ho _ _ (by omega)) (ho _ _ (by omega)) (fun a b h => ho a b (by omega))
  have go : ∀ x3, x3 = nI (vFirst v (bAll (vn v))) → K_X9_looksAt_52 l G d (qLq (sLk v o X N 31 0 (bAll (vn v)) (vFirst v (bAll (vn v))) (-2) 1 1) I L) (xI (xI J 44 29 (-2 : Int32)) 44 30 (-2 : Int32)) (xL (xL L1 44 31 (1 : Int64)) 44 32 (1 : Int64)) (nI q) (nI (bAll (vn v))) x3 (0 : Int32) := by
    rintro x3 rfl
    have := mLk_52 (l := l) (G := G) (d := d) (P := qLq (sLk v o X N 31 0 (bAll (vn v)) (vFirst v (bAll (vn v))) (-2) 1 1) I L) hv hMJ hLJ h12 hq2.1 (X := X) hq hN6 ((hq2.2.2.1 66 q (by omega) (by omega) (by omega) (by omega)).trans hr) (fun i hi => (hq2.2.2.2 67 _ (by omega) (by omega) (by omega)).trans (hX i hi)) (sLk v o X N 31 0 (bAll (vn v)) (vFirst v (bAll (vn v))) (-2) 1 1) (fun I' L' g => ⟨fun a b h1 h2 h3 h4 h5 => (g.1 a b h1 (fun z => by have := h5 z; omega)).trans (hq2.2.2.1 a b h1 h2 h3 (fun z => by have := h5 z; omega)), fun a b h1 h2 h3 h4 h5 => (g.2.1 a b h1).trans (hq2.2.2.2 a b h2 h3 h4), g.2.2.1, g.2.2.2⟩) (by omega) 31 0 (bAll (vn v)) (vFirst v (bAll (vn v))) (-2) 1 1 (xI (xI J 44 29 (-2 : Int32)) 44 30 (-2 : Int32)) (xL (xL L1 44 31 (1 : Int64)) 44 32 (1 : Int64)) rfl (tOk_start hv) (fun x b h1 h2 => ho x b (fun z => by have := h2 z.1; omega)) (fun x b hx => by rw [xL_ne (by omega), xL_ne (by omega)]) ((xI_ne (by omega)).trans xI_eq) xI_eq (Or.inl rfl) ((xL_ne (by omega)).trans xL_eq) xL_eq rfl
    rw [nI_0] at this
    exact this
  refine bE 0 (cAll9 hn hM1.1) (by omega) ⟨fun c => go _ ?_, fun c => go _ ?_⟩
  · exact mFirst hv hM1
  · have c : vn v = 0 := by
      rw [hM1.1] at c
      exact nI_inj (by omega) (by omega) (c.trans nI_0.symm)
    rw [vFirst_none c, nI_0]
/-! judge, chance -/
theorem sLk_j : ∀ f k s w wr A B (X : Nat → Int64) N, (sLk v o X N f k s w wr A B).1 = -2 ∨ ((∃ j, j ≤ k + f ∧ (sLk v o X N f k s w wr A B).1 = nI j) ∧ (sLk v o X N f k s w wr A B).2.1 = -2 ∧ (sLk v o X N f k s w wr A B).2.2.1 = 0 ∧ (sLk v o X N f k s w wr A B).2.2.2 = 1)
  | 0, k, s, w, wr, A, B, X, N => Or.inl rfl
  | f + 1, k, s, w, wr, A, B, X, N => by
    unfold sLk
    by_cases c1 : N ≤ 2 * k
    · rw [if_pos c1]
      exact Or.inl rfl
    rw [if_neg c1]
    by_cases c2 : N ≤ 2 * k + 1
    · rw [if_pos c2]
      exact Or.inr ⟨⟨k, by omega, rfl⟩, rfl, rfl, rfl⟩
    rw [if_neg c2]
    by_cases c3 : sCan v o s w k (X (2 * k)) (X (2 * k + 1))
    · rw [if_pos c3]
      rcases sLk_j f (k + 1) (sHs s (eA (X (2 * k))) (X (2 * k + 1))) (vFol v w (sHs s (eA (X (2 * k))) (X (2 * k + 1)))) (sHw v o k s w (eA (X (2 * k))) wr) (sHa v o k s w (eA (X (2 * k))) (X (2 * k + 1)) A) (sHb (eA (X (2 * k))) B) X N with h | ⟨⟨j, h1, h2⟩, h3⟩
      · exact Or.inl h
      · exact Or.inr ⟨⟨j, by omega, h2⟩, h3⟩
    · rw [if_neg c3]
      exact Or.inr ⟨⟨k, by omega, rfl⟩, rfl, rfl, rfl⟩
/-- a shelf's content: no ROW of bytes, and what both call it; or one -/
theorem shelf8 {nb q : Nat} {I : zIM} {L : zLM} (hb : nb ≤ 50) (hq : q < 6) (hSh : rSh nb I L) :
    (I (31 + 2 * q) 0 = -2 ∧ I 65 q = -1) ∨ (¬ I (31 + 2 * q) 0 = 0 ∧ ¬ I (31 + 2 * q) 0 = -2 ∧ 0 ≤ I 65 q ∧ ¬ I 65 q = 50) ∨ (∃ n, n ≤ 60 ∧ I (31 + 2 * q) 0 = 0 ∧ I (31 + 2 * q) 2 = nI n ∧ I 65 q = 50 ∧ I 66 q = nI n ∧ ∀ i, i < n → L 67 (60 * q + i) = L (32 + 2 * q) i) := by
  rcases hSh q hq with ⟨a, b⟩ | ⟨c, c1, c2, c3, c4⟩ | ⟨s, n, s5, n6, a1, a2, a3, a4, a5⟩
  · exact Or.inl ⟨a, b⟩
  · refine Or.inr (Or.inl ⟨by rw [c2]; decide, by rw [c2]; decide, by rw [c4]; exact nI_pos' (by omega), fun z => ?_⟩)
    rw [c4] at z
    have := nI_inj (b := 50) (by omega) (by omega) z
    omega
  · by_cases h0 : s = 0
    · subst h0
      exact Or.inr (Or.inr ⟨n, n6, a1.trans nI_0, a2, a3, a4, fun i hi => (a5 i hi).symm⟩)
    · refine Or.inr (Or.inl ⟨by rw [a1]; exact nI_ne0 (by omega) (by omega), by rw [a1]; exact nI_ne2 (by omega), by rw [a3]; exact nI_pos' (by omega), fun z => ?_⟩)
      rw [a3] at z
      have := nI_inj (b := 50) (by omega) (by omega) z
      omega
/-- what both sides say of a ROW of bytes -/
noncomputable def sTold (v : Vw) (o : Lw) (L : zLM) (q n : Nat) : Int32 × Int32 × Nat × Nat := sLk v o (L (32 + 2 * q)) n 31 0 (bAll (vn v)) (vFirst v (bAll (vn v))) (-2) 1 1
theorem cTo {I : zIM} {L : zLM} (hv : vOk v) (hG : cG v I) (hF : cF v I) (hL : rLaw o I) (hN : rNum v o I) {q n : Nat} (hq : q < 6) (hn6 : n ≤ 60) (hr : I (31 + 2 * q) 2 = nI n) {d0 : Nat} (hd : 9 ≤ d0) {K : zIM → zLM → Prop} (hK : ∀ I' L', oC2 I I' → oCL2 L L' → rNum v o I' → I' 21 0 = (sTold v o L q n).1 → I' 21 1 = (sTold v o L q n).2.1 → L' 21 2 = lN (sTold v o L q n).2.2.1 → L' 21 3 = lN (sTold v o L q n).2.2.2 → K I' L') :
    ∃ (d7 : Nat) (P7 : zIM → zLM → Prop), d7 + 1 ≤ d0 ∧ zCv l G d7 mX4_solve [.ref 14] I L P7 ∧ ∀ (I7 : zIM) (L7 : zLM), P7 I7 L7 → (∃ (d8 : Nat) (P8 : zIM → zLM → Prop), d8 + 1 ≤ d0 ∧ zCv l G d8 mX7_look [.ref 21, .ref (31 + 2 * q)] I7 L7 P8 ∧ ∀ (I8 : zIM) (L8 : zLM), P8 I8 L8 → K I8 L8) := by
  refine ⟨8, _, by omega, cSolve hv hF hG hL hN (Nat.le_refl 8), fun I7 L7 hq7 => ⟨5, _, by omega, cLook hv (hq7.2.2.2.1.gG hG) (hq7.2.2.2.1.gF hF) hq7.2.1 (fun t m a b ha => sNum_le hv hL ha) hq7.1 hq hn6 ((hq7.2.2.2.1 _ _ (by omega) (by omega) (by omega) (by omega) (by omega)).trans hr) (Nat.le_refl 5), ?_⟩⟩
  rintro I8 L8 ⟨g1, g2, g3, g4, g5, g6⟩
  have eL : L7 (32 + 2 * q) = L (32 + 2 * q) := funext fun i => hq7.2.2.2.2 _ _ (by omega)
  rw [eL] at g3 g4 g5 g6
  refine hK I8 L8 (fun a b h1 h2 h3 h4 h5 h6 h7 => (g1 a b h4).trans (hq7.2.2.2.1 a b h1 h2 h3 h6 h7)) (fun a b h1 h2 h3 h4 h5 => (g2 a b h5).trans (hq7.2.2.2.2 a b h3)) (hq7.num.off (g1 _ _ (by omega)) (fun b => g1 19 b (by omega))) g3 g4 g5 g6
theorem s_judge (x1 x2 : Int32) : zStep l G mX8_judge mX9_judge [.int x1, .int x2] := by
  refine zStep_of fun v o nb I L hR => ?_
  obtain ⟨hv, hG, hF, hM, hLw, hNm, -, -, -, -, hBd, -, hSh⟩ := id hR
  have hn := hv.1
  by_cases h1 : iN x1 0 5
  rotate_left
  · exact ⟨-1, t_X8_judge (bBf 0 (cWithin8 _ 5 (by omega)) (by omega) h1 ⟨fun _ => qC.of rfl hNm, fun c => absurd rfl c⟩), fun I1 L1 hR1 _ _ => t_X9_judge (bBf 1 (cIsShelf9 _ (by omega)) (by omega) h1 ⟨fun _ => qM.of rfl, fun c => absurd rfl c⟩)⟩
  by_cases h2 : iN x2 0 1
  rotate_left
  · exact ⟨-1, t_X8_judge (bBt 0 (cWithin8 _ 5 (by omega)) (by omega) h1 ⟨fun c => absurd c i1_0, fun _ => bBf 0 (cWithin8 _ 1 (by omega)) (by omega) h2 ⟨fun c => absurd rfl c, fun _ => qC.of rfl hNm⟩⟩), fun I1 L1 hR1 _ _ => t_X9_judge (bBt 1 (cIsShelf9 _ (by omega)) (by omega) h1 ⟨fun c => absurd c i1_0, fun _ => bBf 0 (cWithin9 _ 0 1 (by omega) (by omega)) (by omega) h2 ⟨fun c => absurd rfl c, fun _ => qM.of rfl⟩⟩)⟩
  obtain ⟨q, -, hq, rfl⟩ := id h1
  rcases shelf8 hBd.1 (show q < 6 by omega) hSh with ⟨a1, a2⟩ | ⟨a1, a2, a3, a4⟩ | ⟨n, n6, a1, a2, a3, a4, a5⟩
  · refine ⟨-11, t_X8_judge (bBt 0 (cWithin8 _ 5 (by omega)) (by omega) h1 ⟨fun c => absurd c i1_0, fun _ => bBt 0 (cWithin8 _ 1 (by omega)) (by omega) h2 ⟨fun _ => ⟨q, rfl, by omega, fun c => absurd c (by rw [a1]; decide), fun _ => ⟨fun c => absurd a1 c, fun _ => qC.of rfl hNm⟩⟩, fun c => absurd c i1_0⟩⟩), fun I1 L1 hR1 g1 g2 => t_X9_judge (bBt 1 (cIsShelf9 _ (by omega)) (by omega) h1 ⟨fun c => absurd c i1_0, fun _ => bBt 0 (cWithin9 _ 0 1 (by omega) (by omega)) (by omega) h2 ⟨fun _ => ⟨q, rfl, by omega, fun c => absurd c ?_, fun _ => qM.of rfl⟩, fun c => absurd c i1_0⟩⟩)⟩
    rw [g1 65 q (by omega) (by omega) (by omega) (by omega) (by omega) (by omega) (by omega), a2]
    decide
  · refine ⟨-12, t_X8_judge (bBt 0 (cWithin8 _ 5 (by omega)) (by omega) h1 ⟨fun c => absurd c i1_0, fun _ => bBt 0 (cWithin8 _ 1 (by omega)) (by omega) h2 ⟨fun _ => ⟨q, rfl, by omega, fun c => absurd c a1, fun _ => ⟨fun _ => qC.of rfl hNm, fun c => absurd c a2⟩⟩, fun c => absurd c i1_0⟩⟩), fun I1 L1 hR1 g1 g2 => t_X9_judge (bBt 1 (cIsShelf9 _ (by omega)) (by omega) h1 ⟨fun c => absurd c i1_0, fun _ => bBt 0 (cWithin9 _ 0 1 (by omega) (by omega)) (by omega) h2 ⟨fun _ => ⟨q, rfl, by omega, ?_⟩, fun c => absurd c i1_0⟩⟩)⟩
    rw [g1 65 q (by omega) (by omega) (by omega) (by omega) (by omega) (by omega) (by omega)]
    exact ⟨fun _ => ⟨fun c => absurd c a4, fun _ => qM.of rfl⟩, fun c => absurd a3 c⟩
  · have hj := sLk_j (v := v) (o := o) 31 0 (bAll (vn v)) (vFirst v (bAll (vn v))) (-2) 1 1 (L (32 + 2 * q)) n
    refine ⟨if x2 = 0 then (sTold v o L q n).1 else (sTold v o L q n).2.1, t_X8_judge (bBt 0 (cWithin8 _ 5 (by omega)) (by omega) h1 ⟨fun c => absurd c i1_0, fun _ => bBt 0 (cWithin8 _ 1 (by omega)) (by omega) h2 ⟨fun _ => ⟨q, rfl, by omega, fun _ => cTo hv hG hF hLw hNm (by omega) n6 a2 (by omega) fun I' L' k1 k2 k3 k4 k5 k6 k7 => ⟨fun c => ⟨?_, k1, k2, k3⟩, fun c => ⟨?_, k1, k2, k3⟩⟩, fun c => absurd a1 c⟩, fun c => absurd c i1_0⟩⟩), fun I1 L1 hR1 g1 g2 => t_X9_judge (bBt 1 (cIsShelf9 _ (by omega)) (by omega) h1 ⟨fun c => absurd c i1_0, fun _ => bBt 0 (cWithin9 _ 0 1 (by omega) (by omega)) (by omega) h2 ⟨fun _ => ⟨q, rfl, by omega, ?_⟩, fun c => absurd c i1_0⟩⟩)⟩
    · rw [if_neg c, k5]
    · rw [if_pos c, k4]
    · have e65 : I1 65 q = 50 := (g1 65 q (by omega) (by omega) (by omega) (by omega) (by omega) (by omega) (by omega)).trans a3
      rw [e65]
      refine ⟨fun _ => ⟨fun _ => ⟨106, _, by omega, mLooks hv hR1.2.2.2.1 hR1.2.2.2.2.1 (fun t m a b ha => sNum_le hv hLw ha) (show q < 6 by omega) n6 ((g1 66 q (by omega) (by omega) (by omega) (by omega) (by omega) (by omega) (by omega)).trans a4) (fun i hi => (g2 67 _ (by omega) (by omega) (by omega) (by omega) (by omega)).trans (a5 i hi)) (Nat.le_refl 106), ?_⟩, fun c => absurd rfl c⟩, fun c => absurd (by decide) c⟩
      rintro I8 L8 ⟨m1, m2, m3, m4⟩
      rw [m3]
      refine ⟨fun c => ⟨fun c2 => ⟨?_, m1, m2⟩, fun c2 => ⟨?_, m1, m2⟩⟩, fun c => ⟨?_, m1, m2⟩⟩
      · rcases hj with hj | ⟨⟨j, j1, j2⟩, j3⟩
        · rw [if_neg c, (m4 hj).1]
          rfl
        · rw [j2] at c2
          exact absurd c2 (nI_pos (by omega))
      · rcases hj with hj | ⟨⟨j, j1, j2⟩, j3⟩
        · rw [hj] at c2
          exact absurd (by decide) c2
        · rw [if_neg c]
          exact j3.1
      · rw [if_pos c]
        rfl
theorem s_chance (x1 x2 : Int32) : zStepL l G mX8_chance mX9_chance [.int x1, .int x2] := by
  refine zStepL_of fun v o nb I L hR => ?_
  obtain ⟨hv, hG, hF, hM, hLw, hNm, -, -, -, -, hBd, -, hSh⟩ := id hR
  have hn := hv.1
  by_cases h1 : iN x1 0 5
  rotate_left
  · exact ⟨-9223372036854775808, t_X8_chance (bBf 0 (cWithin8 _ 5 (by omega)) (by omega) h1 ⟨fun _ => qC.of rfl hNm, fun c => absurd rfl c⟩), fun I1 L1 hR1 _ _ => t_X9_chance (bBf 1 (cIsShelf9 _ (by omega)) (by omega) h1 ⟨fun _ => qM.of rfl, fun c => absurd rfl c⟩)⟩
  by_cases h2 : iN x2 0 1
  rotate_left
  · exact ⟨-9223372036854775808, t_X8_chance (bBt 0 (cWithin8 _ 5 (by omega)) (by omega) h1 ⟨fun c => absurd c i1_0, fun _ => bBf 0 (cWithin8 _ 1 (by omega)) (by omega) h2 ⟨fun _ => qC.of rfl hNm, fun c => absurd rfl c⟩⟩), fun I1 L1 hR1 _ _ => t_X9_chance (bBt 1 (cIsShelf9 _ (by omega)) (by omega) h1 ⟨fun c => absurd c i1_0, fun _ => bBf 0 (cWithin9 _ 0 1 (by omega) (by omega)) (by omega) h2 ⟨fun _ => qM.of rfl, fun c => absurd rfl c⟩⟩)⟩
  obtain ⟨q, -, hq, rfl⟩ := id h1
  have hx2 : x2 = 0 ∨ x2 = 1 := by
    obtain ⟨j, -, hj, rfl⟩ := id h2
    rcases (by omega : j = 0 ∨ j = 1) with rfl | rfl
    · exact Or.inl rfl
    · exact Or.inr rfl
  have no : ¬ I (31 + 2 * q) 0 = 0 → ¬ I 65 q = 50 → ∃ e, zCl l G 900 mX8_chance [.ref 0, .int (nI q), .int x2] I L (qC e v o I L) ∧ ∀ I1 L1, RelV v o nb I1 L1 → oC2 I I1 → oCL2 L L1 → zCl l G 900 mX9_chance [.ref 44, .int (nI q), .int x2] I1 L1 (qM e I1 L1) := by
    intro b1 b2
    refine ⟨-9223372036854775808, t_X8_chance (bBt 0 (cWithin8 _ 5 (by omega)) (by omega) h1 ⟨fun c => absurd c i1_0, fun _ => bBt 0 (cWithin8 _ 1 (by omega)) (by omega) h2 ⟨fun c => absurd c i1_0, fun _ => ⟨q, rfl, by omega, fun c => absurd c b1, fun _ => qC.of rfl hNm⟩⟩⟩), fun I1 L1 hR1 g1 g2 => t_X9_chance (bBt 1 (cIsShelf9 _ (by omega)) (by omega) h1 ⟨fun c => absurd c i1_0, fun _ => bBt 0 (cWithin9 _ 0 1 (by omega) (by omega)) (by omega) h2 ⟨fun c => absurd c i1_0, fun _ => ⟨q, rfl, by omega, fun c => absurd c ?_, fun _ => qM.of rfl⟩⟩⟩)⟩
    rw [g1 65 q (by omega) (by omega) (by omega) (by omega) (by omega) (by omega) (by omega)]
    exact b2
  rcases shelf8 hBd.1 (show q < 6 by omega) hSh with ⟨a1, a2⟩ | ⟨a1, a2, a3, a4⟩ | ⟨n, n6, a1, a2, a3, a4, a5⟩
  · exact no (by rw [a1]; decide) (by rw [a2]; decide)
  · exact no a1 a4
  · have hj := sLk_j (v := v) (o := o) 31 0 (bAll (vn v)) (vFirst v (bAll (vn v))) (-2) 1 1 (L (32 + 2 * q)) n
    have hb : (sTold v o L q n).2.2.1 ≤ 12 ^ 9 ∧ (sTold v o L q n).2.2.2 ≤ 12 ^ 9 ∧ 0 < (sTold v o L q n).2.2.2 := sLk_bd hv (fun t m a b ha => sNum_le hv hLw ha) 31 0 _ _ _ _ _ (tOk_start hv) (Nat.zero_le _) (Nat.le_refl 1) (Nat.le_refl 1) (by omega)
    have p9 : (12 : Nat) ^ 9 < 2 ^ 48 := by decide
    refine ⟨sPrt (sTold v o L q n).2.2.1 (sTold v o L q n).2.2.2 x2, t_X8_chance (bBt 0 (cWithin8 _ 5 (by omega)) (by omega) h1 ⟨fun c => absurd c i1_0, fun _ => bBt 0 (cWithin8 _ 1 (by omega)) (by omega) h2 ⟨fun c => absurd c i1_0, fun _ => ⟨q, rfl, by omega, fun _ => cTo hv hG hF hLw hNm (by omega) n6 a2 (by omega) fun I' L' k1 k2 k3 k4 k5 k6 k7 => ?_, fun c => absurd a1 c⟩⟩⟩), fun I1 L1 hR1 g1 g2 => t_X9_chance (bBt 1 (cIsShelf9 _ (by omega)) (by omega) h1 ⟨fun c => absurd c i1_0, fun _ => bBt 0 (cWithin9 _ 0 1 (by omega) (by omega)) (by omega) h2 ⟨fun c => absurd c i1_0, fun _ => ⟨q, rfl, by omega, ?_⟩⟩⟩)⟩
    · rw [k6, k7]
      exact bL 1 (cLowest (by omega) (by omega) hb.2.2 (Nat.le_refl 1)) (by omega) ⟨rfl, k1, k2, k3⟩
    · have e65 : I1 65 q = 50 := (g1 65 q (by omega) (by omega) (by omega) (by omega) (by omega) (by omega) (by omega)).trans a3
      rw [e65]
      refine ⟨fun _ => ⟨106, _, by omega, mLooks hv hR1.2.2.2.1 hR1.2.2.2.2.1 (fun t m a b ha => sNum_le hv hLw ha) (show q < 6 by omega) n6 ((g1 66 q (by omega) (by omega) (by omega) (by omega) (by omega) (by omega) (by omega)).trans a4) (fun i hi => (g2 67 _ (by omega) (by omega) (by omega) (by omega) (by omega)).trans (a5 i hi)) (Nat.le_refl 106), ?_⟩, fun c => absurd rfl c⟩
      rintro I8 L8 ⟨m1, m2, m3, m4⟩
      rw [m3]
      have m4 : (sTold v o L q n).1 = -2 → I8 44 30 = (sTold v o L q n).2.1 ∧ L8 44 31 = lN (sTold v o L q n).2.2.1 ∧ L8 44 32 = lN (sTold v o L q n).2.2.2 := m4
      refine ⟨fun c2 => ?_, fun c2 => ⟨?_, m1, m2⟩⟩
      · rcases hj with hj | ⟨⟨j, j1, j2⟩, j3⟩
        · obtain ⟨-, r2, r3⟩ := m4 hj
          have hg0 := Nat.gcd_pos_of_pos_right (sTold v o L q n).2.2.1 hb.2.2
          have hgl := Nat.gcd_le_right (sTold v o L q n).2.2.1 hb.2.2
          rw [r2, r3]
          refine bL 0 (mCommon (by omega) (by omega)) (by omega) ⟨fun c => ⟨l_nz hg0 (by omega), ?_, m1, m2⟩, fun c => ⟨l_nz hg0 (by omega), ?_, m1, m2⟩⟩
          · rw [r3, sPrt, if_neg c]
          · rw [r2, sPrt, if_pos c]
        · rw [j2] at c2
          exact absurd c2 (nI_pos (by omega))
      · rcases hj with hj | ⟨⟨j, j1, j2⟩, j3, j4, j5⟩
        · rw [hj] at c2
          exact absurd (by decide) c2
        · have e1 : (sTold v o L q n).2.2.1 = 0 := j4
          have e2 : (sTold v o L q n).2.2.2 = 1 := j5
          rw [e1, e2]
          rcases hx2 with rfl | rfl <;> decide
end TR
