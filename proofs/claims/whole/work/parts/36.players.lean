/-! ===== public call: players ===== -/
theorem l_nat {x : Int64} {n : Nat} (hn : n < 2 ^ 31) (h0 : ¬ x < 0) (h1 : ¬ lN n < x) : ∃ k, k ≤ n ∧ x = lN k := by
  have a : (0 : Int) ≤ x.toInt := by
    have := Int64.not_lt.mp h0
    simpa using Int64.le_iff_toInt_le.mp this
  have b : x.toInt ≤ (n : Int) := by
    have := Int64.not_lt.mp h1
    rw [Int64.le_iff_toInt_le, lN_toInt hn] at this
    exact this
  refine ⟨x.toInt.toNat, by omega, ?_⟩
  apply Int64.toInt_inj.mp
  rw [lN_toInt (by omega)]
  omega
theorem l_in {k n : Nat} (hn : n < 2 ^ 31) (h : k ≤ n) : ¬ lN k < 0 ∧ ¬ lN n < lN k := by
  constructor
  · rw [Int64.lt_iff_toInt_lt, lN_toInt (by omega), Int64.toInt_zero]; omega
  · rw [Int64.lt_iff_toInt_lt, lN_toInt hn, lN_toInt (by omega)]; omega
theorem l_32 : ∀ k, k < 13 → (lN k).toInt32 = nI k := by decide +kernel
/-- a ROW's element as a number -/
def eN (L : zLM) (q i : Nat) : Nat := (L (32 + 2 * q) i).toInt.toNat
theorem eN_of {L : zLM} {q i k : Nat} (hk : k < 2 ^ 31) (h : L (32 + 2 * q) i = lN k) : eN L q i = k := by
  unfold eN
  rw [h, lN_toInt hk]
  rfl
/-- the j-th more can come -/
def pGo (v : Vw) (L : zLM) (q n a c j : Nat) : Prop := j < c ∧ a + 2 * j + 1 < n ∧ vn v + j < 4 ∧ ∃ h y, h ≤ 12 ∧ y ≤ 5 ∧ L (32 + 2 * q) (a + 2 * j) = lN h ∧ L (32 + 2 * q) (a + 2 * j + 1) = lN y
def pV (v : Vw) (L : zLM) (q a : Nat) : Nat → Vw
  | 0 => v
  | k + 1 => vCome (pV v L q a k) (eN L q (a + 2 * k)) (eN L q (a + 2 * k + 1))
theorem pV_n {v : Vw} {L : zLM} {q a : Nat} : ∀ k, vn (pV v L q a k) = vn v + k
  | 0 => rfl
  | k + 1 => by
    show vn (pV v L q a k) + 1 = _
    rw [pV_n k]
    omega
theorem pV_ok {v : Vw} {L : zLM} {q n a c : Nat} (hv : vOk v) : ∀ k, (∀ j, j < k → pGo v L q n a c j) → vOk (pV v L q a k)
  | 0, _ => hv
  | k + 1, h => by
    obtain ⟨_, _, h3, hh, hy, h4, h5, h6, h7⟩ := h k (Nat.lt_succ_self k)
    refine vCome_ok (pV_ok hv k fun j hj => h j (by omega)) (by rw [pV_n]; exact h3) ?_ ?_
    · rw [eN_of (by omega) h6]; exact h4
    · rw [eN_of (by omega) h7]; exact h5
/-- the class, when k came -/
def pC (v : Vw) (L : zLM) (q a k : Nat) (I0 I : zIM) : Prop := cG (pV v L q a k) I ∧ cF (pV v L q a k) I ∧ (∀ x b, 9 ≤ x → ¬ (x = 20 ∧ b < 5) → ¬ (x = 14 ∧ b = 8) → I x b = I0 x b) ∧ (k = 0 → I = I0) ∧ (0 < k → I 14 8 = 0 ∧ I 20 0 = nI (bAll (vn v + k)) ∧ I 20 1 = 0 ∧ I 20 2 = nI (vFirst (pV v L q a k) (bAll (vn v + k))) ∧ I 20 4 = 0)
/-- the reference, when k came -/
def pM (v : Vw) (L : zLM) (q a k : Nat) (I0 I : zIM) : Prop := mG (pV v L q a k) I ∧ (∀ x b, x ≠ 45 → x ≠ 49 → x ≠ 50 → (x = 44 → b ≠ 6 ∧ b ≠ 33 ∧ b ≠ 34 ∧ b ≠ 35 ∧ b ≠ 36) → I x b = I0 x b) ∧ (k = 0 → I = I0) ∧ (0 < k → I 44 36 = 0 ∧ I 44 33 = nI (bAll (vn v + k)) ∧ I 44 35 = 0 ∧ I 44 34 = nI (vFirst (pV v L q a k) (bAll (vn v + k))))
section PQ
variable {l : Launch} {G : zG}
theorem nI_2k (a k : Nat) : nI a + (2 : Int32) * nI k = nI (a + 2 * k) := by rw [show (2 : Int32) * nI k = nI (2 * k) from nI_mul 2 k, nI_add]
theorem cPl8 {d q n a c : Nat} {I0 : zIM} {L : zLM} {v : Vw} {P : Int32 → zIM → zLM → Prop} (hq : q < 6) (hv : vOk v) (hn : n ≤ 60) (ha : a < 2 ^ 31) (hc : c ≤ 4) (hd : 4 ≤ d) (hP : ∀ k I, (∀ j, j < k → pGo v L q n a c j) → ¬ pGo v L q n a c k → pC v L q a k I0 I → P (nI k) I L) : ∀ f k (I : zIM), f + k = c → (∀ j, j < k → pGo v L q n a c j) → pC v L q a k I0 I → K_X8_players_77 l G d P I L q (nI a) (nI c) (nI n - nI a) (nI k)
  | 0, k, I, hf, hg, hC => by
    refine t_X8_players_77 hq ⟨fun _ => hP k I hg (fun z => absurd z.1 (by omega)) hC, fun z => absurd (nI_le (by omega) (by omega)) z⟩
  | f + 1, k, I, hf, hg, hC => by
    obtain ⟨hG, hF, ho, h0, h1⟩ := hC
    have hC : pC v L q a k I0 I := ⟨hG, hF, ho, h0, h1⟩
    have e2 : (2 : Int32) * nI k + 1 = nI (2 * k + 1) := by rw [show (2 : Int32) * nI k = nI (2 * k) from nI_mul 2 k, nI_1]
    have eN1 : I 1 6 = nI (vn v + k) := by rw [hG.1, pV_n]
    have v4 := (pV_ok hv k hg).1
    rw [pV_n] at v4
    refine t_X8_players_77 hq ⟨fun z => absurd z (nI_ge (by omega) (by omega)), fun _ => ⟨fun z => ?_, fun z => ⟨fun z2 => ?_, fun z2 => ?_⟩⟩⟩
    · rw [e2, Int32.le_iff_toInt_le, i_sub (by omega) ha, nI_toInt (by omega)] at z
      exact hP k I hg (fun g => by have := g.2.1; omega) hC
    · rw [eN1] at z2
      have := (nI_le_iff (a := 4) (by omega) (by omega)).mp z2
      exact hP k I hg (fun g => by have := g.2.2.1; omega) hC
    · rw [e2, Int32.le_iff_toInt_le, i_sub (by omega) ha, nI_toInt (by omega)] at z
      have z2' : ¬ 4 ≤ vn v + k := fun w => z2 (by rw [eN1]; exact nI_le (a := 4) w (by omega))
      have j1 : nI a + (2 : Int32) * nI k = nI (a + 2 * k) := nI_2k a k
      refine ⟨a + 2 * k, j1, by omega, a + 2 * k + 1, by rw [j1, nI_1], by omega, fun w1 => ?_, fun w1 => ⟨fun w2 => ?_, fun w2 => ⟨fun w3 => ?_, fun w3 => ⟨fun w4 => ?_, fun w4 => ?_⟩⟩⟩⟩
      · exact hP k I hg (fun g => by obtain ⟨_, _, _, h, y, p1, p2, p3, p4⟩ := g; rw [p3] at w1; exact (l_in (n := 12) (by omega) p1).1 w1) hC
      · exact hP k I hg (fun g => by obtain ⟨_, _, _, h, y, p1, p2, p3, p4⟩ := g; rw [p3] at w2; exact (l_in (n := 12) (by omega) p1).2 w2) hC
      · exact hP k I hg (fun g => by obtain ⟨_, _, _, h, y, p1, p2, p3, p4⟩ := g; rw [p4] at w3; exact (l_in (n := 5) (by omega) p2).1 w3) hC
      · obtain ⟨h, p1, p3⟩ := l_nat (n := 12) (by omega) w1 w2
        have w4' : ¬ lN 5 < L (32 + 2 * q) (a + 2 * k + 1) := by
          have w4 := Int64.lt_iff_toInt_lt.mp w4
          rw [show (6 : Int64).toInt = 6 from by decide] at w4
          rw [Int64.lt_iff_toInt_lt, lN_toInt (by omega)]
          omega
        obtain ⟨y, p2, p4⟩ := l_nat (n := 5) (by omega) w3 w4'
        have g : pGo v L q n a c k := ⟨by omega, by omega, by omega, h, y, p1, p2, p3, p4⟩
        have hg' : ∀ j, j < k + 1 → pGo v L q n a c j := fun j hj => by
          by_cases e : j = k
          · subst e; exact g
          · exact hg j (by omega)
        rw [p3, p4, l_32 h (by omega), l_32 y (by omega)]
        refine ⟨3, _, hd, cCome8 (pV_ok hv k hg) hG (by rw [pV_n]; omega) p1 p2 (Nat.le_refl 3), ?_⟩
        rintro r _ L1 ⟨-, I1, hqc, rfl⟩
        obtain ⟨-, hL, ho1, hG1, hF1⟩ := hqc
        subst hL
        rw [nI_1]
        have eV : pV v L1 q a (k + 1) = vCome (pV v L1 q a k) h y := by
          show vCome _ (eN L1 q (a + 2 * k)) (eN L1 q (a + 2 * k + 1)) = _
          rw [eN_of (by omega) p3, eN_of (by omega) p4]
        have eVn : vn (vCome (pV v L1 q a k) h y) = vn v + (k + 1) := by rw [← eV, pV_n]
        have k1 : ∀ a' b, ¬ (a' = 20 ∧ b < 5) → ¬ (a' = 14 ∧ b = 8) → xI (cSt (vCome (pV v L1 q a k) h y) (xI I1 14 8 0)) 20 4 0 a' b = I1 a' b := fun a' b h1 h2 => by rw [xI_ne (by omega), cSt_ne (by omega), xI_ne (by omega)]
        refine cPl8 hq hv hn ha hc hd hP f (k + 1) _ (by omega) hg' ⟨?_, ?_, fun x b q1 q2 q3 => ?_, fun z => absurd z (by omega), fun _ => ⟨?_, ?_, ?_, ?_, ?_⟩⟩
        · rw [eV]; exact hG1.off fun x b _ _ => k1 x b (by omega) (by omega)
        · rw [eV]; exact hF1.off fun b => k1 8 b (by omega) (by omega)
        · rw [k1 x b q2 q3, ho1 x b (by omega)]; exact ho x b q1 q2 q3
        · rw [xI_ne (by omega), cSt_ne (by omega), xI_eq]
        · rw [xI_ne (by omega), ← eVn]; rfl
        · rw [xI_ne (by omega)]; rfl
        · rw [xI_ne (by omega), eV, ← eVn]; rfl
        · exact xI_eq
      · refine hP k I hg (fun g => ?_) hC
        obtain ⟨_, _, _, h, y, p1, p2, p3, p4⟩ := g
        refine w4 ?_
        rw [p4, Int64.lt_iff_toInt_lt, lN_toInt (by omega), show (6 : Int64).toInt = 6 from by decide]
        omega
end PQ
section PR
variable {l : Launch} {G : zG}
theorem i_sub3 {n m : Nat} (hn : n ≤ 60) (hm : m ≤ 60) : (nI n - (2 : Int32) - nI m).toInt = (n : Int) - 2 - m := by
  rw [Int32.toInt_sub, show (2 : Int32) = nI 2 from rfl, i_sub (by omega) (by omega), nI_toInt (by omega)]
  apply Int.bmod_eq_of_le <;> omega
theorem cIsOneL (x1 x2 : Int64) {d : Nat} {I : zIM} {L : zLM} (hd : 1 ≤ d) : zCi l G d mX9_isOne [.long x1, .long x2] I L (zB ((∃ h, h ≤ 12 ∧ x1 = lN h) ∧ ∃ y, y ≤ 5 ∧ x2 = lN y) I L) := by
  have one : ¬ (1 : Int32) = 0 := by decide
  have w : ∀ (x : Int64) (n : Nat), n < 2 ^ 31 → zCi l G 0 mX9_within [.long x, .long (lN 0), .long (lN n)] I L (zB (∃ h, h ≤ n ∧ x = lN h) I L) := fun x n hn =>
    t_X9_within ⟨fun c => zB.n fun ⟨h, h1, h2⟩ => by rw [h2] at c; exact (l_in hn h1).1 c, fun c => ⟨fun c2 => zB.n fun ⟨h, h1, h2⟩ => by rw [h2] at c2; exact (l_in hn h1).2 c2, fun c2 => zB.y (l_nat hn c c2)⟩⟩
  refine t_X9_isOne ⟨0, _, hd, w x1 12 (by omega), ?_⟩
  rintro y _ _ ⟨hy, rfl, rfl⟩
  by_cases h1 : ∃ h, h ≤ 12 ∧ x1 = lN h
  · obtain rfl := zB_t hy h1
    refine ⟨fun c => absurd c one, fun _ => ⟨0, _, hd, w x2 5 (by omega), ?_⟩⟩
    rintro y _ _ ⟨hy, rfl, rfl⟩
    by_cases h2 : ∃ y, y ≤ 5 ∧ x2 = lN y
    · obtain rfl := zB_t hy h2
      exact ⟨fun c => absurd c one, fun _ => zB.y ⟨h1, h2⟩⟩
    · obtain rfl := zB_f hy h2
      exact ⟨fun _ => zB.n fun z => h2 z.2, fun c => absurd rfl c⟩
  · obtain rfl := zB_f hy h1
    exact ⟨fun _ => zB.n fun z => h1 z.1, fun c => absurd rfl c⟩
theorem cPl9_step {d q s n a c i : Nat} {I0 I : zIM} {L : zLM} {v : Vw} {P : Int32 → zIM → zLM → Prop} (hq : q < 6) (hv : vOk v) (hr : rRow q s n I0 L) (ha : a < 2 ^ 31) (hc : c ≤ 4) (hi : i ≤ 4) (hd : 4 ≤ d) (hg : ∀ j, j < i → pGo v L q n a c j) (hM : pM v L q a i I0 I)
    (stop : ¬ pGo v L q n a c i → P (nI i) I L) (next : pGo v L q n a c i → ∀ I', pM v L q a (i + 1) I0 I' → K_X9_players_69 l G d P I' L (nI q) (nI a) (nI c) (nI (i + 1)) 1) : K_X9_players_69 l G d P I L (nI q) (nI a) (nI c) (nI i) 1 := by
  have one : ¬ (1 : Int32) = 0 := by decide
  obtain ⟨hG, ho, h0, h1⟩ := hM
  have hn := hr.2.1
  have e6 : I 44 6 = nI (vn v + i) := by rw [hG.1, pV_n]
  have v4 := (pV_ok hv i hg).1
  rw [pV_n] at v4
  have e66 : I 66 q = nI n := (ho 66 q (by omega) (by omega) (by omega) (by omega)).trans hr.2.2.2.2.2.1
  have e2 : (2 : Int32) * nI i = nI (2 * i) := nI_mul 2 i
  have out : ¬ pGo v L q n a c i → K_X9_players_69 l G d P I L (nI q) (nI a) (nI c) (nI i) 0 := fun z => t_X9_players_69 ⟨fun _ => stop z, fun z => absurd rfl z⟩
  refine t_X9_players_69 ⟨fun z => absurd z one, fun _ => ⟨fun z => stop fun g => ?_, fun z => ⟨q, rfl, hq, fun w => out fun g => ?_, fun w => ⟨fun u => out fun g => ?_, fun u => ?_⟩⟩⟩⟩
  · have := (nI_le_iff (by omega) (by omega)).mp z
    have := g.1
    omega
  · rw [e66, e2, Int32.lt_iff_toInt_lt, i_sub3 hn (by omega), nI_toInt ha] at w
    have := g.2.1
    omega
  · rw [e6] at u
    have := (nI_le_iff (a := 4) (by omega) (by omega)).mp u
    have := g.2.2.1
    omega
  · have z' : ¬ c ≤ i := fun y => z (nI_le y (by omega))
    rw [e66, e2, Int32.lt_iff_toInt_lt, i_sub3 hn (by omega), nI_toInt ha] at w
    have u' : ¬ 4 ≤ vn v + i := fun y => u (by rw [e6]; exact nI_le (a := 4) y (by omega))
    have j1 : (60 : Int32) * nI q + nI a + (2 : Int32) * nI i = nI (60 * q + a + 2 * i) := by rw [show (60 : Int32) * nI q = nI (60 * q) from nI_mul 60 q, nI_add, nI_2k]
    have r1 : L 67 (60 * q + a + 2 * i) = L (32 + 2 * q) (a + 2 * i) := by rw [hr.2.2.2.2.2.2 (a + 2 * i) (by omega), show 60 * q + (a + 2 * i) = 60 * q + a + 2 * i by omega]
    have r2 : L 67 (60 * q + a + 2 * i + 1) = L (32 + 2 * q) (a + 2 * i + 1) := by rw [hr.2.2.2.2.2.2 (a + 2 * i + 1) (by omega), show 60 * q + (a + 2 * i + 1) = 60 * q + a + 2 * i + 1 by omega]
    refine ⟨60 * q + a + 2 * i, j1, by omega, 60 * q + a + 2 * i + 1, by rw [j1, nI_1], by omega, 1, _, by omega, cIsOneL _ _ (Nat.le_refl 1), ?_⟩
    rintro y _ _ ⟨hy, rfl, rfl⟩
    rw [r1, r2] at hy
    by_cases h12 : (∃ h, h ≤ 12 ∧ L (32 + 2 * q) (a + 2 * i) = lN h) ∧ ∃ y, y ≤ 5 ∧ L (32 + 2 * q) (a + 2 * i + 1) = lN y
    · obtain rfl := zB_t hy h12
      obtain ⟨⟨h, p1, p3⟩, y, p2, p4⟩ := h12
      refine ⟨fun z => absurd z one, fun _ => ?_⟩
      rw [r1, r2, p3, p4, l_32 h (by omega), l_32 y (by omega)]
      refine ⟨2, _, by omega, cAdds9 (pV_ok hv i hg) hG (by rw [pV_n]; omega) p1 p2 (Nat.le_refl 2), ?_⟩
      rintro _ _ ⟨rfl, rfl⟩
      have g : pGo v L q n a c i := ⟨by omega, by omega, by omega, h, y, p1, p2, p3, p4⟩
      have eV : pV v L q a (i + 1) = vCome (pV v L q a i) h y := by
        show vCome _ (eN L q (a + 2 * i)) (eN L q (a + 2 * i + 1)) = _
        rw [eN_of (by omega) p3, eN_of (by omega) p4]
      have eVn : vn (vCome (pV v L q a i) h y) = vn v + (i + 1) := by rw [← eV, pV_n]
      have hM1 := mAd_m (h := h) (y := y) (pV_ok hv i hg) hG (by rw [pV_n]; omega)
      have f0 := mFirst (vCome_ok (pV_ok hv i hg) (by rw [pV_n]; omega) p1 p2) hM1
      have nx := next g (mSt (vCome (pV v L q a i) h y) (xI (mAd (pV v L q a i) I h y) 44 36 0)) ⟨?_, fun x b q1 q2 q3 q4 => ?_, fun z => absurd z (by omega), fun _ => ⟨?_, ?_, ?_, ?_⟩⟩
      · rw [nI_1]; exact nx
      · rw [eV]
        exact hM1.off (by rw [mSt_ne (by omega), xI_ne (by omega)]) (by rw [mSt_ne (by omega), xI_ne (by omega)]) (fun x b _ => by rw [mSt_ne (by omega), xI_ne (by omega)])
      · rw [mSt_ne (by omega), xI_ne (by omega), mAd_ne (by omega) (by omega) (by omega)]; exact ho x b q1 q2 q3 q4
      · rw [mSt_ne (by omega), xI_eq]
      · rw [← eVn]; rfl
      · rfl
      · rw [eV, ← eVn, ← f0]
        show xI (mAd _ I h y) 44 36 0 49 0 = _
        exact xI_ne (by omega)
    · obtain rfl := zB_f hy h12
      refine ⟨fun _ => out fun g => ?_, fun z => absurd rfl z⟩
      obtain ⟨_, _, _, h, y, p1, p2, p3, p4⟩ := g
      exact h12 ⟨⟨h, p1, p3⟩, y, p2, p4⟩
theorem cPl9 {d q s n a c K : Nat} {I0 : zIM} {L : zLM} {v : Vw} {P : Int32 → zIM → zLM → Prop} (hq : q < 6) (hv : vOk v) (hr : rRow q s n I0 L) (ha : a < 2 ^ 31) (hc : c ≤ 4) (hd : 4 ≤ d) (hg : ∀ j, j < K → pGo v L q n a c j) (hK : ¬ pGo v L q n a c K) (hK4 : K ≤ 4) (hP : ∀ I, pM v L q a K I0 I → P (nI K) I L) : ∀ f i (I : zIM), f + i = K → pM v L q a i I0 I → K_X9_players_69 l G d P I L (nI q) (nI a) (nI c) (nI i) 1
  | 0, i, I, hf, hM => by
    obtain rfl : i = K := by omega
    exact cPl9_step hq hv hr ha hc hK4 hd hg hM (fun _ => hP I hM) (fun g => absurd g hK)
  | f + 1, i, I, hf, hM => cPl9_step hq hv hr ha hc (by omega) hd (fun j hj => hg j (by omega)) hM (fun z => absurd (hg i (by omega)) z) (fun _ I' hM' => cPl9 hq hv hr ha hc hd hg hK hK4 hP f (i + 1) I' (by omega) hM')
end PR
