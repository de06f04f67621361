/-! ===== public call: players ===== -/
theorem l_nat {x : Int64} {n : Nat} (hn : n < 2 ^ 31) (h0 : ¬ x < 0) (h1 : ¬ lN n < x) : ∃ k, k ≤ n ∧ x = lN k := by
  have a : (0 : Int) ≤ x.toInt := by
    have := Int64.not_lt.mp h0
    simpa using Int64.le_iff_toInt_le.mp this
  have b : x.toInt ≤ (n : Int) := by
    have := Int64.not_lt.mp h1
    rw [Int64.le_iff_toInt_le, lN_toInt hn] at this
    exact this
  refine ⟨x.toInt.toNat, by omega, ?_⟩
  apply Int64.toInt_inj.mp
  rw [lN_toInt (by omega)]
  omega
theorem l_in {k n : Nat} (hn : n < 2 ^ 31) (h : k ≤ n) : ¬ lN k < 0 ∧ ¬ lN n < lN k := by
  constructor
  · rw [Int64.lt_iff_toInt_lt, lN_toInt (by omega), Int64.toInt_zero]; omega
  · rw [Int64.lt_iff_toInt_lt, lN_toInt hn, lN_toInt (by omega)]; omega
theorem l_32 : ∀ k, k < 13 → (lN k).toInt32 = nI k := by decide +kernel
/-- a ROW's element as a number -/
def eN (L : zLM) (q i : Nat) : Nat := (L (32 + 2 * q) i).toInt.toNat
theorem eN_of {L : zLM} {q i k : Nat} (hk : k < 2 ^ 31) (h : L (32 + 2 * q) i = lN k) : eN L q i = k := by
  unfold eN
  rw [h, lN_toInt hk]
  rfl
/-- the j-th more can come -/
def pGo (v : Vw) (L : zLM) (q n a c j : Nat) : Prop := j < c ∧ a + 2 * j + 1 < n ∧ vn v + j < 4 ∧ ∃ h y, h ≤ 12 ∧ y ≤ 5 ∧ L (32 + 2 * q) (a + 2 * j) = lN h ∧ L (32 + 2 * q) (a + 2 * j + 1) = lN y
def pV (v : Vw) (L : zLM) (q a : Nat) : Nat → Vw
  | 0 => v
  | k + 1 => vCome (pV v L q a k) (eN L q (a + 2 * k)) (eN L q (a + 2 * k + 1))
theorem pV_n {v : Vw} {L : zLM} {q a : Nat} : ∀ k, vn (pV v L q a k) = vn v + k
  | 0 => rfl
  | k + 1 => by
    show vn (pV v L q a k) + 1 = _
    rw [pV_n k]
    omega
theorem pV_ok {v : Vw} {L : zLM} {q n a c : Nat} (hv : vOk v) : ∀ k, (∀ j, j < k → pGo v L q n a c j) → vOk (pV v L q a k)
  | 0, _ => hv
  | k + 1, h => by
    obtain ⟨_, _, h3, hh, hy, h4, h5, h6, h7⟩ := h k (Nat.lt_succ_self k)
    refine vCome_ok (pV_ok hv k fun j hj => h j (by omega)) (by rw [pV_n]; exact h3) ?_ ?_
    · rw [eN_of (by omega) h6]; exact h4
    · rw [eN_of (by omega) h7]; exact h5
/-- the class, when k came -/
def pC (v : Vw) (L : zLM) (q a k : Nat) (I0 I : zIM) : Prop := cG (pV v L q a k) I ∧ cF (pV v L q a k) I ∧ (∀ x b, 9 ≤ x → ¬ (x = 20 ∧ b < 5) → ¬ (x = 14 ∧ b = 8) → I x b = I0 x b) ∧ (k = 0 → I = I0) ∧ (0 < k → I 14 8 = 0 ∧ I 20 0 = nI (bAll (vn v + k)) ∧ I 20 1 = 0 ∧ I 20 2 = nI (vFirst (pV v L q a k) (bAll (vn v + k))) ∧ I 20 4 = 0)
/-- the reference, when k came -/
def pM (v : Vw) (L : zLM) (q a k : Nat) (I0 I : zIM) : Prop := mG (pV v L q a k) I ∧ (∀ x b, x ≠ 45 → x ≠ 49 → x ≠ 50 → (x = 44 → b ≠ 6 ∧ b ≠ 33 ∧ b ≠ 34 ∧ b ≠ 35 ∧ b ≠ 36) → I x b = I0 x b) ∧ (k = 0 → I = I0) ∧ (0 < k → I 44 36 = 0 ∧ I 44 33 = nI (bAll (vn v + k)) ∧ I 44 35 = 0 ∧ I 44 34 = nI (vFirst (pV v L q a k) (bAll (vn v + k))))
section PQ
variable {l : Launch} {G : zG}
theorem nI_2k (a k : Nat) : nI a + (2 : Int32) * nI k = nI (a + 2 * k) := by rw [show (2 : Int32) * nI k = nI (2 * k) from nI_mul 2 k, nI_add]
theorem cPl8 {d q n a c : Nat} {I0 : zIM} {L : zLM} {v : Vw} {P : Int32 → zIM → zLM → Prop} (hq : q < 6) (hv : vOk v) (hn : n ≤ 60) (ha : a < 2 ^ 31) (hc : c ≤ 4) (hd : 4 ≤ d) (hP : ∀ k I, (∀ j, j < k → pGo v L q n a c j) → ¬ pGo v L q n a c k → pC v L q a k I0 I → P (nI k) I L) : ∀ f k (I : zIM), f + k = c → (∀ j, j < k → pGo v L q n a c j) → pC v L q a k I0 I → K_X8_players_77 l G d P I L q (nI a) (nI c) (nI n - nI a) (nI k)
  | 0, k, I, hf, hg, hC => by
    refine t_X8_players_77 hq ⟨fun _ => hP k I hg (fun z => absurd z.1 (by omega)) hC, fun z => absurd (nI_le (by omega) (by omega)) z⟩
  | f + 1, k, I, hf, hg, hC => by
    obtain ⟨hG, hF, ho, h0, h1⟩ := hC
    have hC : pC v L q a k I0 I := ⟨hG, hF, ho, h0, h1⟩
    have e2 : (2 : Int32) * nI k + 1 = nI (2 * k + 1) := by rw [show (2 : Int32) * nI k = nI (2 * k) from nI_mul 2 k, nI_1]
    have eN1 : I 1 6 = nI (vn v + k) := by rw [hG.1, pV_n]
    have v4 := (pV_ok hv k hg).1
    rw [pV_n] at v4
    refine t_X8_players_77 hq ⟨fun z => absurd z (nI_ge (by omega) (by omega)), fun _ => ⟨fun z => ?_, fun z => ⟨fun z2 => ?_, fun z2 => ?_⟩⟩⟩
    · rw [e2, Int32.le_iff_toInt_le, i_sub (by omega) ha, nI_toInt (by omega)] at z
      exact hP k I hg (fun g => by have := g.2.1; omega) hC
    · rw [eN1] at z2
      have := (nI_le_iff (a := 4) (by omega) (by omega)).mp z2
      exact hP k I hg (fun g => by have := g.2.2.1; omega) hC
    · rw [e2, Int32.le_iff_toInt_le, i_sub (by omega) ha, nI_toInt (by omega)] at z
      have z2' : ¬ 4 ≤ vn v + k := fun w => z2 (by rw [eN1]; exact nI_le (a := 4) w (by omega))
      have j1 : nI a + (2 : Int32) * nI k = nI (a + 2 * k) := nI_2k a k
      refine ⟨a + 2 * k, j1, by omega, a + 2 * k + 1, by rw [j1, nI_1], by omega, fun w1 => ?_, fun w1 => ⟨fun w2 => ?_, fun w2 => ⟨fun w3 => ?_, fun w3 => ⟨fun w4 => ?_, fun w4 => ?_⟩⟩⟩⟩
      · exact hP k I hg (fun g => by obtain ⟨_, _, _, h, y, p1, p2, p3, p4⟩ := g; rw [p3] at w1; exact (l_in (n := 12) (by omega) p1).1 w1) hC
      · exact hP k I hg (fun g => by obtain ⟨_, _, _, h, y, p1, p2, p3, p4⟩ := g; rw [p3] at w2; exact (l_in (n := 12) (by omega) p1).2 w2) hC
      · exact hP k I hg (fun g => by obtain ⟨_, _, _, h, y, p1, p2, p3, p4⟩ := g; rw [p4] at w3; exact (l_in (n := 5) (by omega) p2).1 w3) hC
      · obtain ⟨h, p1, p3⟩ := l_nat (n := 12) (by omega) w1 w2
        have w4' : ¬ lN 5 < L (32 + 2 * q) (a + 2 * k + 1) := by
          have w4 := Int64.lt_iff_toInt_lt.mp w4
          rw [show (6 : Int64).toInt = 6 from by decide] at w4
          rw [Int64.lt_iff_toInt_lt, lN_toInt (by omega)]
          omega
        obtain ⟨y, p2, p4⟩ := l_nat (n := 5) (by omega) w3 w4'
        have g : pGo v L q n a c k := ⟨by omega, by omega, by omega, h, y, p1, p2, p3, p4⟩
        have hg' : ∀ j, j < k + 1 → pGo v L q n a c j := fun j hj => by
          by_cases e : j = k
          · subst e; exact g
          · exact hg j (by omega)
        rw [p3, p4, l_32 h (by omega), l_32 y (by omega)]
        refine ⟨3, _, hd, cCome8 (pV_ok hv k hg) hG (by rw [pV_n]; omega) p1 p2 (Nat.le_refl 3), ?_⟩
        rintro r _ L1 ⟨-, I1, hqc, rfl⟩
        obtain ⟨-, hL, ho1, hG1, hF1⟩ := hqc
        subst hL
        rw [nI_1]
        have eV : pV v L1 q a (k + 1) = vCome (pV v L1 q a k) h y := by
          show vCome _ (eN L1 q (a + 2 * k)) (eN L1 q (a + 2 * k + 1)) = _
          rw [eN_of (by omega) p3, eN_of (by omega) p4]
        have eVn : vn (vCome (pV v L1 q a k) h y) = vn v + (k + 1) := by rw [← eV, pV_n]
        have k1 : ∀ a' b, ¬ (a' = 20 ∧ b < 5) → ¬ (a' = 14 ∧ b = 8) → xI (cSt (vCome (pV v L1 q a k) h y) (xI I1 14 8 0)) 20 4 0 a' b = I1 a' b := fun a' b h1 h2 => by rw [xI_ne (by omega), cSt_ne (by omega), xI_ne (by omega)]
        refine cPl8 hq hv hn ha hc hd hP f (k + 1) _ (by omega) hg' ⟨?_, ?_, fun x b q1 q2 q3 => ?_, fun z => absurd z (by omega), fun _ => ⟨?_, ?_, ?_, ?_, ?_⟩⟩
        · rw [eV]; exact hG1.off fun x b _ _ => k1 x b (by omega) (by omega)
        · rw [eV]; exact hF1.off fun b => k1 8 b (by omega) (by omega)
        · rw [k1 x b q2 q3, ho1 x b (by omega)]; exact ho x b q1 q2 q3
        · rw [xI_ne (by omega), cSt_ne (by omega), xI_eq]
        · rw [xI_ne (by omega), ← eVn]; rfl
        · rw [xI_ne (by omega)]; rfl
        · rw [xI_ne (by omega), eV, ← eVn]; rfl
        · exact xI_eq
      · refine hP k I hg (fun g => ?_) hC
        obtain ⟨_, _, _, h, y, p1, p2, p3, p4⟩ := g
        refine w4 ?_
        rw [p4, Int64.lt_iff_toInt_lt, lN_toInt (by omega), show (6 : Int64).toInt = 6 from by decide]
        omega
end PQ
section PR
variable {l : Launch} {G : zG}
theorem i_sub3 {n m : Nat} (hn : n ≤ 60) (hm : m ≤ 60) : (nI n - (2 : Int32) - nI m).toInt = (n : Int) - 2 - m := by
  rw [Int32.toInt_sub, show (2 : Int32) = nI 2 from rfl, i_sub (by omega) (by omega), nI_toInt (by omega)]
  apply Int.bmod_eq_of_le <;> omega
theorem cIsOneL (x1 x2 : Int64) {d : Nat} {I : zIM} {L : zLM} (hd : 1 ≤ d) : zCi l G d mX9_isOne [.long x1, .long x2] I L (zB ((∃ h, h ≤ 12 ∧ x1 = lN h) ∧ ∃ y, y ≤ 5 ∧ x2 = lN y) I L) := by
  have one : ¬ (1 : Int32) = 0 := by decide
  have w : ∀ (x : Int64) (n : Nat), n < 2 ^ 31 → zCi l G 0 mX9_within [.long x, .long (lN 0), .long (lN n)] I L (zB (∃ h, h ≤ n ∧ x = lN h) I L) := fun x n hn =>
    t_X9_within ⟨fun c => zB.n fun ⟨h, h1, h2⟩ => by rw [h2] at c; exact (l_in hn h1).1 c, fun c => ⟨fun c2 => zB.n fun ⟨h, h1, h2⟩ => by rw [h2] at c2; exact (l_in hn h1).2 c2, fun c2 => zB.y (l_nat hn c c2)⟩⟩
  refine t_X9_isOne ⟨0, _, hd, w x1 12 (by omega), ?_⟩
  rintro y _ _ ⟨hy, rfl, rfl⟩
  by_cases h1 : ∃ h, h ≤ 12 ∧ x1 = lN h
  · obtain rfl := zB_t hy h1
    refine ⟨fun c => absurd c one, fun _ => ⟨0, _, hd, w x2 5 (by omega), ?_⟩⟩
    rintro y _ _ ⟨hy, rfl, rfl⟩
    by_cases h2 : ∃ y, y ≤ 5 ∧ x2 = lN y
    · obtain rfl := zB_t hy h2
      exact ⟨fun c => absurd c one, fun _ => zB.y ⟨h1, h2⟩⟩
    · obtain rfl := zB_f hy h2
      exact ⟨fun _ => zB.n fun z => h2 z.2, fun c => absurd rfl c⟩
  · obtain rfl := zB_f hy h1
    exact ⟨fun _ => zB.n fun z => h1 z.1, fun c => absurd rfl c⟩
theorem cPl9_step {d q s n a c i : Nat} {I0 I : zIM} {L : zLM} {v : Vw} {P : Int32 → zIM → zLM → Prop} (hq : q < 6) (hv : vOk v) (hr : rRow q s n I0 L) (ha : a < 2 ^ 31) (hc : c ≤ 4) (hi : i ≤ 4) (hd : 4 ≤ d) (hg : ∀ j, j < i → pGo v L q n a c j) (hM : pM v L q a i I0 I)
    (stop : ¬ pGo v L q n a c i → P (nI i) I L) (next : pGo v L q n a c i → ∀ I', pM v L q a (i + 1) I0 I' → K_X9_players_69 l G d P I' L (nI q) (nI a) (nI c) (nI (i + 1)) 1) : K_X9_players_69 l G d P I L (nI q) (nI a) (nI c) (nI i) 1 := by
  have one : ¬ (1 : Int32) = 0 := by decide
  obtain ⟨hG, ho, h0, h1⟩ := hM
  have hn := hr.2.1
  have e6 : I 44 6 = nI (vn v + i) := by rw [hG.1, pV_n]
  have v4 := (pV_ok hv i hg).1
  rw [pV_n] at v4
  have e66 : I 66 q = nI n := (ho 66 q (by omega) (by omega) (by omega) (by omega)).trans hr.2.2.2.2.2.1
  have e2 : (2 : Int32) * nI i = nI (2 * i) := nI_mul 2 i
  have out : ¬ pGo v L q n a c i → K_X9_players_69 l G d P I L (nI q) (nI a) (nI c) (nI i) 0 := fun z => t_X9_players_69 ⟨fun _ => stop z, fun z => absurd rfl z⟩
  refine t_X9_players_69 ⟨fun z => absurd z one, fun _ => ⟨fun z => stop fun g => ?_, fun z => ⟨q, rfl, hq, fun w => out fun g => ?_, fun w => ⟨fun u => out fun g => ?_, fun u => ?_⟩⟩⟩⟩
  · have := (nI_le_iff (by omega) (by omega)).mp z
    have := g.1
    omega
  · rw [e66, e2, Int32.lt_iff_toInt_lt, i_sub3 hn (by omega), nI_toInt ha] at w
    have := g.2.1
    omega
  · rw [e6] at u
    have := (nI_le_iff (a := 4) (by omega) (by omega)).mp u
    have := g.2.2.1
    omega
  · have z' : ¬ c ≤ i := fun y => z (nI_le y (by omega))
    rw [e66, e2, Int32.lt_iff_toInt_lt, i_sub3 hn (by omega), nI_toInt ha] at w
    have u' : ¬ 4 ≤ vn v + i := fun y => u (by rw [e6]; exact nI_le (a := 4) y (by omega))
    have j1 : (60 : Int32) * nI q + nI a + (2 : Int32) * nI i = nI (60 * q + a + 2 * i) := by rw [show (60 : Int32) * nI q = nI (60 * q) from nI_mul 60 q, nI_add, nI_2k]
    have r1 : L 67 (60 * q + a + 2 * i) = L (32 + 2 * q) (a + 2 * i) := by rw [hr.2.2.2.2.2.2 (a + 2 * i) (by omega), show 60 * q + (a + 2 * i) = 60 * q + a + 2 * i by omega]
    have r2 : L 67 (60 * q + a + 2 * i + 1) = L (32 + 2 * q) (a + 2 * i + 1) := by rw [hr.2.2.2.2.2.2 (a + 2 * i + 1) (by omega), show 60 * q + (a + 2 * i + 1) = 60 * q + a + 2 * i + 1 by omega]
    refine ⟨60 * q + a + 2 * i, j1, by omega, 60 * q + a + 2 * i + 1, by rw [j1, nI_1], by omega, 1, _, by omega, cIsOneL _ _ (Nat.le_refl 1), ?_⟩
    rintro y _ _ ⟨hy, rfl, rfl⟩
    rw [r1, r2] at hy
    by_cases h12 : (∃ h, h ≤ 12 ∧ L (32 + 2 * q) (a + 2 * i) = lN h) ∧ ∃ y, y ≤ 5 ∧ L (32 + 2 * q) (a + 2 * i + 1) = lN y
    · obtain rfl := zB_t hy h12
      obtain ⟨⟨h, p1, p3⟩, y, p2, p4⟩ := h12
      refine ⟨fun z => absurd z one, fun _ => ?_⟩
      rw [r1, r2, p3, p4, l_32 h (by omega), l_32 y (by omega)]
      refine ⟨2, _, by omega, cAdds9 (pV_ok hv i hg) hG (by rw [pV_n]; omega) p1 p2 (Nat.le_refl 2), ?_⟩
      rintro _ _ ⟨rfl, rfl⟩
      have g : pGo v L q n a c i := ⟨by omega, by omega, by omega, h, y, p1, p2, p3, p4⟩
      have eV : pV v L q a (i + 1) = vCome (pV v L q a i) h y := by
        show vCome _ (eN L q (a + 2 * i)) (eN L q (a + 2 * i + 1)) = _
        rw [eN_of (by omega) p3, eN_of (by omega) p4]
      have eVn : vn (vCome (pV v L q a i) h y) = vn v + (i + 1) := by rw [← eV, pV_n]
      have hM1 := mAd_m (h := h) (y := y) (pV_ok hv i hg) hG (by rw [pV_n]; omega)
      have f0 := mFirst (vCome_ok (pV_ok hv i hg) (by rw [pV_n]; omega) p1 p2) hM1
      have nx := next g (mSt (vCome (pV v L q a i) h y) (xI (mAd (pV v L q a i) I h y) 44 36 0)) ⟨?_, fun x b q1 q2 q3 q4 => ?_, fun z => absurd z (by omega), fun _ => ⟨?_, ?_, ?_, ?_⟩⟩
      · rw [nI_1]; exact nx
      · rw [eV]
        exact hM1.off (by rw [mSt_ne (by omega), xI_ne (by omega)]) (by rw [mSt_ne (by omega), xI_ne (by omega)]) (fun x b _ => by rw [mSt_ne (by omega), xI_ne (by omega)])
      · rw [mSt_ne (by omega), xI_ne (by omega), mAd_ne (by omega) (by omega) (by omega)]; exact ho x b q1 q2 q3 q4
      · rw [mSt_ne (by omega), xI_eq]
      · rw [← eVn]; rfl
      · rfl
      · rw [eV, ← eVn, ← f0]
        show xI (mAd _ I h y) 44 36 0 49 0 = _
        exact xI_ne (by omega)
    · obtain rfl := zB_f hy h12
      refine ⟨fun _ => out fun g => ?_, fun z => absurd rfl z⟩
      obtain ⟨_, _, _, h, y, p1, p2, p3, p4⟩ := g
      exact h12 ⟨⟨h, p1, p3⟩, y, p2, p4⟩
theorem cPl9 {d q s n a c K : Nat} {I0 : zIM} {L : zLM} {v : Vw} {P : Int32 → zIM → zLM → Prop} (hq : q < 6) (hv : vOk v) (hr : rRow q s n I0 L) (ha : a < 2 ^ 31) (hc : c ≤ 4) (hd : 4 ≤ d) (hg : ∀ j, j < K → pGo v L q n a c j) (hK : ¬ pGo v L q n a c K) (hK4 : K ≤ 4) (hP : ∀ I, pM v L q a K I0 I → P (nI K) I L) : ∀ f i (I : zIM), f + i = K → pM v L q a i I0 I → K_X9_players_69 l G d P I L (nI q) (nI a) (nI c) (nI i) 1
  | 0, i, I, hf, hM => by
    obtain rfl : i = K := by omega
    exact cPl9_step hq hv hr ha hc hK4 hd hg hM (fun _ => hP I hM) (fun g => absurd g hK)
  | f + 1, i, I, hf, hM => cPl9_step hq hv hr ha hc (by omega) hd (fun j hj => hg j (by omega)) hM (fun z => absurd (hg i (by omega)) z) (fun _ I' hM' => cPl9 hq hv hr ha hc hd hg hK hK4 hP f (i + 1) I' (by omega) hM')
end PR
theorem rel_pl {v : Vw} {o : Lw} {nb q n a c k : Nat} {I I1 J : zIM} {L : zLM} (hv : vOk v) (hR : Rel I L) (hLw : rLaw o I) (hTp : rTp I) (hCh : rCh v I) (hBd : rBd nb I) (hTr : rTr I) (hSh : rSh nb I L) (hg : ∀ j, j < k → pGo v L q n a c j) (hC : pC v L q a k I I1) (hM : pM v L q a k I1 J) : Rel J L := by
  by_cases hk : k = 0
  · subst hk
    rw [hM.2.2.1 rfl, hC.2.2.2.1 rfl]
    exact hR
  obtain ⟨hG, hF, ho, -, h1⟩ := hC
  obtain ⟨hm, mo, -, m1⟩ := hM
  obtain ⟨c1, c2, c3, c4, c5⟩ := h1 (by omega)
  obtain ⟨d1, d2, d3, d4⟩ := m1 (by omega)
  have hvk := pV_ok hv k hg
  have ds := dStart hvk
  rw [pV_n] at ds
  have off : ∀ x b, 9 ≤ x → ¬ (x = 20 ∧ b < 5) → ¬ (x = 14 ∧ b = 8) → x ≠ 45 → x ≠ 49 → x ≠ 50 → (x = 44 → b ≠ 6 ∧ b ≠ 33 ∧ b ≠ 34 ∧ b ≠ 35 ∧ b ≠ 36) → J x b = I x b := fun x b q1 q2 q3 q4 q5 q6 q7 => (mo x b q4 q5 q6 q7).trans (ho x b q1 q2 q3)
  have mo' : ∀ x b, x < 44 → J x b = I1 x b := fun x b h => mo x b (by omega) (by omega) (by omega) (by omega)
  exact ⟨pV v L q a k, o, nb, hvk, hG.off (fun x b _ _ => mo' x b (by omega)), hF.off (fun b => mo' 8 b (by omega)), hm,
    hLw.off (off _ _ (by omega) (by omega) (by omega) (by omega) (by omega) (by omega) (by omega)) (fun b => off _ _ (by omega) (by omega) (by omega) (by omega) (by omega) (by omega) (by omega)) (off _ _ (by omega) (by omega) (by omega) (by omega) (by omega) (by omega) (by omega)) (fun b => off _ _ (by omega) (by omega) (by omega) (by omega) (by omega) (by omega) (by omega)), Or.inl ((mo' _ _ (by omega)).trans c1),
    hTp.off (off _ _ (by omega) (by omega) (by omega) (by omega) (by omega) (by omega) (by omega)) (off _ _ (by omega) (by omega) (by omega) (by omega) (by omega) (by omega) (by omega)) (fun a b q => off _ _ (by omega) (by omega) (by omega) (by omega) (by omega) (by omega) (by omega)),
    ⟨_, 0, _, ds, (mo' _ _ (by omega)).trans c2, (mo' _ _ (by omega)).trans (c3.trans nI_0.symm), (mo' _ _ (by omega)).trans c4, d2, d3.trans nI_0.symm, d4⟩, Or.inl ⟨(mo' _ _ (by omega)).trans c5, d1⟩,
    hCh.off (by rw [pV_n]; omega) (off _ _ (by omega) (by omega) (by omega) (by omega) (by omega) (by omega) (by omega)) (off _ _ (by omega) (by omega) (by omega) (by omega) (by omega) (by omega) (by omega)) (off _ _ (by omega) (by omega) (by omega) (by omega) (by omega) (by omega) (by omega)) (off _ _ (by omega) (by omega) (by omega) (by omega) (by omega) (by omega) (by omega)) (fun a b q => off _ _ (by omega) (by omega) (by omega) (by omega) (by omega) (by omega) (by omega)),
    hBd.off (off _ _ (by omega) (by omega) (by omega) (by omega) (by omega) (by omega) (by omega)) (off _ _ (by omega) (by omega) (by omega) (by omega) (by omega) (by omega) (by omega)) (fun a b q => off _ _ (by omega) (by omega) (by omega) (by omega) (by omega) (by omega) (by omega)),
    hTr.off (off _ _ (by omega) (by omega) (by omega) (by omega) (by omega) (by omega) (by omega)) (off _ _ (by omega) (by omega) (by omega) (by omega) (by omega) (by omega) (by omega)) (fun a b q => off _ _ (by omega) (by omega) (by omega) (by omega) (by omega) (by omega) (by omega)),
    hSh.off (Nat.le_refl _) (fun a b q => off _ _ (by omega) (by omega) (by omega) (by omega) (by omega) (by omega) (by omega)) (fun _ _ _ => rfl)⟩
section PT
variable {l : Launch} {G : zG}
theorem cPlayers8 {d q c : Nat} {I : zIM} {L : zLM} {P : Int32 → zIM → zLM → Prop} {x2 : Int32} (hq : q < 6) (hc : c ≤ 4) (hc1 : 1 ≤ c) (hd : 1 ≤ d)
    (c1 : ¬ I (31 + 2 * q) 0 = -2 → ¬ I (31 + 2 * q) 0 = 0 → P (-12) I L)
    (c2 : I (31 + 2 * q) 0 = -2 → P 0 I L)
    (c3 : I (31 + 2 * q) 0 = 0 → x2 < 0 → P 0 I L)
    (c4 : I (31 + 2 * q) 0 = 0 → ¬ x2 < 0 → K_X8_players_77 l G d P I L q x2 (nI c) (I (31 + 2 * q) 2 - x2) 0) :
    zCi l G d mX8_players [.ref 0, .int (nI q), .int x2, .int (nI c)] I L P := by
  have one : ¬ (1 : Int32) = 0 := by decide
  have none : P 0 I L → K_X8_players_77 l G d P I L q x2 (nI c) 0 0 := fun h => t_X8_players_77 hq ⟨fun _ => h, fun _ => ⟨fun _ => h, fun z => absurd (by decide) z⟩⟩
  refine t_X8_players ⟨0, _, hd, cWithin8 (nI q) 5 (by omega), ?_⟩
  rintro y _ _ ⟨hy, rfl, rfl⟩
  obtain rfl := zB_t hy ⟨q, Nat.zero_le _, by omega, rfl⟩
  refine ⟨fun z => absurd z one, fun _ => ⟨fun z => absurd z (nI_nlt (b := 1) hc1 (by omega)), fun _ => ⟨fun _ => ⟨q, rfl, hq, fun z => ⟨fun _ => none (c2 z), fun w => absurd (z.symm.trans w) (by decide)⟩, fun z => ⟨fun z0 => ⟨fun w => absurd z0 w, fun _ => ⟨fun w => none (c3 z0 w), fun w => c4 z0 w⟩⟩, fun z0 => c1 z z0⟩⟩, fun z => absurd (nI_le (b := 4) hc (by omega)) z⟩⟩⟩
theorem cPlayers9 {d q c : Nat} {I : zIM} {L : zLM} {P : Int32 → zIM → zLM → Prop} {x2 : Int32} (hq : q < 6) (hc : c ≤ 4) (hc1 : 1 ≤ c) (hd : 2 ≤ d)
    (c1 : ¬ I 65 q < 0 → ¬ I 65 q = 50 → P (-12) I L)
    (c2 : I 65 q < 0 → P 0 I L)
    (c3 : I 65 q = 50 → x2 < 0 → P 0 I L)
    (c4 : I 65 q = 50 → ¬ x2 < 0 → K_X9_players_69 l G d P I L (nI q) x2 (nI c) 0 1) :
    zCi l G d mX9_players [.ref 44, .int (nI q), .int x2, .int (nI c)] I L P := by
  have one : ¬ (1 : Int32) = 0 := by decide
  have none : P 0 I L → K_X9_players_69 l G d P I L (nI q) x2 (nI c) 0 0 := fun h => t_X9_players_69 ⟨fun _ => h, fun z => absurd rfl z⟩
  refine t_X9_players ⟨1, _, hd, cIsShelf9 (nI q) (Nat.le_refl 1), ?_⟩
  rintro y _ _ ⟨hy, rfl, rfl⟩
  obtain rfl := zB_t hy ⟨q, Nat.zero_le _, by omega, rfl⟩
  refine ⟨fun z => absurd z one, fun _ => ⟨0, _, by omega, cWithin9 (nI c) 1 4 (by omega) (by omega), ?_⟩⟩
  rintro y _ _ ⟨hy, rfl, rfl⟩
  obtain rfl := zB_t hy ⟨c, hc1, hc, rfl⟩
  exact ⟨fun _ => ⟨q, rfl, hq, fun z => ⟨fun _ => none (c2 z), fun w => absurd z (by rw [w]; decide)⟩, fun z => ⟨fun z0 => ⟨fun w => absurd z0 w, fun _ => ⟨fun w => none (c3 z0 w), fun w => c4 z0 w⟩⟩, fun z0 => c1 z z0⟩⟩, fun z => absurd z one⟩
theorem iN_1 {x : Int32} : iN x 1 4 ↔ ¬ x < 1 ∧ x ≤ 4 := by
  rw [iN_iff (by omega), Int32.lt_iff_toInt_lt, Int32.le_iff_toInt_le, show (1 : Int32).toInt = 1 from by decide, show (4 : Int32).toInt = 4 from by decide]
  omega
theorem s_players (x1 x2 x3 : Int32) : zStep l G mX8_players mX9_players [.int x1, .int x2, .int x3] := by
  rintro I L ⟨v, o, nb, hv, hG, hF, hM, hLw, hNm, hTp, hDd, hIm, hCh, hBd, hTr, hSh⟩
  have hR : Rel I L := ⟨v, o, nb, hv, hG, hF, hM, hLw, hNm, hTp, hDd, hIm, hCh, hBd, hTr, hSh⟩
  have one : ¬ (1 : Int32) = 0 := by decide
  by_cases hin : iN x1 0 5 ∧ iN x3 1 4
  rotate_left
  · refine ⟨zE (-1) I L, ?_, ?_⟩
    · refine t_X8_players ⟨0, _, by decide, cWithin8 x1 5 (by omega), ?_⟩
      rintro y _ _ ⟨hy, rfl, rfl⟩
      by_cases h1 : iN x1 0 5
      · obtain rfl := zB_t hy h1
        exact ⟨fun c => absurd c one, fun _ => ⟨fun _ => zE.of rfl, fun z => ⟨fun w => absurd ⟨h1, iN_1.mpr ⟨z, w⟩⟩ hin, fun _ => zE.of rfl⟩⟩⟩
      · obtain rfl := zB_f hy h1
        exact ⟨fun _ => zE.of rfl, fun c => absurd rfl c⟩
    · rintro _ _ _ ⟨rfl, rfl, rfl⟩
      refine t_X9_players ⟨1, _, by decide, cIsShelf9 x1 (Nat.le_refl 1), ?_⟩
      rintro y _ _ ⟨hy, rfl, rfl⟩
      by_cases h1 : iN x1 0 5
      · obtain rfl := zB_t hy h1
        refine ⟨fun c => absurd c one, fun _ => ⟨0, _, by decide, cWithin9 x3 1 4 (by omega) (by omega), ?_⟩⟩
        rintro y _ _ ⟨hy, rfl, rfl⟩
        obtain rfl := zB_f hy (fun z => hin ⟨h1, z⟩)
        exact ⟨fun c => absurd rfl c, fun _ => ⟨rfl, hR⟩⟩
      · obtain rfl := zB_f hy h1
        exact ⟨fun _ => ⟨rfl, hR⟩, fun c => absurd rfl c⟩
  obtain ⟨⟨q, -, hq, rfl⟩, c, hc1, hc, rfl⟩ := hin
  have t1 := rS1_c (hSh q (by omega)) hBd.1
  have m20 : ¬ (-2 : Int32) = 0 := by decide
  by_cases hrow : ∃ n, rRow q 0 n I L
  · obtain ⟨n, r⟩ := hrow
    have e0 : I (31 + 2 * q) 0 = 0 := r.2.2.1.trans nI_0
    have e5 : I 65 q = 50 := r.2.2.2.2.1
    have m52 : ¬ (50 : Int32) < 0 := by decide
    by_cases hx : x2 < 0
    · refine ⟨zE 0 I L, cPlayers8 (by omega) hc hc1 (by decide) (fun _ z => absurd e0 z) (fun _ => zE.of rfl) (fun _ _ => zE.of rfl) (fun _ z => absurd hx z), ?_⟩
      rintro _ _ _ ⟨rfl, rfl, rfl⟩
      exact cPlayers9 (by omega) hc hc1 (by decide) (fun _ z => absurd e5 z) (fun _ => ⟨rfl, hR⟩) (fun _ _ => ⟨rfl, hR⟩) (fun _ z => absurd hx z)
    · obtain ⟨a, ha, rfl⟩ := i_nat hx
      refine ⟨fun y I' L' => ∃ k, (∀ j, j < k → pGo v L q n a c j) ∧ ¬ pGo v L q n a c k ∧ pC v L q a k I I' ∧ nI k = y ∧ L = L', cPlayers8 (by omega) hc hc1 (by decide) (fun _ z => absurd e0 z) (fun z => absurd (z.symm.trans e0) m20) (fun _ z => absurd z hx) (fun _ _ => ?_), ?_⟩
      · rw [r.2.2.2.1, ← nI_0]
        exact cPl8 (by omega) hv r.2.1 ha hc (by decide) (fun k I' g1 g2 g3 => ⟨k, g1, g2, g3, rfl, rfl⟩) c 0 I (by omega) (fun j hj => absurd hj (Nat.not_lt_zero _)) ⟨hG, hF, fun _ _ _ _ _ => rfl, fun _ => rfl, fun z => absurd z (Nat.lt_irrefl 0)⟩
      · rintro _ I1 _ ⟨k, g1, g2, g3, rfl, rfl⟩
        have off : ∀ x b, 21 ≤ x → I1 x b = I x b := fun x b h => g3.2.2.1 x b (by omega) (by omega) (by omega)
        have r1 : rRow q 0 n I1 L := ⟨r.1, r.2.1, (off _ _ (by omega)).trans r.2.2.1, (off _ _ (by omega)).trans r.2.2.2.1, (off _ _ (by omega)).trans r.2.2.2.2.1, (off _ _ (by omega)).trans r.2.2.2.2.2.1, r.2.2.2.2.2.2⟩
        have hk4 : k ≤ 4 := by
          cases k with
          | zero => omega
          | succ j => have := (g1 j (Nat.lt_succ_self j)).1; omega
        have e5' : I1 65 q = 50 := (off _ _ (by omega)).trans e5
        refine cPlayers9 (by omega) hc hc1 (by decide) (fun _ z => absurd e5' z) (fun z => absurd z (by rw [e5']; exact m52)) (fun _ z => absurd z hx) (fun _ _ => ?_)
        rw [← nI_0]
        have hM1 : mG v I1 := hM.off (off _ _ (by omega)) (off _ _ (by omega)) (fun a b _ => off _ _ (by omega))
        exact cPl9 (by omega) hv r1 ha hc (by decide) g1 g2 hk4 (fun J hJ => ⟨rfl, rel_pl hv hR hLw hTp hCh hBd hTr hSh g1 g3 hJ⟩) k 0 I1 (by omega) ⟨hM1, fun _ _ _ _ _ _ => rfl, fun _ => rfl, fun z => absurd z (Nat.lt_irrefl 0)⟩
  · rcases t1 with ⟨a1, a2⟩ | h
    · refine ⟨zE 0 I L, cPlayers8 (by omega) hc hc1 (by decide) (fun z => absurd a1 z) (fun _ => zE.of rfl) (fun z => absurd (a1.symm.trans z) m20) (fun z => absurd (a1.symm.trans z) m20), ?_⟩
      rintro _ _ _ ⟨rfl, rfl, rfl⟩
      exact cPlayers9 (by omega) hc hc1 (by decide) (fun z => absurd (by rw [a2]; decide) z) (fun _ => ⟨rfl, hR⟩) (fun z => absurd (a2.symm.trans z) (by decide)) (fun z => absurd (a2.symm.trans z) (by decide))
    · have n0 : ¬ I (31 + 2 * q) 0 = 0 := fun z => by
        rcases h with ⟨b, hb, a1, a2⟩ | ⟨s, n, r⟩
        · rw [a1] at z; exact absurd z (by decide)
        · have := r.1
          obtain rfl := nI_inj (a := s) (b := 0) (by omega) (by omega) (r.2.2.1.symm.trans (z.trans nI_0.symm))
          exact hrow ⟨_, r⟩
      have n2 : ¬ I (31 + 2 * q) 0 = -2 := fun z => by
        rcases h with ⟨b, hb, a1, a2⟩ | ⟨s, n, r⟩
        · rw [a1] at z; exact absurd z (by decide)
        · have := r.1
          exact (nI_nm (by omega)).2 (r.2.2.1.symm.trans z)
      have p1 : ¬ I 65 q < 0 := by
        rcases h with ⟨b, hb, a1, a2⟩ | ⟨s, n, r⟩
        · rw [a2]; exact nI_pos (by omega)
        · have := r.1
          rw [r.2.2.2.2.1]; exact nI_pos (by omega)
      have p5 : ¬ I 65 q = 50 := fun z => by
        rcases h with ⟨b, hb, a1, a2⟩ | ⟨s, n, r⟩
        · have := nI_inj (b := 50) (by omega) (by omega) (a2.symm.trans z)
          omega
        · have := r.1
          have e := nI_inj (b := 50) (by omega) (by omega) (r.2.2.2.2.1.symm.trans z)
          obtain rfl : s = 0 := by omega
          exact hrow ⟨_, r⟩
      refine ⟨zE (-12) I L, cPlayers8 (by omega) hc hc1 (by decide) (fun _ _ => zE.of rfl) (fun z => absurd z n2) (fun z => absurd z n0) (fun z => absurd z n0), ?_⟩
      rintro _ _ _ ⟨rfl, rfl, rfl⟩
      exact cPlayers9 (by omega) hc hc1 (by decide) (fun _ _ => ⟨rfl, hR⟩) (fun z => absurd z p1) (fun z => absurd z p5) (fun z => absurd z p5)
end PT
